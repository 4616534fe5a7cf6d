/-! the class' water is solved; worlds -/
theorem wa_solve_e {μ : Mem} {w p s : Nat} {P : Pl} {S : Nat → Int32} (hk : PlOK P) (hS : StOK P S) (hP : PlC μ p P) (hs : StC μ s P S) : ∃ μ', wa_solve w p s μ = some ((), μ') ∧ WaC μ' w P S := by
  obtain ⟨μ1, e1, a0, a1, a2, a3, a4, a33, a34, a35, a36, a37, a38⟩ := wa_clear_e μ w
  have f1 := f_wa_clear e1
  have P1 : PlC μ1 p P := hP.fr f1 (fun _ _ => rfl) (fun _ => rfl) (fun _ => rfl) (fun _ => rfl)
  have S1 : StC μ1 s P S := hs.fr f1 (fun _ _ _ => rfl) (fun _ => rfl) (fun _ => rfl) (fun _ => rfl) (fun _ => rfl)
  have hk1 := hk.1
  have hk2 := hk.2.1
  have hs9 := hS.2.2.2.2
  unfold wa_solve
  by_cases h0 : pLg P = 0
  · have h18 := P1.lg
    rw [h0] at h18
    have hsp : mI μ1 26 s 4 = nI (sS S) := S1.sp.trans hS.2.2.1
    simp (disch := omega) only [↓ob_eq e1, h18, hsp, oL_nI, ↓mb_e, ↓reduceIte]
    have hoff : ¬ (0 < pLg P ∧ ¬ Fl P S) := fun z => by omega
    have hnf : ¬ wFl P S := fun z => by have := z.1; omega
    refine ⟨_, rfl, ?_, ?_, ?_, ?_, ?_, fun l hl => by omega, fun f hf => ?_, fun f hf => ?_⟩
    · exact (show mI μ1 32 w 0 = nI 0 from a0).trans (ifP_f hnf).symm
    · rw [mL_stL, if_neg (by simp), a1, ifP_f hnf, show wUn P S = 1 from ifP_f hoff]; rfl
    · rw [mL_stL, if_pos ⟨rfl, rfl, rfl⟩, show rivO P S = ((sS S : Nat) : Int) from if_pos h0]
    · rw [mL_stL, if_neg (by simp), a3, show kptO P S = 0 from sumZ_0 (fun f _ => by rw [fldO_off hoff, Int.mul_zero])]; rfl
    · rw [mL_stL, if_neg (by simp), a4, show drnO P S = 0 from sumZ_0 (fun f _ => by rw [fldO_off hoff, Int.mul_zero])]; rfl
    · rw [mL_stL, if_neg (by simp), a34 f (by omega), fldO_off hoff]; rfl
    · refine (show mI μ1 35 w f = nI 0 from a35 f (by omega)).trans ?_
      unfold flow
      rw [ifP_f hnf, fldO_off hoff, show wUn P S = 1 from ifP_f hoff]
      rfl
  · obtain ⟨μ2, e2, q2⟩ := wa_partLogs_e hk hS P1 S1 a36 a37
    have f2 := f_wa_partLogs e2
    have P2 : PlC μ2 p P := P1.fr f2 (fun _ _ => rfl) (fun _ => rfl) (fun _ => rfl) (fun _ => rfl)
    have S2 : StC μ2 s P S := S1.fr f2 (fun _ _ _ => rfl) (fun _ => rfl) (fun _ => rfl) (fun _ => rfl) (fun _ => rfl)
    obtain ⟨μ3, q, e3, q3, r3⟩ := wa_reachLogs_e hk hS P2 S2 (by omega) (fun k hk => (f2.I rfl).trans (a38 k hk))
    have f3 := f_wa_reachLogs e3
    have P3 : PlC μ3 p P := P2.fr f3 (fun _ _ => rfl) (fun _ => rfl) (fun _ => rfl) (fun _ => rfl)
    have S3 : StC μ3 s P S := S2.fr f3 (fun _ _ _ => rfl) (fun _ => rfl) (fun _ => rfl) (fun _ => rfl) (fun _ => rfl)
    obtain ⟨μ4, o, e4, q4, r4⟩ := wa_openLogs_e hk hS P3 S3 (fun l hl => (f3.I rfl).trans (q2 l hl).2)
    have f4 := f_wa_openLogs e4
    have P4 : PlC μ4 p P := P3.fr f4 (fun _ _ => rfl) (fun _ => rfl) (fun _ => rfl) (fun _ => rfl)
    have S4 : StC μ4 s P S := S3.fr f4 (fun _ _ _ => rfl) (fun _ => rfl) (fun _ => rfl) (fun _ => rfl) (fun _ => rfl)
    have Q4 : RB μ4 38 w 4 q := fun l hl => (f4.I rfl).trans (q3 l hl)
    obtain ⟨b, e5, r5⟩ := wa_closed_e hk1 Q4 q4
    have hb : b = true ↔ Fl P S := by
      rw [r5, Fl_op]
      refine ⟨fun ⟨l, x, y, z⟩ => ⟨l, x, (r3 l).mp y, fun v => z ((r4 l x).mpr v)⟩, fun ⟨l, x, y, z⟩ => ⟨l, x, (r3 l).mpr y, fun v => z ((r4 l x).mp v)⟩⟩
    have Z : ∀ {r k : Nat}, inT (T_wa_partLogs w p s) r w k = false → inT (T_wa_reachLogs w p s) r w k = false → inT (T_wa_openLogs w p s) r w k = false → mI μ4 r w k = mI μ1 r w k ∧ mL μ4 r w k = mL μ1 r w k := fun x y z => ⟨by rw [f4.I z, f3.I y, f2.I x], by rw [f4.L z, f3.L y, f2.L x]⟩
    have z0 : mI μ4 32 w 0 = nI 0 := (Z rfl rfl rfl).1.trans a0
    have z1 : mL μ4 32 w 1 = 1 := (Z rfl rfl rfl).2.trans a1
    have z2 : mL μ4 32 w 2 = 0 := (Z rfl rfl rfl).2.trans a2
    have z3 : mL μ4 32 w 3 = 0 := (Z rfl rfl rfl).2.trans a3
    have z4 : mL μ4 32 w 4 = 0 := (Z rfl rfl rfl).2.trans a4
    have z33 : ∀ k, k < 4 → mL μ4 33 w k = 0 := fun k hk => (Z rfl rfl rfl).2.trans (a33 k hk)
    have z34 : ∀ k, k < 6 → mL μ4 34 w k = 0 := fun k hk => (Z rfl rfl rfl).2.trans (a34 k hk)
    have z35 : ∀ k, k < 6 → mI μ4 35 w k = nI 0 := fun k hk => (Z rfl rfl rfl).1.trans (a35 k hk)
    have z36 : ∀ l, l < pLg P → mI μ4 36 w l = nI (sp P S l) := fun l hl => by rw [f4.I rfl, f3.I rfl]; exact (q2 l hl).1
    have z37 : ∀ l, l < pLg P → mI μ4 37 w l = nI (lsN P S l) := fun l hl => by rw [f4.I rfl, f3.I rfl]; exact (q2 l hl).2
    by_cases c : b = true
    · have hF := hb.mp c
      rw [if_pos c] at e5
      have hoff : ¬ (0 < pLg P ∧ ¬ Fl P S) := fun z => z.2 hF
      have hfl : wFl P S := ⟨Nat.pos_of_ne_zero h0, hF⟩
      simp (disch := omega) only [↓ob_eq e1, P1.lg, nI_eqF, ↓ob_eq e2, ↓ob_eq e3, ↓ob_eq e4, P4.lg, ↓ob_eq e5, mI_stI, and_self, nI_10, or_true, ↓mb_e, ↓reduceIte]
      refine ⟨_, rfl, ?_, ?_, ?_, ?_, ?_, fun l hl => ?_, fun f hf => ?_, fun f hf => ?_⟩
      · rw [mI_stL, mI_stI, if_pos ⟨rfl, rfl, rfl⟩]; exact (ifP_t hfl).symm
      · rw [mL_stL, if_pos ⟨rfl, rfl, rfl⟩]; exact (ifP_t hfl).symm
      · rw [mL_stL, if_neg (by simp), mL_stI, z2, show rivO P S = 0 from (if_neg h0).trans (sumZ_0 (fun l _ => by rw [wOv_off hoff, Int.mul_zero]))]; rfl
      · rw [mL_stL, if_neg (by simp), mL_stI, z3, show kptO P S = 0 from sumZ_0 (fun f _ => by rw [fldO_off hoff, Int.mul_zero])]; rfl
      · rw [mL_stL, if_neg (by simp), mL_stI, z4, show drnO P S = 0 from sumZ_0 (fun f _ => by rw [fldO_off hoff, Int.mul_zero])]; rfl
      · rw [mL_stL, if_neg (by simp), mL_stI, z33 l (by omega)]
        unfold logO
        rw [wOv_off hoff, Int.mul_zero]; rfl
      · rw [mL_stL, if_neg (by simp), mL_stI, z34 f (by omega), fldO_off hoff]; rfl
      · rw [mI_stL, mI_stI, if_neg (by simp), z35 f (by omega)]
        unfold flow
        rw [ifP_t hfl]
    · have hF : ¬ Fl P S := fun z => c (hb.mpr z)
      rw [if_neg c] at e5
      have P5 : PlC (stI μ4 32 w 0 (nI 0)) p P := P4
      have S5 : StC (stI μ4 32 w 0 (nI 0)) s P S := S4
      have Q5 : RB (stI μ4 32 w 0 (nI 0)) 38 w 4 q := Q4
      obtain ⟨μ6, e6, t6⟩ := wa_makeRows_e hk hS P5 S5 (by omega) Q5 r3 z36
      have f6 := f_wa_makeRows e6
      have P6 : PlC μ6 p P := P5.fr f6 (fun _ _ => rfl) (fun _ => rfl) (fun _ => rfl) (fun _ => rfl)
      have S6 : StC μ6 s P S := S5.fr f6 (fun _ _ _ => rfl) (fun _ => rfl) (fun _ => rfl) (fun _ => rfl) (fun _ => rfl)
      have hla := aM_last hk hS hF
      have hac := TK_aC hla
      obtain ⟨v, hv, ht⟩ := aM_TI hk hS hF
      have hpos := (TK_pos hv ht).1
      obtain ⟨μ7, e7, t7, u7⟩ := wa_solveRows_e (aC_AB hk hS) hk1 (fun k hk4 => by rw [(hac k (by omega)).2.2 hk4]; exact hla k hk4) (fun k hk4 => by
        rw [(hac k (by omega)).1 k k (by omega) (by omega)]
        have := hpos k (by omega)
        omega) t6
      have f7 := f_wa_solveRows e7
      have P7 : PlC μ7 p P := P6.fr f7 (fun _ _ => rfl) (fun _ => rfl) (fun _ => rfl) (fun _ => rfl)
      have S7 : StC μ7 s P S := S6.fr f7 (fun _ _ _ => rfl) (fun _ => rfl) (fun _ => rfl) (fun _ => rfl) (fun _ => rfl)
      obtain ⟨m1, m2⟩ := TK_more hk hS (by omega) hF (4 - pLg P) (by omega)
      rw [show pLg P + (4 - pLg P) = 4 by omega] at m1 m2
      have hU : lastK (aC P S) (pLg P) = wUn P S := by
        have : wUn P S = lastK (aM P S) 4 := ifP_t ⟨by omega, hF⟩
        rw [this, m1]
        by_cases h4 : pLg P = 4
        · rw [h4]
          show TK (aC P S) 3 3 3 = TK (aM P S) 3 3 3
          exact (hac 3 (by omega)).1 3 3 (by omega) (by omega)
        · exact (hac (pLg P) hk1).2.2 (by omega)
      rw [hU] at u7
      have h41 : ∀ l, l < pLg P → mL μ7 41 (4 * w + l) 4 = oL (4 * wOv P S l) := fun l hl => by
        rw [t7 l 4 hl (by decide), (hac (pLg P) hk1).2.1 l (by omega)]
        have : wOv P S l = TK (aM P S) 4 l 4 := ifP_t ⟨by omega, hF⟩
        rw [this, m2 l hl]
      obtain ⟨μ8, e8, w8⟩ := wa_shareOut_e hk hS P7 S7 (by omega) hF (fun l hl => by rw [f7.I rfl, f6.I rfl]; exact z36 l hl) (fun l hl => by rw [f7.I rfl, f6.I rfl]; exact z37 l hl) h41
        (by rw [f7.I (by simp [inT, T_wa_solveRows, inA]), f6.I rfl, mI_stI, if_pos ⟨rfl, rfl, rfl⟩]) u7 (by rw [f7.L (by simp [inT, T_wa_solveRows, inA]), f6.L rfl]; exact z2) (by rw [f7.L (by simp [inT, T_wa_solveRows, inA]), f6.L rfl]; exact z3) (by rw [f7.L (by simp [inT, T_wa_solveRows, inA]), f6.L rfl]; exact z4) (fun k hk => by rw [f7.L rfl, f6.L rfl]; exact z34 k hk)
      refine ⟨μ8, ?_, w8⟩
      simp (disch := omega) only [↓ob_eq e1, P1.lg, nI_eqF, ↓ob_eq e2, ↓ob_eq e3, ↓ob_eq e4, P4.lg, ↓ob_eq e5, mI_stI, and_self, true_or, ↓ob_eq e6, P6.lg, ↓ob_eq e7, ↓ob_eq e8, ↓reduceIte]
/-- a world of the class: plan p, state w + 2 -/
def WoC (μ : Mem) (w p : Nat) (P : Pl) (S : Nat → Int32) : Prop := p < 2 ∧ mR μ 31 w 0 = p ∧ PlC μ p P ∧ LaC μ p P ∧ StC μ (w + 2) P S
theorem WoC.p2 {μ : Mem} {w p : Nat} {P : Pl} {S : Nat → Int32} (h : WoC μ w p P S) : p < 2 := h.1
theorem WoC.r {μ : Mem} {w p : Nat} {P : Pl} {S : Nat → Int32} (h : WoC μ w p P S) : mR μ 31 w 0 = p := h.2.1
theorem WoC.pl {μ : Mem} {w p : Nat} {P : Pl} {S : Nat → Int32} (h : WoC μ w p P S) : PlC μ p P := h.2.2.1
theorem WoC.la {μ : Mem} {w p : Nat} {P : Pl} {S : Nat → Int32} (h : WoC μ w p P S) : LaC μ p P := h.2.2.2.1
theorem WoC.st {μ : Mem} {w p : Nat} {P : Pl} {S : Nat → Int32} (h : WoC μ w p P S) : StC μ (w + 2) P S := h.2.2.2.2
theorem PlC.fo {μ μ' : Mem} {p : Nat} {P : Pl} {T : List At} (h : PlC μ p P) (g : Fr T μ μ') (o : offR [18, 21, 22, 23] T = true) : PlC μ' p P := h.fr g (fun _ _ => offR_f o rfl _ _) (fun _ => offR_f o rfl _ _) (fun _ => offR_f o rfl _ _) (fun _ => offR_f o rfl _ _)
theorem LaC.fo {μ μ' : Mem} {p : Nat} {P : Pl} {T : List At} (h : LaC μ p P) (g : Fr T μ μ') (o : offR [18, 24, 25] T = true) : LaC μ' p P := by
  obtain ⟨cs, h1, h2, h3⟩ := h
  refine ⟨cs, h1, by rw [g.I (offR_f o rfl _ _)]; exact h2, fun k hk => ?_⟩
  obtain ⟨s, a, b, c⟩ := h3 k hk
  exact ⟨s, by rw [g.I (offR_f o rfl _ _)]; exact a, b, fun i hi => by rw [g.I (offR_f o rfl _ _)]; exact c i hi⟩
theorem StC.fo {μ μ' : Mem} {s : Nat} {P : Pl} {S : Nat → Int32} {T : List At} (h : StC μ s P S) (g : Fr T μ μ') (o : offR [26, 27, 28, 29, 30] T = true) : StC μ' s P S := h.fr g (fun _ _ _ => offR_f o rfl _ _) (fun _ => offR_f o rfl _ _) (fun _ => offR_f o rfl _ _) (fun _ => offR_f o rfl _ _) (fun _ => offR_f o rfl _ _)
theorem WoC.fo {μ μ' : Mem} {w p : Nat} {P : Pl} {S : Nat → Int32} {T : List At} (h : WoC μ w p P S) (g : Fr T μ μ') (o : offR [18, 21, 22, 23, 24, 25, 26, 27, 28, 29, 30, 31] T = true) : WoC μ' w p P S := by
  have sub : ∀ (R : List Nat), R.all (fun r => [18, 21, 22, 23, 24, 25, 26, 27, 28, 29, 30, 31].contains r) = true → offR R T = true := fun R hR => by
    unfold offR at o ⊢
    rw [List.all_eq_true] at o ⊢ hR
    intro a ha
    have := o a ha
    cases e : R.contains a.1
    · rfl
    · have h2 := hR a.1 (by simpa using e)
      rw [h2] at this; cases this
  exact ⟨h.p2, (g.R (offR_f o rfl _ _)).trans h.r, h.pl.fo g (sub _ rfl), h.la.fo g (sub _ rfl), h.st.fo g (sub _ rfl)⟩
theorem wo_settle_e {μ : Mem} {w p : Nat} {P : Pl} {S : Nat → Int32} (hk : PlOK P) (hS : StOK P S) (h : WoC μ w p P S) : ∃ μ', wo_settle w μ = some ((), μ') ∧ WoC μ' w p P S ∧ WaC μ' w P S := by
  obtain ⟨μ', e, hw⟩ := wa_solve_e (w := w) hk hS h.pl h.st
  have e2 : wo_settle w μ = some ((), μ') := by
    unfold wo_settle
    have := h.p2
    simp only [h.r, this, ↓ob_eq e, ↓reduceIte]
  exact ⟨μ', e2, h.fo (f_wo_settle e2) rfl, hw⟩

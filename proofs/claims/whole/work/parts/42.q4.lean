/-! another width, hangs, richest -/
theorem wS_ok {P : Pl} {S : Nat → Int32} (hk : PlOK P) (hS : StOK P S) {j v : Nat} (hj : j < 12) (hv : v ≤ 3) : StOK P (up S (18 + j) (nI v)) := by
  have k2 := hk.2.1
  have k3 := hk.2.2.1
  have o : ∀ k, k ≠ 18 + j → up S (18 + j) (nI v) k = S k := fun k hk => up_n _ _ hk
  refine ⟨fun n hn => ?_, fun f hf => ?_, ?_⟩
  · by_cases e : n = j
    · subst e
      unfold sW
      rw [up_s, cl_nI (by omega)]
      exact ⟨rfl, hv⟩
    · have := hS.1 n hn
      unfold sW at this ⊢
      rw [o _ (by omega)]; exact this
  · have := hS.2.1 f hf
    unfold sQ sD sG at this ⊢
    rw [o (6 + f) (by omega), o f (by omega), o (12 + f) (by omega)]; exact this
  · have := hS.2.2
    unfold sS at this ⊢
    rw [o 30 (by omega)]; exact this
theorem WoC.wid {μ : Mem} {w p : Nat} {P : Pl} {S : Nat → Int32} (hk : PlOK P) (h : WoC μ w p P S) {j : Nat} (hj : j < 12) (v : Int32) : WoC (stI μ 27 (w + 2) j v) w p P (up S (18 + j) v) := by
  have k2 := hk.2.1
  have k3 := hk.2.2.1
  have o : ∀ k, k ≠ 18 + j → up S (18 + j) v k = S k := fun k hk => up_n _ _ hk
  refine ⟨h.p2, h.r, h.pl, h.la, fun n hn => ?_, fun f hf => ⟨?_, ?_, ?_⟩, ?_, ?_, ?_⟩
  · rw [mI_stI]
    by_cases e : n = j
    · subst e
      rw [if_pos ⟨rfl, rfl, rfl⟩]; exact (up_s _ _ _).symm
    · rw [if_neg (fun z => e z.2.2), o _ (by omega)]; exact h.st.wi hn
  · rw [o _ (by omega)]; exact h.st.dr hf
  · rw [o _ (by omega)]; exact h.st.qu hf
  · rw [o _ (by omega)]; exact h.st.gr hf
  · rw [o _ (by omega)]; exact h.st.sp
  · rw [o _ (by omega)]; exact h.st.da
  · rw [o _ (by omega)]; exact h.st.pd
/-- world 1 as a copy -/
theorem copy1_e {μ : Mem} {p : Nat} {P : Pl} {S : Nat → Int32} (hk : PlOK P) (h : CCore μ p P S) : ∃ μ', st_become 3 2 μ = some ((), μ') ∧ CCore μ' p P S ∧ WoC μ' 1 p P S := by
  obtain ⟨μ1, e1, a1⟩ := st_become_e hk h.wo.st (show 3 ≠ 2 by decide)
  have c1 := h.fr (f_st_become e1) rfl
  exact ⟨μ1, e1, c1, c1.p2, c1.2.2.1, c1.wo.pl, c1.wo.la, a1⟩
noncomputable def qHangs (P : Pl) (S : Nat → Int32) (x : Int32) : Int32 := if inB x (pFd P) = true then ifP (wFl P S) (nI 0) (if fldO P S (cl x) = 0 then nI 0 else bitI (pNo P) (fun n => dryB P (up S (18 + n) (nI 0)) (cl x))) else -1
theorem dry_t {P : Pl} {S : Nat → Int32} {f : Nat} (c : ¬ wFl P S) : dryB P S f = decide (fldO P S f = 0) := ifP_f c
theorem dry_f {P : Pl} {S : Nat → Int32} {f : Nat} (c : wFl P S) : dryB P S f = false := ifP_t c
theorem s_hangs_e {μ : Mem} {p : Nat} {P : Pl} {S : Nat → Int32} (hk : PlOK P) (hS : StOK P S) (h : CCore μ p P S) (x : Int32) : ∃ μ', s_hangs x μ = some (qHangs P S x, μ') := by
  have k2 := hk.2.1
  have k3 := hk.2.2.1
  have e0 := s_isField_e hk h x
  have f0 := h.wa.fl
  unfold s_hangs qHangs
  rcases inB_cases x (show pFd P < 2147483648 by omega) with ⟨a, f, hf, e⟩ | ⟨a, -⟩
  · subst e
    rw [a] at e0
    have hb6 : inB (nI f) 6 = true := inB_nI (by omega) (by omega)
    by_cases c0 : wFl P S
    · rw [flI_t c0] at f0
      rw [ifP_t c0]
      exact ⟨μ, by simp only [↓ob_eq e0, a, b01I, nI_10, f0, ↓reduceIte]⟩
    · rw [flI_f c0] at f0
      rw [ifP_f c0]
      have hb := fldO_bd hk hS f
      have ez : (lg_cmp (oL (fldO P S f)) (0 : Int64) = nI 0) = (fldO P S f = 0) := lg_z (by omega) (by omega)
      by_cases z : fldO P S f = 0
      · exact ⟨μ, by simp only [↓ob_eq e0, a, b01I, nI_10, f0, hb6, cl_nI (show f < 2147483648 by omega), h.wa.fo hf, ez, eq_true z, ↓reduceIte]⟩
      · simp only [↓ob_eq e0, a, b01I, nI_10, f0, hb6, cl_nI (show f < 2147483648 by omega), h.wa.fo hf, ez, eq_false z, ↓reduceIte]
        refine fixN_up (fun i (self : Int32 → Int32 → Mem → Option (Int32 × Mem)) => ∀ μ, CCore μ p P S → ∃ μ', self (bitI i (fun n => dryB P (up S (18 + n) (nI 0)) f)) (nI i) μ = some (bitI (pNo P) (fun n => dryB P (up S (18 + n) (nI 0)) f), μ')) (pNo P) ?_ ?_ 60000 0 (by omega) (by omega) μ h
        · intro i self hi ih μ h
          have hp2 := h.p2
          obtain ⟨μ1, e1, c1, a1⟩ := copy1_e hk h
          have h12 : i < 12 := by omega
          have a2 := a1.wid hk h12 (nI 0)
          have g2 : Fr [(27, some 3, none)] μ1 (stI μ1 27 3 i (nI 0)) := Fr.stI (Fr.rf _ _) (iT 0 rfl inA_en)
          have c2 := c1.fr g2 rfl
          have hS2 := wS_ok hk hS h12 (v := 0) (by omega)
          obtain ⟨μ3, e3, a3, b3⟩ := wo_settle_e hk hS2 a2
          have c3 := c2.fr (f_wo_settle e3) rfl
          have f3 := b3.fl
          have hb2 := fldO_bd hk hS2 f
          have ez2 : (lg_cmp (oL (fldO P (up S (18 + i) (nI 0)) f)) (0 : Int64) = nI 0) = (fldO P (up S (18 + i) (nI 0)) f = 0) := lg_z (by omega) (by omega)
          rw [bitI_s] at ih
          unfold s_hangs_B46
          by_cases cf : wFl P (up S (18 + i) (nI 0))
          · rw [flI_t cf] at f3
            rw [if_neg (by rw [dry_f cf]; decide)] at ih
            simp (disch := omega) only [h.pn, hp2, h.wo.pl.no, nI_leF, ↓ob_eq e1, inB_nI, cl_nI, ↓ob_eq e3, f3, nI_10, nI_add, ↓reduceIte]
            exact ih _ c3
          · rw [flI_f cf] at f3
            by_cases z2 : fldO P (up S (18 + i) (nI 0)) f = 0
            · rw [if_pos (by rw [dry_t cf]; exact decide_eq_true z2)] at ih
              simp (disch := omega) only [h.pn, hp2, h.wo.pl.no, nI_leF, ↓ob_eq e1, inB_nI, cl_nI, ↓ob_eq e3, f3, b3.fo hf, ez2, eq_true z2, nI_add, ↓reduceIte]
              exact ih _ c3
            · rw [if_neg (by rw [dry_t cf]; simpa using z2)] at ih
              simp (disch := omega) only [h.pn, hp2, h.wo.pl.no, nI_leF, ↓ob_eq e1, inB_nI, cl_nI, ↓ob_eq e3, f3, b3.fo hf, ez2, eq_false z2, nI_add, ↓reduceIte]
              exact ih _ c3
        · intro self μ h
          have hp2 := h.p2
          unfold s_hangs_B46
          simp (disch := omega) only [h.pn, hp2, h.wo.pl.no, nI_leT, ↓reduceIte]
          exact ⟨μ, rfl⟩
  · rw [a] at e0
    exact ⟨μ, by simp only [↓ob_eq e0, a, b01I, Bool.false_eq_true, ↓reduceIte]⟩
theorem m_hangs_e {μ : Mem} {lv : Nat} {P : Pl} {S : Nat → Int32} (hk : PlOK P) (hS : StOK P S) (h : MCore μ lv P S) (x : Int32) : ∃ μ', m_hangs x μ = some (qHangs P S x, μ') := by
  have k2 := hk.2.1
  have k3 := hk.2.2.1
  have e0 := m_isField_e hk h.pl x
  unfold m_hangs qHangs
  rcases inB_cases x (show pFd P < 2147483648 by omega) with ⟨a, f, hf, e⟩ | ⟨a, -⟩
  · subst e
    rw [a] at e0
    obtain ⟨μ1, e1, A1, W1, -, -, H1⟩ := m_copies_e hk hS h
    have f0 := W1.fl
    have hf6 : f < 6 := by omega
    have e2 := m_fieldOver_e hk hS A1.pl A1.rw W1 hf6
    by_cases c0 : wFl P S
    · rw [flI_t c0] at f0
      rw [ifP_t c0]
      exact ⟨μ1, by simp only [↓ob_eq e0, ↓ob_eq e1, a, b01I, nI_10, f0, ↓reduceIte]⟩
    · rw [flI_f c0] at f0
      rw [ifP_f c0]
      have hb := fldO_bd hk hS f
      have ez : (lg_cmp (oL (fldO P S f)) (0 : Int64) = nI 0) = (fldO P S f = 0) := lg_z (by omega) (by omega)
      by_cases z : fldO P S f = 0
      · exact ⟨μ1, by simp only [↓ob_eq e0, ↓ob_eq e1, ↓ob_eq e2, a, b01I, nI_10, f0, cl_nI (show f < 2147483648 by omega), ez, eq_true z, ↓reduceIte]⟩
      · simp only [↓ob_eq e0, ↓ob_eq e1, ↓ob_eq e2, a, b01I, nI_10, f0, cl_nI (show f < 2147483648 by omega), ez, eq_false z, ↓reduceIte]
        refine fixN_up (fun i (self : Int32 → Int32 → Mem → Option (Int32 × Mem)) => ∀ μ, MCore μ lv P S → ∃ μ', self (bitI i (fun n => dryB P (up S (18 + n) (nI 0)) f)) (nI i) μ = some (bitI (pNo P) (fun n => dryB P (up S (18 + n) (nI 0)) f), μ')) (pNo P) ?_ ?_ 60000 0 (by omega) (by omega) μ1 H1
        · intro i self hi ih μ h
          have hl2 := h.pl.l2
          obtain ⟨μ2, e2, A2, W2, -, -, H2⟩ := m_copies_e hk hS h
          have h12 : i < 12 := by omega
          have hS2 := wS_ok hk hS h12 (v := 0) (by omega)
          have g3 : Fr [(89, none, none)] μ2 (stI μ2 89 0 (18 + i) (nI 0)) := Fr.stI (Fr.rf _ _) (iT 0 rfl inA_nn)
          have r3 := A2.rw.up (18 + i) (nI 0)
          have p3 := A2.pl.fr g3 rfl rfl
          obtain ⟨μ4, e4, W4⟩ := m_parts_e hk hS2 p3 r3
          have g4 := f_m_parts e4
          have H4 := (H2.fr g3 rfl).fr g4 rfl
          have P4 := p3.fr g4 rfl rfl
          have R4 := r3.fr g4 rfl
          have f3 := W4.fl
          have e5 := m_fieldOver_e hk hS2 P4 R4 W4 hf6
          have hb2 := fldO_bd hk hS2 f
          have ez2 : (lg_cmp (oL (fldO P (up S (18 + i) (nI 0)) f)) (0 : Int64) = nI 0) = (fldO P (up S (18 + i) (nI 0)) f = 0) := lg_z (by omega) (by omega)
          rw [bitI_s] at ih
          unfold m_hangs_B37
          by_cases cf : wFl P (up S (18 + i) (nI 0))
          · rw [flI_t cf] at f3
            rw [if_neg (by rw [dry_f cf]; decide)] at ih
            simp (disch := omega) only [h.pl.lv, h.pl.no, nI_leF, ↓ob_eq e2, inB_nI, cl_nI, nI_add, ↓ob_eq e4, f3, nI_10, ↓reduceIte]
            exact ih _ H4
          · rw [flI_f cf] at f3
            by_cases z2 : fldO P (up S (18 + i) (nI 0)) f = 0
            · rw [if_pos (by rw [dry_t cf]; exact decide_eq_true z2)] at ih
              simp (disch := omega) only [h.pl.lv, h.pl.no, nI_leF, ↓ob_eq e2, inB_nI, cl_nI, nI_add, ↓ob_eq e4, f3, ↓ob_eq e5, ez2, eq_true z2, ↓reduceIte]
              exact ih _ H4
            · rw [if_neg (by rw [dry_t cf]; simpa using z2)] at ih
              simp (disch := omega) only [h.pl.lv, h.pl.no, nI_leF, ↓ob_eq e2, inB_nI, cl_nI, nI_add, ↓ob_eq e4, f3, ↓ob_eq e5, ez2, eq_false z2, ↓reduceIte]
              exact ih _ H4
        · intro self μ h
          have hl2 := h.pl.l2
          unfold m_hangs_B37
          simp (disch := omega) only [h.pl.lv, h.pl.no, inB_nI, cl_nI, nI_leT, ↓reduceIte]
          exact ⟨μ, rfl⟩
  · rw [a] at e0
    exact ⟨μ, by simp only [↓ob_eq e0, a, b01I, Bool.false_eq_true, ↓reduceIte]⟩
/-! richest -/
noncomputable def rch (P : Pl) (S : Nat → Int32) : Nat → Nat
  | 0 => 0
  | i + 1 => if lg_cmp (oL (fldO P S i)) (oL (fldO P S (rch P S i))) ≤ nI 0 then rch P S i else i
theorem rch_1 (P : Pl) (S : Nat → Int32) : rch P S 1 = 0 := by
  show (if _ then rch P S 0 else 0) = 0
  split <;> rfl
theorem rch_lt (P : Pl) (S : Nat → Int32) : ∀ i, 0 < i → rch P S i < i
  | 0, h => by omega
  | i + 1, _ => by
    show (if _ then rch P S i else i) < i + 1
    by_cases e : i = 0
    · subst e; split <;> (show 0 < 1; decide)
    · have := rch_lt P S i (by omega)
      split <;> omega
noncomputable def qRichest (P : Pl) (S : Nat → Int32) : Int32 := if pFd P = 0 then -2 else ifP (wFl P S) (-2) (nI (rch P S (pFd P)))
theorem s_richest_e {μ : Mem} {p : Nat} {P : Pl} {S : Nat → Int32} (hk : PlOK P) (h : CCore μ p P S) : s_richest μ = some (qRichest P S, μ) := by
  have k2 := hk.2.1
  have hp2 := h.p2
  have f0 := h.wa.fl
  unfold s_richest qRichest
  by_cases z : pFd P = 0
  · simp only [h.pn, hp2, h.wo.pl.fd, z, ↓reduceIte]
  · by_cases c0 : wFl P S
    · rw [flI_t c0] at f0
      rw [ifP_t c0]
      simp (disch := omega) only [h.pn, hp2, h.wo.pl.fd, nI_eqF, z, f0, nI_10, ↓reduceIte]
    · rw [flI_f c0] at f0
      rw [ifP_f c0]
      simp (disch := omega) only [h.pn, hp2, h.wo.pl.fd, nI_eqF, z, f0, ↓reduceIte]
      refine fixN_up (fun i (self : Int32 → Int32 → Mem → Option (Int32 × Mem)) => 0 < i → self (nI (rch P S i)) (nI i) μ = some (nI (rch P S (pFd P)), μ)) (pFd P) ?_ ?_ 60000 1 (by omega) (by omega) (by omega) |> (fun q => by rw [rch_1] at q; exact q)
      · intro i self hi ih h0
        have hr := rch_lt P S i h0
        have ih := ih (by omega)
        unfold s_richest_B30
        have er : rch P S (i + 1) = if lg_cmp (oL (fldO P S i)) (oL (fldO P S (rch P S i))) ≤ nI 0 then rch P S i else i := rfl
        simp (disch := omega) only [h.pn, hp2, h.wo.pl.fd, nI_leF, inB_nI, cl_nI, h.wa.fo hi, h.wa.fo (show rch P S i < pFd P by omega), nI_add, ↓reduceIte]
        by_cases c : lg_cmp (oL (fldO P S i)) (oL (fldO P S (rch P S i))) ≤ nI 0
        · rw [er, if_pos c] at ih
          rw [if_pos c]; exact ih
        · rw [er, if_neg c] at ih
          rw [if_neg c]; exact ih
      · intro self h0
        unfold s_richest_B30
        simp (disch := omega) only [h.pn, hp2, h.wo.pl.fd, nI_leT, ↓reduceIte]
theorem m_richest_e {μ : Mem} {lv : Nat} {P : Pl} {S : Nat → Int32} (hk : PlOK P) (hS : StOK P S) (h : MCore μ lv P S) : ∃ μ', m_richest μ = some (qRichest P S, μ') := by
  have k2 := hk.2.1
  obtain ⟨μ1, e1, A1, W1, -⟩ := m_copies_e hk hS h
  have f0 := W1.fl
  have hl2 := A1.pl.l2
  unfold m_richest qRichest
  simp only [↓ob_eq e1]
  refine ⟨μ1, ?_⟩
  refine fixN_up (fun i (self : Int32 → Int32 → Mem → Option (Int32 × Mem)) => (i = 0 ∨ ¬ wFl P S) → self (if i = 0 then -2 else nI (rch P S i)) (nI i) μ1 = some (if pFd P = 0 then -2 else ifP (wFl P S) (-2) (nI (rch P S (pFd P))), μ1)) (pFd P) ?_ ?_ 60000 0 (by omega) (by omega) (Or.inl rfl)
  · intro i self hi ih h0
    unfold m_richest_B9
    by_cases c0 : wFl P S
    · rw [flI_t c0] at f0
      rw [if_neg (show ¬ pFd P = 0 by omega), ifP_t c0]
      have i0 : i = 0 := h0.resolve_right (fun z => z c0)
      subst i0
      simp (disch := omega) only [A1.pl.lv, A1.pl.fd, inB_nI, cl_nI, nI_leF, f0, nI_10, ↓reduceIte]
    · rw [flI_f c0] at f0
      have ih := ih (Or.inr c0)
      rw [if_neg (by omega)] at ih
      by_cases e : i = 0
      · subst e
        rw [rch_1] at ih
        simp (disch := omega) only [A1.pl.lv, A1.pl.fd, inB_nI, cl_nI, nI_leF, f0, nI_add, ↓reduceIte]
        rw [if_pos (show (-2 : Int32) < nI 0 by decide)]
        exact ih
      · have hr := rch_lt P S i (by omega)
        have e2 := m_fieldOver_e hk hS A1.pl A1.rw W1 (show i < 6 by omega)
        have e3 := m_fieldOver_e hk hS A1.pl A1.rw W1 (show rch P S i < 6 by omega)
        have er : rch P S (i + 1) = if lg_cmp (oL (fldO P S i)) (oL (fldO P S (rch P S i))) ≤ nI 0 then rch P S i else i := rfl
        rw [if_neg e]
        simp (disch := omega) only [A1.pl.lv, A1.pl.fd, inB_nI, cl_nI, nI_leF, nI_ltF, f0, ↓ob_eq e2, ↓ob_eq e3, nI_add, ↓reduceIte]
        by_cases c : lg_cmp (oL (fldO P S i)) (oL (fldO P S (rch P S i))) ≤ nI 0
        · rw [er, if_pos c] at ih
          rw [if_pos c]; exact ih
        · rw [er, if_neg c] at ih
          rw [if_neg c]; exact ih
  · intro self h0
    unfold m_richest_B9
    simp (disch := omega) only [A1.pl.lv, A1.pl.fd, inB_nI, cl_nI, nI_leT, ↓reduceIte]
    by_cases z : pFd P = 0
    · rw [if_pos z, if_pos z]
    · rw [if_neg z, if_neg z, ifP_f (h0.resolve_left z)]

/-! the class' rows -/
noncomputable def aC (P : Pl) (S : Nat → Int32) (i j : Nat) : Int := if j = 4 then 4 * aM P S i 4 else aM P S i j
/-- the class' rows of world w -/
def TbC (μ : Mem) (w M : Nat) (A : Nat → Nat → Int) : Prop := ∀ i j, i < M → j < 5 → mL μ 41 (4 * w + i) j = oL (A i j)
theorem mL_41 (μ : Mem) (w i j : Nat) (v : Int64) (a b : Nat) : mL (stL μ 41 (4 * w + i) j v) 41 (4 * w + a) b = if a = i ∧ b = j then v else mL μ 41 (4 * w + a) b := by
  rw [mL_stL]
  exact if_c ⟨fun z => ⟨by omega, z.2.2⟩, fun z => ⟨rfl, by omega, z.2⟩⟩ _ _
/-- the rows so far as the notches below k are told -/
noncomputable def rwK (P : Pl) (S : Nat → Int32) (k i j : Nat) : Int := if j = 4 then (if i = 0 then ((4 * sS S : Nat) : Int) else 0) else (if i = j then ifP (Rh P S j) ((4 * sp P S j : Nat) : Int) 1 else 0) - ifP (Rh P S j) ((leadNi P S k j i : Nat) : Int) 0
theorem rwK_end {P : Pl} {S : Nat → Int32} {i j : Nat} (hj : j < 5) : rwK P S (pNo P) i j = aC P S i j := by
  unfold rwK aC
  by_cases e : j = 4
  · rw [if_pos e, if_pos e, aM_4]
    split <;> simp
  · rw [if_neg e, if_neg e, aM_j (by omega)]; rfl
theorem wa_makeRows_e {μ : Mem} {w p s : Nat} {P : Pl} {S : Nat → Int32} {q : Nat → Bool} (hk : PlOK P) (hS : StOK P S) (hP : PlC μ p P) (hs : StC μ s P S) (h0 : 0 < pLg P) (hq : RB μ 38 w 4 q) (hqr : ∀ l, q l = true ↔ Rh P S l) (h36 : ∀ l, l < pLg P → mI μ 36 w l = nI (sp P S l)) : ∃ μ', wa_makeRows w p s μ = some ((), μ') ∧ TbC μ' w (pLg P) (aC P S) := by
  have hk0 := hk
  obtain ⟨k1, k2, k3, k4, k5, -⟩ := hk
  have hs9 := hS.2.2.2.2
  -- the notches
  have L73 : ∀ (μ : Mem), PlC μ p P → StC μ s P S → RB μ 38 w 4 q → TbC μ w (pLg P) (rwK P S 0) → ∃ ν, wa_makeRows_L73 w p s (nI 0) μ = some ((), ν) ∧ TbC ν w (pLg P) (aC P S) := by
    intro μ hP hs hq ht
    refine fixN_up (fun i (self : Int32 → Mem → Option (Unit × Mem)) => ∀ μ, PlC μ p P → StC μ s P S → RB μ 38 w 4 q → TbC μ w (pLg P) (rwK P S i) → ∃ ν, self (nI i) μ = some ((), ν) ∧ TbC ν w (pLg P) (aC P S)) (pNo P) ?_ ?_ 60000 0 (by omega) (by omega) μ hP hs hq ht
    · intro i self hi ih μ hP hs hq ht
      have h4 := k4 i hi
      have h5 := k5 i hi
      have hto : pTo P i < 2147483648 := by omega
      obtain ⟨w1, w2⟩ := hS.1 i hi
      have e1 := wa_nextLog_e hk0 hS hP hs hi
      -- nothing is taken
      have same : (∀ t, t < pLg P → Rh P S (pLog P i) → ldT P S i t = 0) → TbC μ w (pLg P) (rwK P S (i + 1)) := fun hz a b ha hb => by
        rw [ht a b ha hb]
        unfold rwK
        by_cases e : b = 4
        · rw [if_pos e, if_pos e]
        · rw [if_neg e, if_neg e]
          by_cases hr : Rh P S b
          · rw [ifP_t hr, ifP_t hr, ifP_t hr, leadNi_s]
            by_cases e2 : pLog P i = b
            · rw [if_pos e2, hz a ha (by rw [e2]; exact hr)]; rfl
            · rw [if_neg e2]; rfl
          · rw [ifP_f hr, ifP_f hr, ifP_f hr]
      unfold wa_makeRows_B73
      by_cases c1 : q (pLog P i) = true
      · have hrl := (hqr _).mp c1
        by_cases c2 : sW S i = 0
        · rw [c2] at w1
          simp (disch := omega) only [hP.no, nI_leF, inB_nI, cl_nI, ↓ob_eq e1, hP.lo hi, hq.at (show pLog P i < 4 by omega) c1, nI_10, hs.wi hi, w1, nI_add, ↓reduceIte]
          refine ih μ hP hs hq (same (fun t _ _ => Nat.eq_zero_of_not_pos (fun z => ?_)))
          have := ((ldT_nx hk0 hS hi).mp z).1
          omega
        · match hnx : nx P S i, e1 with
          | none, e1 =>
            simp (disch := omega) only [hP.no, nI_leF, inB_nI, cl_nI, ↓ob_eq e1, hP.lo hi, hq.at (show pLog P i < 4 by omega) c1, nI_10, hs.wi hi, w1, nI_eqF, nxI, nI_add, ↓reduceIte]
            refine ih μ hP hs hq (same (fun t _ _ => Nat.eq_zero_of_not_pos (fun z => ?_)))
            have := ((ldT_nx hk0 hS hi).mp z).2
            rw [hnx] at this; cases this
          | some t, e1 =>
            have htl := nx_lt hk0 hS hi hnx
            have hT := ht t (pLog P i) htl (by omega)
            -- what is taken
            have fin : ∀ (v : Nat), v = ldT P S i t → ∃ ν, self (nI (i + 1)) (stL μ 41 (4 * w + t) (pLog P i) (oL (rwK P S i t (pLog P i) - (v : Int)))) = some ((), ν) ∧ TbC ν w (pLg P) (aC P S) := fun v hv => by
              refine ih _ hP hs hq (fun a b ha hb => ?_)
              rw [mL_41]
              by_cases e : a = t ∧ b = pLog P i
              · rw [if_pos e, e.1, e.2]
                unfold rwK
                rw [if_neg (show ¬ pLog P i = 4 by omega), if_neg (show ¬ pLog P i = 4 by omega), ifP_t hrl, ifP_t hrl, ifP_t hrl, leadNi_s, if_pos rfl, hv]
                congr 1
                omega
              · rw [if_neg e, ht a b ha hb]
                unfold rwK
                by_cases e4 : b = 4
                · rw [if_pos e4, if_pos e4]
                · rw [if_neg e4, if_neg e4]
                  by_cases hr : Rh P S b
                  · rw [ifP_t hr, ifP_t hr, ifP_t hr, leadNi_s]
                    by_cases e2 : pLog P i = b
                    · have : ldT P S i a = 0 := Nat.eq_zero_of_not_pos (fun z => by
                        have := ((ldT_nx hk0 hS hi).mp z).2
                        rw [hnx] at this
                        exact e ⟨(Option.some.inj this).symm, e2.symm⟩)
                      rw [if_pos e2, this]; rfl
                    · rw [if_neg e2]; rfl
                  · rw [ifP_f hr, ifP_f hr, ifP_f hr]
            by_cases c3 : pTo P i < 10
            · rw [nx_1 S c3] at hnx
              have hte := Option.some.inj hnx
              simp (disch := omega) only [hP.no, nI_leF, inB_nI, cl_nI, ↓ob_eq e1, hP.lo hi, hq.at (show pLog P i < 4 by omega) c1, nI_10, hs.wi hi, w1, nI_eqF, nxI, nxI_F, hP.to hi, hT, pk_mul, oL_nI, oL_sub, ↓mb_e, nI_add, ↓reduceIte]
              exact fin _ (by rw [ldT_1 S t c3, if_pos hte])
            · have c4 : pTo P i < 20 := by
                rcases h5 with h5 | ⟨h5, h6⟩ | h5
                · omega
                · omega
                · rw [nx_4 S h5] at hnx; cases hnx
              obtain ⟨q1, q2, q3, -⟩ := hS.2.1 (pTo P i - 10) (by omega)
              have hq6 := hs.qu (show pTo P i - 10 < pFd P by omega)
              rw [q1] at hq6
              have hmul : sQ S (pTo P i - 10) * sW S i ≤ 9 := Nat.mul_le_mul q2 w2
              simp (disch := omega) only [hP.no, nI_leF, nI_leT, inB_nI, cl_nI, ↓ob_eq e1, hP.lo hi, hq.at (show pLog P i < 4 by omega) c1, nI_10, hs.wi hi, w1, nI_eqF, nxI, nxI_F, hP.to hi, pk_sub, hq6, hT, pk_mul, oL_nI, oL_sub, ↓mb_e, ↓vb_e, nI_add, ↓reduceIte]
              refine fin _ ?_
              have := (ldT_nx hk0 hS hi).mpr ⟨show 0 < sW S i by omega, hnx⟩
              rw [ldT_2 t (by omega) c4] at this ⊢
              split at this
              · rename_i z; rw [if_pos z, Nat.mul_comm]
              · omega
      · have hrl : ¬ Rh P S (pLog P i) := fun z => c1 ((hqr _).mpr z)
        simp (disch := omega) only [hP.no, nI_leF, inB_nI, cl_nI, ↓ob_eq e1, hP.lo hi, hq.at0 (show pLog P i < 4 by omega) c1, nI_add, ↓reduceIte]
        exact ih μ hP hs hq (same (fun t _ hr => absurd hr hrl))
    · intro self μ hP hs hq ht
      unfold wa_makeRows_B73
      simp (disch := omega) only [hP.no, nI_leT, ↓reduceIte]
      refine ⟨μ, rfl, fun a b ha hb => ?_⟩
      rw [ht a b ha hb, rwK_end hb]
  unfold wa_makeRows
  refine fixN_up (fun i (self : Int32 → Mem → Option (Unit × Mem)) => ∀ μ, PlC μ p P → StC μ s P S → RB μ 38 w 4 q → (∀ l, l < pLg P → mI μ 36 w l = nI (sp P S l)) → (∀ a b, a < i → b < 5 → mL μ 41 (4 * w + a) b = oL (if a = b then ifP (Rh P S b) ((4 * sp P S b : Nat) : Int) 1 else 0)) → ∃ ν, self (nI i) μ = some ((), ν) ∧ TbC ν w (pLg P) (aC P S)) (pLg P) ?_ ?_ 60000 0 (by omega) (by omega) μ hP hs hq h36 (fun a b ha => by omega)
  · intro i self hi ih μ hP hs hq h36 ht
    obtain ⟨μ2, e2, z2⟩ := fill_L41 μ (4 * w + i) 0
    have fr := f_j_fillL_r41 e2
    have hsp := sp_le hk0 hS i
    have P2 : PlC μ2 p P := hP.fr fr (fun _ _ => rfl) (fun _ => rfl) (fun _ => rfl) (fun _ => rfl)
    have S2 : StC μ2 s P S := hs.fr fr (fun _ _ _ => rfl) (fun _ => rfl) (fun _ => rfl) (fun _ => rfl) (fun _ => rfl)
    have Q2 : RB μ2 38 w 4 q := fun l hl => (fr.I rfl).trans (hq l hl)
    have h362 : ∀ l, l < pLg P → mI μ2 36 w l = nI (sp P S l) := fun l hl => (fr.I rfl).trans (h36 l hl)
    have keep : ∀ a b, a < i → mL μ2 41 (4 * w + a) b = mL μ 41 (4 * w + a) b := fun a b ha => fr.L (by
      unfold inT T_j_fillL_r41 inA
      simp
      omega)
    have fin : ∀ (v : Int64), v = oL (ifP (Rh P S i) ((4 * sp P S i : Nat) : Int) 1) → ∃ ν, self (nI (i + 1)) (stL μ2 41 (4 * w + i) i v) = some ((), ν) ∧ TbC ν w (pLg P) (aC P S) := fun v hv => by
      refine ih _ P2 S2 Q2 h362 (fun a b ha hb => ?_)
      rw [mL_41]
      by_cases e : a = i
      · subst e
        by_cases e2 : b = a
        · subst e2; rw [if_pos ⟨rfl, rfl⟩, if_pos rfl, hv]
        · rw [if_neg (fun z => e2 z.2), z2 b hb, if_neg (fun z => e2 z.symm)]; rfl
      · rw [if_neg (fun z => e z.1), keep a b (by omega)]
        exact ht a b (by omega) hb
    unfold wa_makeRows_B2
    by_cases c : q i = true
    · have hr := (hqr i).mp c
      simp (disch := omega) only [hP.lg, nI_leF, inB_nI, cl_nI, ↓ob_eq e2, Q2.at (show i < 4 by omega) c, nI_10, h362 i hi, pk_mul, oL_nI, ↓mb_e, nI_add, ↓reduceIte]
      exact fin _ (by rw [ifP_t hr])
    · have hr : ¬ Rh P S i := fun z => c ((hqr i).mpr z)
      simp (disch := omega) only [hP.lg, nI_leF, inB_nI, cl_nI, ↓ob_eq e2, Q2.at0 (show i < 4 by omega) c, ↓mb_e, nI_add, ↓reduceIte]
      exact fin _ (by rw [ifP_f hr]; rfl)
  · intro self μ hP hs hq h36 ht
    have hsp : mI μ 26 s 4 = nI (sS S) := hs.sp.trans hS.2.2.1
    unfold wa_makeRows_B2
    simp (disch := omega) only [hP.lg, nI_leT, hsp, pk_mul, oL_nI, ↓mb_e, ↓reduceIte]
    refine L73 _ hP hs hq (fun a b ha hb => ?_)
    rw [show (4 * w + 0) = 4 * w + 0 from rfl, mL_41]
    unfold rwK
    by_cases e4 : b = 4
    · rw [if_pos e4]
      by_cases e0 : a = 0
      · rw [if_pos ⟨e0, e4⟩, if_pos e0]
      · rw [if_neg (fun z => e0 z.1), if_neg e0, ht a b ha hb, if_neg (by omega)]
    · rw [if_neg (fun z => e4 z.2), if_neg e4, ht a b ha hb]
      congr 1
      have : leadNi P S 0 b a = 0 := rfl
      rw [this]
      unfold ifP
      split <;> split <;> omega
theorem lg_cmp0 {x : Int64} (h : ¬ x = 0) : (lg_cmp x 0 = nI 0) = False := eq_false (fun z => by
  unfold lg_cmp at z
  split at z
  · exact absurd z (by decide)
  · exact absurd z (by decide))
theorem lg_cmp00 : (lg_cmp 0 0 = nI 0) = True := eq_true (by decide)
theorem wa_reduceRow_e {μ : Mem} {w M : Nat} {A : Nat → Nat → Int} (hA : AB A) (hM : M ≤ 4) {k r : Nat} (hk : k < M) (hr : r < M) (hrk : r ≠ k) (hl : lastK A k ≠ 0) (g : Nat → Nat) (hgk : g k = k ∨ g k = k + 1) (hgr : g r = k) (hT : ∀ i j, i < M → j < 5 → mL μ 41 (4 * w + i) j = oL (TK A (g i) i j)) : ∃ μ', wa_reduceRow w (nI r) (nI k) (oL (lastK A k)) μ = some ((), μ') ∧ ∀ i j, i < M → j < 5 → mL μ' 41 (4 * w + i) j = oL (TK A (if i = r then k + 1 else g i) i j) := by
  have hb := bd_in (lastK_bd hA (show k < 4 by omega)) (by decide)
  have hlz := oL_ne hb.1 hb.2 hl
  have hgk2 : ∀ j, TK A (g k) k j = TK A k k j := fun j => by
    rcases hgk with z | z
    · rw [z]
    · rw [z, TK_same A (by omega)]
  have hp : mL μ 41 (4 * w + k) k = oL (TK A k k k) := by rw [hT k k hk (by omega), hgk2]
  have hf : mL μ 41 (4 * w + r) k = oL (TK A k r k) := by rw [hT r k hr (by omega), hgr]
  unfold wa_reduceRow
  simp (disch := omega) only [lg_cmp0 hlz, inB_nI, cl_nI, hp, hf, ↓reduceIte]
  refine fixN_up (fun c (self : Int32 → Mem → Option (Unit × Mem)) => ∀ μ, (∀ i j, i < M → j < 5 → mL μ 41 (4 * w + i) j = oL (TK A (if i = r ∧ j < c then k + 1 else g i) i j)) → ∃ μ', self (nI c) μ = some ((), μ') ∧ ∀ i j, i < M → j < 5 → mL μ' 41 (4 * w + i) j = oL (TK A (if i = r then k + 1 else g i) i j)) 5 ?_ ?_ 60000 0 (by omega) (by omega) μ (fun i j hi hj => by rw [if_neg (fun z => Nat.not_lt_zero _ z.2)]; exact hT i j hi hj)
  · intro c self hc ih μ hq
    have h1 := hq r c hr hc
    have h2 := hq k c hk hc
    rw [if_neg (fun z => Nat.lt_irrefl _ z.2), hgr] at h1
    rw [if_neg (fun z => hrk z.1.symm), hgk2] at h2
    unfold wa_reduceRow_B30
    simp (disch := omega) only [nI_ltF, inB_nI, cl_nI, hlz, not_false_eq_true, h1, h2, el_stepc hA (show k < 4 by omega) (show r < 4 by omega) hrk hc hl, ↓mb_e, nI_add, ↓reduceIte]
    refine ih _ (fun i j hi hj => ?_)
    rw [mL_41]
    by_cases e : i = r ∧ j = c
    · rw [if_pos e, e.1, e.2, if_pos ⟨rfl, Nat.lt_succ_self c⟩]
    · rw [if_neg e, hq i j hi hj, if_c (show (i = r ∧ j < c) ↔ (i = r ∧ j < c + 1) from ⟨fun z => ⟨z.1, by omega⟩, fun z => ⟨z.1, by
        have := z.2
        by_cases e2 : j = c
        · exact absurd ⟨z.1, e2⟩ e
        · omega⟩⟩)]
  · intro self μ hq
    unfold wa_reduceRow_B30
    simp (disch := omega) only [nI_ltT, ↓reduceIte]
    refine ⟨μ, rfl, fun i j hi hj => ?_⟩
    rw [hq i j hi hj, if_c (show (i = r ∧ j < 5) ↔ i = r from ⟨fun z => z.1, fun z => ⟨z, hj⟩⟩)]
theorem wa_solveRows_e {μ : Mem} {w M : Nat} {A : Nat → Nat → Int} (hA : AB A) (hM : M ≤ 4) (hl : ∀ k, k < 4 → lastK A k ≠ 0) (hl4 : ∀ k, k < M → TK A k k k ≠ 0) (hT : TbC μ w M A) : ∃ μ', wa_solveRows w (nI M) μ = some ((), μ') ∧ TbC μ' w M (TK A M) ∧ mL μ' 32 w 1 = oL (lastK A M) := by
  unfold wa_solveRows
  have h1 : (1 : Int64) = oL (lastK A 0) := rfl
  rw [h1]
  refine fixN_up (fun k (self : Int64 → Int32 → Mem → Option (Unit × Mem)) => ∀ μ, TbC μ w M (TK A k) → ∃ μ', self (oL (lastK A k)) (nI k) μ = some ((), μ') ∧ TbC μ' w M (TK A M) ∧ mL μ' 32 w 1 = oL (lastK A M)) M ?_ ?_ 60000 0 (by omega) (by omega) μ hT
  · intro k self hk ih μ hT
    have hp := hT k k hk (by omega)
    have hb := bd_in (TK_bd hA (show k ≤ 4 by omega) (show k < 4 by omega) (show k < 5 by omega)) (by decide)
    have hpz := oL_ne hb.1 hb.2 (hl4 k hk)
    unfold wa_solveRows_B5
    simp (disch := omega) only [nI_leF, inB_nI, cl_nI, hp, lg_cmp0 hpz, ↓reduceIte]
    refine fixN_up (fun r (self2 : Int32 → Mem → Option (Unit × Mem)) => ∀ μ, (∀ i j, i < M → j < 5 → mL μ 41 (4 * w + i) j = oL (TK A (if i < r then k + 1 else k) i j)) → ∃ μ', self2 (nI r) μ = some ((), μ') ∧ TbC μ' w M (TK A M) ∧ mL μ' 32 w 1 = oL (lastK A M)) M ?_ ?_ 60000 0 (by omega) (by omega) μ (fun i j hi hj => by rw [if_neg (Nat.not_lt_zero i)]; exact hT i j hi hj)
    · intro r self2 hr ih2 μ hq
      unfold wa_solveRows_B34
      by_cases e : r = k
      · subst e
        simp (disch := omega) only [nI_leF, nI_add, ↓reduceIte]
        refine ih2 μ (fun i j hi hj => ?_)
        rw [hq i j hi hj]
        by_cases e2 : i = r
        · subst e2; rw [if_neg (Nat.lt_irrefl i), if_pos (Nat.lt_succ_self i), TK_same A (by omega)]
        · rw [if_c (show i < r ↔ i < r + 1 from ⟨fun _ => by omega, fun _ => by omega⟩)]
      · obtain ⟨μ2, e2, q2⟩ := wa_reduceRow_e hA hM hk hr e (hl k (by omega)) (fun i => if i < r then k + 1 else k) (by
          by_cases z : k < r
          · exact Or.inr (if_pos z)
          · exact Or.inl (if_neg z)) (if_neg (Nat.lt_irrefl r)) hq
        simp (disch := omega) only [nI_leF, nI_eqF, ↓ob_eq e2, nI_add, ↓reduceIte]
        refine ih2 μ2 (fun i j hi hj => ?_)
        rw [q2 i j hi hj]
        by_cases e3 : i = r
        · subst e3; rw [if_pos rfl, if_pos (Nat.lt_succ_self i)]
        · rw [if_neg e3, if_c (show i < r ↔ i < r + 1 from ⟨fun _ => by omega, fun _ => by omega⟩)]
    · intro self2 μ hq
      unfold wa_solveRows_B34
      simp (disch := omega) only [nI_leT, nI_add, ↓reduceIte]
      exact ih μ (fun i j hi hj => by rw [hq i j hi hj, if_pos hi])
  · intro self μ hT
    unfold wa_solveRows_B5
    simp (disch := omega) only [nI_leT, ↓reduceIte]
    exact ⟨_, rfl, hT, by rw [mL_stL, if_pos ⟨rfl, rfl, rfl⟩]⟩

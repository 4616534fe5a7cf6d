/-! no more water comes to a field than the spring gives -/
def fw (P : Pl) (S : Nat → Int32) (j f : Nat) : Nat := sumN (pNo P) (fun n => if pLog P n = j ∧ pTo P n = 10 + f then sW S n else 0)
theorem ld_4 {P : Pl} {S : Nat → Int32} (hk : PlOK P) (hS : StOK P S) {n : Nat} (hn : n < pNo P) (f : Nat) : (if pTo P n = 10 + f then sW S n else 0) + ldT P S n 0 + ldT P S n 1 + ldT P S n 2 + ldT P S n 3 ≤ 4 * sW S n := by
  have h5 := hk.2.2.2.2.1 n hn
  have k1 := hk.1
  have k2 := hk.2.1
  unfold ldT
  by_cases c1 : pTo P n < 10
  · simp only [c1, ↓reduceIte]
    rw [if_neg (by omega)]
    repeat' split
    all_goals omega
  · simp only [c1, ↓reduceIte]
    by_cases c2 : pTo P n < 20
    · simp only [c2, ↓reduceIte]
      have hq := (hS.2.1 (pTo P n - 10) (by omega)).2.1
      have hm : sW S n * sQ S (pTo P n - 10) ≤ sW S n * 3 := Nat.mul_le_mul_left _ hq
      generalize sW S n * sQ S (pTo P n - 10) = m at hm ⊢
      have hw : (if pTo P n = 10 + f then sW S n else 0) ≤ sW S n := by split <;> omega
      generalize (if pTo P n = 10 + f then sW S n else 0) = u at hw ⊢
      by_cases h0 : S (pTo P n - 10) = nI 0
      · rw [h0]
        rw [if_pos ⟨by decide, rfl⟩, if_neg (by decide), if_neg (by decide), if_neg (by decide)]
        omega
      · by_cases h1 : S (pTo P n - 10) = nI 1
        · rw [h1]
          rw [if_neg (by decide), if_pos ⟨by decide, rfl⟩, if_neg (by decide), if_neg (by decide)]
          omega
        · rw [if_neg (fun z => h0 z.2), if_neg (fun z => h1 z.2)]
          by_cases h2 : S (pTo P n - 10) = nI 2
          · rw [h2]
            rw [if_pos ⟨by decide, rfl⟩, if_neg (by decide)]
            omega
          · rw [if_neg (fun z => h2 z.2)]
            split <;> omega
    · simp only [c2, ↓reduceIte]
      split <;> omega
theorem fw_4 {P : Pl} {S : Nat → Int32} (hk : PlOK P) (hS : StOK P S) (j f : Nat) : fw P S j f + leadN P S j 0 + leadN P S j 1 + leadN P S j 2 + leadN P S j 3 ≤ 4 * wN P S j := by
  have : ∀ i, i ≤ pNo P → sumN i (fun n => if pLog P n = j ∧ pTo P n = 10 + f then sW S n else 0) + sumN i (fun n => if pLog P n = j then ldT P S n 0 else 0) + sumN i (fun n => if pLog P n = j then ldT P S n 1 else 0) + sumN i (fun n => if pLog P n = j then ldT P S n 2 else 0) + sumN i (fun n => if pLog P n = j then ldT P S n 3 else 0) ≤ 4 * sumN i (fun n => if pLog P n = j then sW S n else 0) := by
    intro i
    induction i with
    | zero => intro _; exact Nat.le_refl _
    | succ i ih =>
      intro hi
      have ih := ih (by omega)
      have h := ld_4 hk hS (show i < pNo P by omega) f
      have s : ∀ g : Nat → Nat, sumN (i + 1) g = sumN i g + g i := fun _ => rfl
      simp only [s]
      by_cases c : pLog P i = j
      · simp only [c, true_and, ↓reduceIte]
        omega
      · simp only [c, false_and, ↓reduceIte]
        omega
  exact this _ (Nat.le_refl _)
theorem fld4_w {P : Pl} {S : Nat → Int32} (hk : PlOK P) (f : Nat) : fld4 P S f = sumZ 4 (fun j => ((fw P S j f : Nat) : Int) * wOv P S j) := by
  have k1 := hk.1
  have : ∀ i, i ≤ pNo P → sumZ i (fun n => if pTo P n = 10 + f then ((sW S n : Nat) : Int) * wOv P S (pLog P n) else 0) = sumZ 4 (fun j => ((sumN i (fun n => if pLog P n = j ∧ pTo P n = 10 + f then sW S n else 0) : Nat) : Int) * wOv P S j) := by
    intro i
    induction i with
    | zero => intro _; exact (sumZ_0 (fun l _ => by show ((0 : Nat) : Int) * _ = 0; simp)).symm
    | succ i ih =>
      intro hi
      have h4 := hk.2.2.2.1 i (by omega)
      have s : ∀ g : Nat → Nat, sumN (i + 1) g = sumN i g + g i := fun _ => rfl
      rw [sumZ_s, ih (by omega)]
      simp only [s]
      by_cases c : pTo P i = 10 + f
      · rw [if_pos c, ← sumZ_one (n := 4) (((sW S i : Nat) : Int) * wOv P S (pLog P i)) (show pLog P i < 4 by omega), ← sumZ_add]
        refine sumZ_c (fun l _ => ?_)
        by_cases e : pLog P i = l
        · subst e
          rw [if_pos rfl, if_pos ⟨rfl, c⟩, Int.natCast_add, Int.add_mul]
        · rw [if_neg e, if_neg (fun z => e z.1)]
          simp
      · rw [if_neg c, Int.add_zero]
        refine sumZ_c (fun l _ => ?_)
        rw [if_neg (fun z => c z.2)]
        simp
  exact this _ (Nat.le_refl _)
theorem col_le {P : Pl} {S : Nat → Int32} (hk : PlOK P) (hS : StOK P S) {j : Nat} (hj : j < 4) (f : Nat) : ((fw P S j f : Nat) : Int) * wOv P S j ≤ (aM P S 0 j + aM P S 1 j + aM P S 2 j + aM P S 3 j) * wOv P S j := by
  by_cases r : Rh P S j
  · refine Int.mul_le_mul_of_nonneg_right ?_ (wOv_nn hk hS hj).1
    have h := fw_4 hk hS j f
    have hs : wN P S j ≤ sp P S j := by unfold sp; split <;> omega
    rw [aM_j hj, aM_j hj, aM_j hj, aM_j hj, ifP_t r, ifP_t r, ifP_t r, ifP_t r, ifP_t r]
    rcases (show j = 0 ∨ j = 1 ∨ j = 2 ∨ j = 3 by omega) with rfl | rfl | rfl | rfl <;> simp only [Nat.reduceEqDiff, ↓reduceIte] <;> omega
  · rw [wOv_z hk hS hj r]; simp
theorem fld4_le {P : Pl} {S : Nat → Int32} (hk : PlOK P) (hS : StOK P S) (f : Nat) : fld4 P S f ≤ ((sS S : Nat) : Int) * wUn P S := by
  by_cases c : 0 < pLg P ∧ ¬ Fl P S
  · have hx : ∀ j, wOv P S j = TK (aM P S) 4 j 4 := fun j => ifP_t c
    have hu : wUn P S = TK (aM P S) 3 3 3 := ifP_t c
    have e0 := TK_cr (aM P S) (i := 0) (by decide) 4
    have e1 := TK_cr (aM P S) (i := 1) (by decide) 4
    have e2 := TK_cr (aM P S) (i := 2) (by decide) 4
    have e3 := TK_cr (aM P S) (i := 3) (by decide) 4
    rw [← hx, ← hx, ← hx, ← hx, ← hu, aM_4] at e0 e1 e2 e3
    rw [if_pos rfl] at e0
    rw [if_neg (by decide)] at e1 e2 e3
    have l0 := col_le hk hS (j := 0) (by decide) f
    have l1 := col_le hk hS (j := 1) (by decide) f
    have l2 := col_le hk hS (j := 2) (by decide) f
    have l3 := col_le hk hS (j := 3) (by decide) f
    rw [fld4_w hk f]
    show 0 + _ + _ + _ + _ ≤ _
    grind
  · have : fld4 P S f = 0 := sumZ_0 (fun i _ => by rw [wOv_off c]; split <;> simp)
    rw [this]
    exact Int.mul_nonneg (by omega) (by have := wUn_pos hk hS; omega)
/-! spread -/
theorem flow_bd {P : Pl} {S : Nat → Int32} (hk : PlOK P) (hS : StOK P S) (f : Nat) : ∃ k : Nat, k ≤ 3600 ∧ flow P S f = nI k := by
  unfold flow
  by_cases c : wFl P S
  · rw [ifP_t c]; exact ⟨0, by omega, rfl⟩
  · rw [ifP_f c]
    have hU := wUn_pos hk hS
    have h1 := fldO_bd hk hS f
    have h2 := fld4_le hk hS f
    have h3 := fld4_e P S f
    have hs := hS.2.2.2.2
    have h4 : ((sS S : Nat) : Int) * wUn P S ≤ 9 * wUn P S := Int.mul_le_mul_of_nonneg_right (by omega) (by omega)
    have e1 : (100 : Int64) * oL (fldO P S f) = oL (100 * fldO P S f) := oL_mul 100 _
    rw [e1, oL_tdiv (by omega) (by omega) (by omega) (by omega), Int.tdiv_eq_ediv_of_nonneg (by omega)]
    have h5 : 0 ≤ 100 * fldO P S f / wUn P S := Int.ediv_nonneg (by omega) (by omega)
    have h6 : 100 * fldO P S f / wUn P S ≤ 3600 := by
      have := Int.ediv_le_ediv (show (0 : Int) < wUn P S by omega) (show 100 * fldO P S f ≤ 3600 * wUn P S by omega)
      rw [Int.mul_ediv_cancel _ (by omega)] at this
      exact this
    generalize 100 * fldO P S f / wUn P S = q at h5 h6
    refine ⟨q.toNat, by omega, ?_⟩
    have e2 : oL q = oL ((q.toNat : Nat) : Int) := by rw [Int.toNat_of_nonneg h5]
    rw [e2, ← oL_nI (by omega)]
    exact Int32.toInt32_toInt64 _
noncomputable def flN (P : Pl) (S : Nat → Int32) (f : Nat) : Nat := cl (flow P S f)
theorem flN_e {P : Pl} {S : Nat → Int32} (hk : PlOK P) (hS : StOK P S) (f : Nat) : flow P S f = nI (flN P S f) ∧ flN P S f ≤ 3600 := by
  obtain ⟨k, hk, e⟩ := flow_bd hk hS f
  unfold flN
  rw [e, cl_nI (by omega)]
  exact ⟨rfl, hk⟩
noncomputable def mnF (P : Pl) (S : Nat → Int32) : Nat → Nat
  | 0 => 999999
  | i + 1 => if flN P S i < mnF P S i then flN P S i else mnF P S i
noncomputable def mxF (P : Pl) (S : Nat → Int32) : Nat → Nat
  | 0 => 0
  | i + 1 => if mxF P S i < flN P S i then flN P S i else mxF P S i
theorem mnF_le (P : Pl) (S : Nat → Int32) : ∀ i, mnF P S i ≤ 999999
  | 0 => Nat.le_refl _
  | i + 1 => by
    have := mnF_le P S i
    show (if flN P S i < mnF P S i then flN P S i else mnF P S i) ≤ _
    split <;> omega
theorem mxF_le {P : Pl} {S : Nat → Int32} (hk : PlOK P) (hS : StOK P S) : ∀ i, mxF P S i ≤ 3600
  | 0 => Nat.zero_le _
  | i + 1 => by
    have := mxF_le hk hS i
    have := (flN_e hk hS i).2
    show (if mxF P S i < flN P S i then flN P S i else mxF P S i) ≤ _
    split <;> omega
noncomputable def qSpread (P : Pl) (S : Nat → Int32) : Int32 := if pFd P = 0 then nI 0 else nI (mxF P S (pFd P)) - nI (mnF P S (pFd P))
theorem m_spread_e {μ : Mem} {lv : Nat} {P : Pl} {S : Nat → Int32} (hk : PlOK P) (hS : StOK P S) (h : MCore μ lv P S) : ∃ μ', m_spread μ = some (qSpread P S, μ') := by
  have k2 := hk.2.1
  obtain ⟨μ1, e1, A1, W1, -⟩ := m_copies_e hk hS h
  have hl2 := A1.pl.l2
  unfold m_spread qSpread
  simp only [↓ob_eq e1]
  refine ⟨μ1, ?_⟩
  refine fixN_up (fun i (self : Int32 → Int32 → Int32 → Mem → Option (Int32 × Mem)) => self (nI (mnF P S i)) (nI (mxF P S i)) (nI i) μ1 = some (if pFd P = 0 then nI 0 else nI (mxF P S (pFd P)) - nI (mnF P S (pFd P)), μ1)) (pFd P) ?_ ?_ 60000 0 (by omega) (by omega)
  · intro i self hi ih
    have e2 := m_flowOf_e hk hS A1.pl A1.rw W1 (show i < 6 by omega)
    obtain ⟨f1, f2⟩ := flN_e hk hS i
    rw [f1] at e2
    have a1 := mnF_le P S i
    have a2 := mxF_le hk hS i
    have b1 : mnF P S (i + 1) = if flN P S i < mnF P S i then flN P S i else mnF P S i := rfl
    have b2 : mxF P S (i + 1) = if mxF P S i < flN P S i then flN P S i else mxF P S i := rfl
    unfold m_spread_B12
    simp (disch := omega) only [A1.pl.lv, A1.pl.fd, inB_nI, cl_nI, nI_leF, ↓ob_eq e2, nI_add, ↓reduceIte]
    by_cases c1 : flN P S i < mnF P S i
    · rw [b1, if_pos c1] at ih
      by_cases c2 : mxF P S i < flN P S i
      · rw [b2, if_pos c2] at ih
        simp (disch := omega) only [nI_leF, ↓reduceIte]
        exact ih
      · rw [b2, if_neg c2] at ih
        simp (disch := omega) only [nI_leF, nI_leT, ↓reduceIte]
        exact ih
    · rw [b1, if_neg c1] at ih
      by_cases c2 : mxF P S i < flN P S i
      · rw [b2, if_pos c2] at ih
        simp (disch := omega) only [nI_leF, nI_leT, ↓reduceIte]
        exact ih
      · rw [b2, if_neg c2] at ih
        simp (disch := omega) only [nI_leT, ↓reduceIte]
        exact ih
  · intro self
    unfold m_spread_B12
    simp (disch := omega) only [A1.pl.lv, A1.pl.fd, inB_nI, cl_nI, nI_leT, ↓reduceIte]
    by_cases z : pFd P = 0
    · simp only [z, ↓reduceIte]
    · simp (disch := omega) only [nI_eqF, z, ↓reduceIte]
theorem s_spread_e {μ : Mem} {p : Nat} {P : Pl} {S : Nat → Int32} (hk : PlOK P) (hS : StOK P S) (h : CCore μ p P S) : s_spread μ = some (qSpread P S, μ) := by
  have k2 := hk.2.1
  have hp2 := h.p2
  unfold s_spread qSpread
  by_cases z : pFd P = 0
  · simp only [h.pn, hp2, h.wo.pl.fd, z, ↓reduceIte]
  · have hw0 := h.wa.fw (show 0 < pFd P by omega)
    obtain ⟨g1, g2⟩ := flN_e hk hS 0
    rw [g1] at hw0
    have n1 : mnF P S 1 = flN P S 0 := if_pos (show flN P S 0 < 999999 by omega)
    have x1 : mxF P S 1 = flN P S 0 := by
      show (if 0 < flN P S 0 then flN P S 0 else 0) = _
      split <;> omega
    simp (disch := omega) only [h.pn, hp2, h.wo.pl.fd, nI_eqF, z, hw0, ↓reduceIte]
    refine fixN_up (fun i (self : Int32 → Int32 → Int32 → Mem → Option (Int32 × Mem)) => self (nI (mnF P S i)) (nI (mxF P S i)) (nI i) μ = some (nI (mxF P S (pFd P)) - nI (mnF P S (pFd P)), μ)) (pFd P) ?_ ?_ 60000 1 (by omega) (by omega) |> (fun q => by rw [n1, x1] at q; exact q)
    · intro i self hi ih
      have hw := h.wa.fw hi
      obtain ⟨f1, f2⟩ := flN_e hk hS i
      rw [f1] at hw
      have a1 := mnF_le P S i
      have a2 := mxF_le hk hS i
      have b1 : mnF P S (i + 1) = if flN P S i < mnF P S i then flN P S i else mnF P S i := rfl
      have b2 : mxF P S (i + 1) = if mxF P S i < flN P S i then flN P S i else mxF P S i := rfl
      have m1 : j_min (nI (mnF P S i)) (nI (flN P S i)) μ = some (nI (mnF P S (i + 1)), μ) := by
        unfold j_min
        rw [b1]
        by_cases c : flN P S i < mnF P S i
        · rw [if_pos c, if_pos ((nI_ltI (by omega) (by omega)).mpr c)]
        · rw [if_neg c, if_neg (fun q => c ((nI_ltI (by omega) (by omega)).mp q))]
      have m2 : j_max (nI (mxF P S i)) (nI (flN P S i)) μ = some (nI (mxF P S (i + 1)), μ) := by
        unfold j_max
        rw [b2]
        by_cases c : mxF P S i < flN P S i
        · rw [if_pos c, if_pos ((nI_ltI (by omega) (by omega)).mpr c)]
        · rw [if_neg c, if_neg (fun q => c ((nI_ltI (by omega) (by omega)).mp q))]
      unfold s_spread_B29
      simp (disch := omega) only [h.pn, hp2, h.wo.pl.fd, nI_leF, inB_nI, cl_nI, hw, ↓ob_eq m1, ↓ob_eq m2, nI_add, ↓reduceIte]
      exact ih
    · intro self
      unfold s_spread_B29
      simp (disch := omega) only [h.pn, hp2, h.wo.pl.fd, nI_leT, ↓reduceIte]

/-! longs as whole numbers -/
def oL (x : Int) : Int64 := Int64.ofInt x
theorem oL_mul (a b : Int) : oL a * oL b = oL (a * b) := (Int64.ofInt_mul a b).symm
theorem oL_sub (a b : Int) : oL a - oL b = oL (a - b) := (Int64.ofInt_sub a b).symm
theorem oL_add (a b : Int) : oL a + oL b = oL (a + b) := (Int64.ofInt_add a b).symm
theorem oL_toInt {x : Int} (h1 : -9000000000000000000 ≤ x) (h2 : x ≤ 9000000000000000000) : (oL x).toInt = x := Int64.toInt_ofInt_of_le (by omega) (by omega)
theorem oL_inj {x y : Int} (h1 : -9000000000000000000 ≤ x) (h2 : x ≤ 9000000000000000000) (h3 : -9000000000000000000 ≤ y) (h4 : y ≤ 9000000000000000000) : oL x = oL y ↔ x = y := ⟨fun h => by rw [← oL_toInt h1 h2, h, oL_toInt h3 h4], fun h => by rw [h]⟩
theorem oL_0 : oL 0 = 0 := rfl
theorem oL_1 : oL 1 = 1 := rfl
theorem oL_ne {x : Int} (h1 : -9000000000000000000 ≤ x) (h2 : x ≤ 9000000000000000000) (h : x ≠ 0) : ¬ oL x = 0 := fun z => h ((oL_inj h1 h2 (by omega) (by omega)).mp (z.trans oL_0.symm))
theorem mxL : Int64.maxValue.toInt = 9223372036854775807 := by decide
theorem mnL : Int64.minValue.toInt = -9223372036854775808 := by decide
theorem oL_tdiv {a b : Int} (h1 : -9000000000000000000 ≤ a) (h2 : a ≤ 9000000000000000000) (h3 : -9000000000000000000 ≤ b) (h4 : b ≤ 9000000000000000000) : oL a / oL b = oL (a.tdiv b) := (Int64.ofInt_tdiv (by rw [mnL]; omega) (by rw [mxL]; omega) (by rw [mnL]; omega) (by rw [mxL]; omega)).symm
theorem oL_nI {n : Nat} (h : n < 2147483648) : Int32.toInt64 (nI n) = oL (n : Int) := by
  rw [nI_l h]
  exact (Int64.ofInt_eq_ofNat).symm
/-- bounds -/
def bd (x : Int) (B : Nat) : Prop := x.natAbs ≤ B
theorem bd_mul {a b : Int} {A B : Nat} (h : bd a A) (g : bd b B) : bd (a * b) (A * B) := by
  unfold bd at *
  rw [Int.natAbs_mul]
  exact Nat.mul_le_mul h g
theorem bd_sub {a b : Int} {A B : Nat} (h : bd a A) (g : bd b B) : bd (a - b) (A + B) := by unfold bd at *; omega
theorem bd_add {a b : Int} {A B : Nat} (h : bd a A) (g : bd b B) : bd (a + b) (A + B) := by unfold bd at *; omega
theorem bd_le {a : Int} {A B : Nat} (h : bd a A) (g : A ≤ B) : bd a B := Nat.le_trans h g
theorem bd_d2 {a b c d : Int} (ha : bd a 144) (hb : bd b 144) (hc : bd c 144) (hd : bd d 144) : bd (a * d - b * c) 41472 := bd_le (bd_sub (bd_mul ha hd) (bd_mul hb hc)) (by decide)
theorem bd_d3 {a b c x y z : Int} (ha : bd a 144) (hb : bd b 144) (hc : bd c 144) (hx : bd x 41472) (hy : bd y 41472) (hz : bd z 41472) : bd (a * x - b * y + c * z) 17915904 := bd_le (bd_add (bd_sub (bd_mul ha hx) (bd_mul hb hy)) (bd_mul hc hz)) (by decide)
theorem bd_d4 {a b c d x y z w : Int} (ha : bd a 144) (hb : bd b 144) (hc : bd c 144) (hd : bd d 144) (hx : bd x 17915904) (hy : bd y 17915904) (hz : bd z 17915904) (hw : bd w 17915904) : bd (a * x - b * y + c * z - d * w) 10319560704 := bd_le (bd_sub (bd_add (bd_sub (bd_mul ha hx) (bd_mul hb hy)) (bd_mul hc hz)) (bd_mul hd hw)) (by decide)
def AB (A : Nat → Nat → Int) : Prop := ∀ i j, i < 4 → j < 5 → bd (A i j) 144
theorem TK1_bd {A : Nat → Nat → Int} (h : AB A) {i j : Nat} (hi : i < 4) (hj : j < 5) : bd (TK A 1 i j) 41472 := by
  rcases (show i = 0 ∨ i = 1 ∨ i = 2 ∨ i = 3 by omega) with rfl | rfl | rfl | rfl
  · exact bd_le (h 0 j (by decide) hj) (by decide)
  all_goals exact bd_d2 (h _ _ (by decide) (by decide)) (h _ _ (by decide) (by decide)) (h _ _ (by decide) hj) (h _ _ (by decide) hj)
theorem TK2_bd {A : Nat → Nat → Int} (h : AB A) {i j : Nat} (hi : i < 4) (hj : j < 5) : bd (TK A 2 i j) 17915904 := by
  have q := fun i j (hi : i < 4) (hj : j < 5) => h i j hi hj
  rcases (show i = 0 ∨ i = 1 ∨ i = 2 ∨ i = 3 by omega) with rfl | rfl | rfl | rfl
  · exact bd_le (bd_d2 (h 0 j (by decide) hj) (h 0 1 (by decide) (by decide)) (h 1 j (by decide) hj) (h 1 1 (by decide) (by decide))) (by decide)
  · exact bd_le (bd_d2 (h 0 0 (by decide) (by decide)) (h 1 0 (by decide) (by decide)) (h 0 j (by decide) hj) (h 1 j (by decide) hj)) (by decide)
  all_goals exact bd_d3 (h _ _ (by decide) (by decide)) (h _ _ (by decide) (by decide)) (h _ _ (by decide) hj) (bd_d2 (h _ _ (by decide) (by decide)) (h _ _ (by decide) hj) (h _ _ (by decide) (by decide)) (h _ _ (by decide) hj)) (bd_d2 (h _ _ (by decide) (by decide)) (h _ _ (by decide) hj) (h _ _ (by decide) (by decide)) (h _ _ (by decide) hj)) (bd_d2 (h _ _ (by decide) (by decide)) (h _ _ (by decide) (by decide)) (h _ _ (by decide) (by decide)) (h _ _ (by decide) (by decide)))
theorem TK_bd {A : Nat → Nat → Int} (h : AB A) {k i j : Nat} (hk : k ≤ 4) (hi : i < 4) (hj : j < 5) : bd (TK A k i j) 10319560704 := by
  have q : ∀ i j, i < 4 → j < 5 → bd (A i j) 144 := h
  have hj' := hj
  rcases (show k = 0 ∨ k = 1 ∨ k = 2 ∨ k = 3 ∨ k = 4 by omega) with rfl | rfl | rfl | rfl | rfl
  · exact bd_le (h i j hi hj) (by decide)
  · exact bd_le (TK1_bd h hi hj) (by decide)
  · exact bd_le (TK2_bd h hi hj) (by decide)
  · rcases (show i = 0 ∨ i = 1 ∨ i = 2 ∨ i = 3 by omega) with rfl | rfl | rfl | rfl
    · refine bd_le (bd_d3 ?_ ?_ ?_ (bd_d2 ?_ ?_ ?_ ?_) (bd_d2 ?_ ?_ ?_ ?_) (bd_d2 ?_ ?_ ?_ ?_)) (show 17915904 ≤ 10319560704 by decide) <;> exact q _ _ (by decide) (by first | exact hj' | decide)
    · refine bd_le (bd_d3 ?_ ?_ ?_ (bd_d2 ?_ ?_ ?_ ?_) (bd_d2 ?_ ?_ ?_ ?_) (bd_d2 ?_ ?_ ?_ ?_)) (show 17915904 ≤ 10319560704 by decide) <;> exact q _ _ (by decide) (by first | exact hj' | decide)
    · refine bd_le (bd_d3 ?_ ?_ ?_ (bd_d2 ?_ ?_ ?_ ?_) (bd_d2 ?_ ?_ ?_ ?_) (bd_d2 ?_ ?_ ?_ ?_)) (show 17915904 ≤ 10319560704 by decide) <;> exact q _ _ (by decide) (by first | exact hj' | decide)
    · refine bd_d4 ?_ ?_ ?_ ?_ (bd_d3 ?_ ?_ ?_ (bd_d2 ?_ ?_ ?_ ?_) (bd_d2 ?_ ?_ ?_ ?_) (bd_d2 ?_ ?_ ?_ ?_)) (bd_d3 ?_ ?_ ?_ (bd_d2 ?_ ?_ ?_ ?_) (bd_d2 ?_ ?_ ?_ ?_) (bd_d2 ?_ ?_ ?_ ?_)) (bd_d3 ?_ ?_ ?_ (bd_d2 ?_ ?_ ?_ ?_) (bd_d2 ?_ ?_ ?_ ?_) (bd_d2 ?_ ?_ ?_ ?_)) (bd_d3 ?_ ?_ ?_ (bd_d2 ?_ ?_ ?_ ?_) (bd_d2 ?_ ?_ ?_ ?_) (bd_d2 ?_ ?_ ?_ ?_)) <;> exact q _ _ (by decide) (by first | exact hj' | decide)
  · rcases (show i = 0 ∨ i = 1 ∨ i = 2 ∨ i = 3 by omega) with rfl | rfl | rfl | rfl
    all_goals (refine bd_d4 ?_ ?_ ?_ ?_ (bd_d3 ?_ ?_ ?_ (bd_d2 ?_ ?_ ?_ ?_) (bd_d2 ?_ ?_ ?_ ?_) (bd_d2 ?_ ?_ ?_ ?_)) (bd_d3 ?_ ?_ ?_ (bd_d2 ?_ ?_ ?_ ?_) (bd_d2 ?_ ?_ ?_ ?_) (bd_d2 ?_ ?_ ?_ ?_)) (bd_d3 ?_ ?_ ?_ (bd_d2 ?_ ?_ ?_ ?_) (bd_d2 ?_ ?_ ?_ ?_) (bd_d2 ?_ ?_ ?_ ?_)) (bd_d3 ?_ ?_ ?_ (bd_d2 ?_ ?_ ?_ ?_) (bd_d2 ?_ ?_ ?_ ?_) (bd_d2 ?_ ?_ ?_ ?_)) <;> exact q _ _ (by decide) (by first | exact hj' | decide))
theorem lastK_bd {A : Nat → Nat → Int} (h : AB A) {k : Nat} (hk : k < 4) : bd (lastK A k) 17915904 := by
  rcases (show k = 0 ∨ k = 1 ∨ k = 2 ∨ k = 3 by omega) with rfl | rfl | rfl | rfl
  · show bd 1 _; unfold bd; decide
  · exact bd_le (h 0 0 (by decide) (by decide)) (by decide)
  · exact bd_le (TK1_bd h (i := 1) (j := 1) (by decide) (by decide)) (by decide)
  · exact TK2_bd h (i := 2) (j := 2) (by decide) (by decide)
theorem bd_in {x : Int} {B : Nat} (h : bd x B) (hB : B ≤ 9000000000000000000) : -9000000000000000000 ≤ x ∧ x ≤ 9000000000000000000 := by unfold bd at h; omega
/-- one place of the elimination -/
theorem el_step {A : Nat → Nat → Int} (h : AB A) {k i j : Nat} (hk : k < 4) (hi : i < 4) (hne : i ≠ k) (hj : j < 5) (hl : lastK A k ≠ 0) : (oL (TK A k i j) * oL (TK A k k k) - oL (TK A k i k) * oL (TK A k k j)) / oL (lastK A k) = oL (TK A (k + 1) i j) := by
  have b1 := lastK_bd h hk
  have b2 := TK_bd h (show k + 1 ≤ 4 by omega) hi hj
  have b3 := bd_in (bd_mul b1 b2) (by decide)
  have b4 := bd_in b1 (by decide)
  rw [oL_mul, oL_mul, oL_sub, Int.mul_comm (TK A k i j), TK_step A hk hi hne, oL_tdiv b3.1 b3.2 b4.1 b4.2, Int.mul_tdiv_cancel_left _ hl]
theorem el_stepc {A : Nat → Nat → Int} (h : AB A) {k i j : Nat} (hk : k < 4) (hi : i < 4) (hne : i ≠ k) (hj : j < 5) (hl : lastK A k ≠ 0) : (oL (TK A k k k) * oL (TK A k i j) - oL (TK A k i k) * oL (TK A k k j)) / oL (lastK A k) = oL (TK A (k + 1) i j) := by
  rw [Int64.mul_comm]; exact el_step h hk hi hne hj hl
theorem Rh_lt {P : Pl} {S : Nat → Int32} (hk : PlOK P) (hS : StOK P S) (h0 : 0 < pLg P) {l : Nat} (h : Rh P S l) : l < pLg P := h (fun l => l < pLg P) (fun l hl => by subst hl; exact h0) (fun l t _ hlt => (lead_in hk hS hlt).2.1)
theorem aM_AB {P : Pl} {S : Nat → Int32} (hk : PlOK P) (hS : StOK P S) : AB (aM P S) := fun i j hi hj => by
  unfold bd
  by_cases hj4 : j < 4
  · rw [aM_j hj4]
    have h1 := sp_le hk hS j
    have h2 := lead_bd hk hS j i
    unfold ifP
    split <;> split <;> omega
  · rw [show j = 4 by omega, aM_4]
    have := hS.2.2.2.2
    split <;> omega
/-- a log that nothing comes to has 0 -/
theorem TK_z {A : Nat → Nat → Int} (hp : ∀ k, k < 4 → lastK A k ≠ 0) {l : Nat} (hl : l < 4) (h0 : ∀ j, j < 5 → j ≠ l → A l j = 0) : ∀ k, k ≤ 4 → ∀ j, j < 5 → j ≠ l → TK A k l j = 0
  | 0, _, j, hj, hjl => h0 j hj hjl
  | k + 1, hk, j, hj, hjl => by
    have ih := TK_z hp hl h0 k (by omega)
    by_cases e : l = k
    · subst e; rw [TK_same A (by omega)]; exact ih j hj hjl
    · have s := TK_step A (show k < 4 by omega) hl e j
      rw [ih j hj hjl, ih k (by omega) (fun z => e z.symm), Int.mul_zero, Int.zero_mul, Int.sub_zero] at s
      rcases Int.mul_eq_zero.mp s.symm with z | z
      · exact absurd z (hp k (by omega))
      · exact z
def wFl (P : Pl) (S : Nat → Int32) : Prop := 0 < pLg P ∧ Fl P S
noncomputable def wUn (P : Pl) (S : Nat → Int32) : Int := ifP (0 < pLg P ∧ ¬ Fl P S) (TK (aM P S) 3 3 3) 1
noncomputable def wOv (P : Pl) (S : Nat → Int32) (l : Nat) : Int := ifP (0 < pLg P ∧ ¬ Fl P S) (TK (aM P S) 4 l 4) 0
theorem aM_last {P : Pl} {S : Nat → Int32} (hk : PlOK P) (hS : StOK P S) (h : ¬ Fl P S) : ∀ k, k < 4 → lastK (aM P S) k ≠ 0 := fun k hk4 => by
  obtain ⟨v, hv, ht⟩ := aM_TI hk hS h
  have hp := (TK_pos hv ht).1
  match k with
  | 0 => show (1 : Int) ≠ 0; decide
  | k + 1 =>
    have := hp k (by omega)
    show TK (aM P S) k k k ≠ 0
    omega
theorem aM_row {P : Pl} {S : Nat → Int32} {l : Nat} (hl : l < 4) (hr : ¬ Rh P S l) : ∀ j, j < 5 → j ≠ l → aM P S l j = 0 := fun j hj hjl => by
  by_cases hj4 : j < 4
  · rw [aM_j hj4, if_neg (fun z => hjl z.symm)]
    by_cases hrj : Rh P S j
    · rw [ifP_t hrj]
      have : leadN P S j l = 0 := Nat.eq_zero_of_not_pos (fun z => hr (hrj.nx z))
      rw [this]; rfl
    · rw [ifP_f hrj]; rfl
  · rw [show j = 4 by omega, aM_4, if_neg (fun z => by subst z; exact hr (Rh.z P S))]
theorem aM_diag0 {P : Pl} {S : Nat → Int32} {l : Nat} (hl : l < 4) (hr : ¬ Rh P S l) : aM P S l l = 1 := by
  rw [aM_j hl, if_pos rfl, ifP_f hr, ifP_f hr]; rfl
theorem wOv_z {P : Pl} {S : Nat → Int32} (hk : PlOK P) (hS : StOK P S) {l : Nat} (hl : l < 4) (hr : ¬ Rh P S l) : wOv P S l = 0 := by
  unfold wOv
  by_cases h : 0 < pLg P ∧ ¬ Fl P S
  · rw [ifP_t h]
    exact TK_z (aM_last hk hS h.2) hl (aM_row hl hr) 4 (Nat.le_refl _) 4 (by decide) (by omega)
  · rw [ifP_f h]
theorem wUn_pos {P : Pl} {S : Nat → Int32} (hk : PlOK P) (hS : StOK P S) : 0 < wUn P S ∧ wUn P S ≤ 10319560704 := by
  unfold wUn
  by_cases h : 0 < pLg P ∧ ¬ Fl P S
  · rw [ifP_t h]
    obtain ⟨v, hv, ht⟩ := aM_TI hk hS h.2
    have hp := (TK_pos hv ht).1 3 (by decide)
    have := TK_bd (aM_AB hk hS) (show 3 ≤ 4 by decide) (show 3 < 4 by decide) (show 3 < 5 by decide)
    unfold bd at this
    omega
  · rw [ifP_f h]; omega
theorem wOv_nn {P : Pl} {S : Nat → Int32} (hk : PlOK P) (hS : StOK P S) {l : Nat} (hl : l < 4) : 0 ≤ wOv P S l ∧ wOv P S l ≤ 10319560704 := by
  unfold wOv
  by_cases h : 0 < pLg P ∧ ¬ Fl P S
  · rw [ifP_t h]
    obtain ⟨v, hv, ht⟩ := aM_TI hk hS h.2
    have hp := (TK_pos hv ht).2 l hl
    have := TK_bd (aM_AB hk hS) (show 4 ≤ 4 by decide) hl (show 4 < 5 by decide)
    unfold bd at this
    omega
  · rw [ifP_f h]; omega

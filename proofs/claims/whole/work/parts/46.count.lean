/-! how many bits -/
def cntB (n : Nat) (p : Nat → Bool) : Nat := sumN n (fun i => if p i = true then 1 else 0)
theorem cntB_s (n : Nat) (p : Nat → Bool) : cntB (n + 1) p = cntB n p + (if p n = true then 1 else 0) := rfl
theorem cntB_le (p : Nat → Bool) : ∀ n, cntB n p ≤ n
  | 0 => Nat.le_refl _
  | n + 1 => by
    have := cntB_le p n
    rw [cntB_s]
    split <;> omega
theorem m_bits_24 (p : Nat → Bool) (μ : Mem) : m_bits (bitI 24 p) μ = some (nI (cntB 24 p), μ) := by
  refine fixN_up (fun i (self : Int32 → Int32 → Mem → Option (Int32 × Mem)) => self (nI (cntB i p)) (nI i) μ = some (nI (cntB 24 p), μ)) 24 ?_ ?_ 60000 0 (by omega) (by omega)
  · intro i self hi ih
    have t := tstN p (n := 24) (by omega) hi
    have hc := cntB_le p i
    rw [cntB_s] at ih
    unfold m_bits_B4
    cases c : p i with
    | false =>
      rw [c] at t ih
      rw [if_neg (by decide), Nat.add_zero] at ih
      rw [if_neg (by decide)] at t
      simp (disch := omega) only [nI_leF, t, nI_add, Nat.add_zero, ↓vb_e, ↓reduceIte]
      exact ih
    | true =>
      rw [c] at t ih
      rw [if_pos rfl] at ih t
      simp (disch := omega) only [nI_leF, t, nI_add, ↓vb_e, ↓reduceIte]
      exact ih
  · intro self
    unfold m_bits_B4
    simp (disch := omega) only [nI_leT, ↓reduceIte]
theorem cntB_ext {p : Nat → Bool} {n m : Nat} (h : n ≤ m) (hz : ∀ i, n ≤ i → i < m → p i = false) : cntB m p = cntB n p := by
  induction m with
  | zero => rw [show n = 0 by omega]
  | succ m ih =>
    by_cases e : n = m + 1
    · rw [e]
    · rw [cntB_s, ih (by omega) (fun i a b => hz i a (by omega)), hz m (by omega) (by omega), if_neg (by decide), Nat.add_zero]
theorem cntB_c {p q : Nat → Bool} {n : Nat} (h : ∀ i, i < n → p i = q i) : cntB n p = cntB n q := by
  induction n with
  | zero => rfl
  | succ n ih => rw [cntB_s, cntB_s, ih (fun i hi => h i (by omega)), h n (by omega)]
theorem m_bits_n {p : Nat → Bool} {n : Nat} (hn : n ≤ 24) (μ : Mem) : m_bits (bitI n p) μ = some (nI (cntB n p), μ) := by
  have h1 : bitI 24 (fun i => p i && decide (i < n)) = bitI n p := by
    rw [bitI_ext hn (fun i a b => by rw [decide_eq_false (by omega), Bool.and_false])]
    exact bitI_c (fun i hi => by rw [decide_eq_true hi, Bool.and_true])
  have h2 : cntB 24 (fun i => p i && decide (i < n)) = cntB n p := by
    rw [cntB_ext hn (fun i a b => by rw [decide_eq_false (by omega), Bool.and_false])]
    exact cntB_c (fun i hi => by rw [decide_eq_true hi, Bool.and_true])
  rw [← h1, ← h2]
  exact m_bits_24 _ μ
/-- what the class' count of bits comes to -/
def jb (x0 : Int32) : Int32 :=
  let v1 := x0 - ((ushr x0 (nI 1)) &&& (nI 1431655765))
  let v2 := (v1 &&& (nI 858993459)) + ((ushr v1 (nI 2)) &&& (nI 858993459))
  let v3 := (v2 + (ushr v2 (nI 4))) &&& (nI 252645135)
  let v4 := (v3 + (ushr v3 (nI 8))) + (ushr (v3 + (ushr v3 (nI 8))) (nI 16))
  v4 &&& (nI 63)
theorem jb_e (x : Int32) (μ : Mem) : j_bitCount x μ = some (jb x, μ) := rfl
def bq (b : Bool) (k : Nat) : Nat := if b = true then 2 ^ k else 0
def bc (b : Bool) : Nat := if b = true then 1 else 0
theorem jb_6 : ∀ a b c d e f : Bool, jb (nI (bq a 0 + bq b 1 + bq c 2 + bq d 3 + bq e 4 + bq f 5)) = nI (bc a + bc b + bc c + bc d + bc e + bc f) := by decide
theorem j_bits_6 (p : Nat → Bool) (μ : Mem) : j_bitCount (bitI 6 p) μ = some (nI (cntB 6 p), μ) := by
  rw [jb_e, bitI_N p 6 (by omega)]
  have e1 : bN 6 p = bq (p 0) 0 + bq (p 1) 1 + bq (p 2) 2 + bq (p 3) 3 + bq (p 4) 4 + bq (p 5) 5 := by
    show 0 + _ + _ + _ + _ + _ + _ = _
    rw [Nat.zero_add]
    rfl
  have e2 : cntB 6 p = bc (p 0) + bc (p 1) + bc (p 2) + bc (p 3) + bc (p 4) + bc (p 5) := by
    show 0 + _ + _ + _ + _ + _ + _ = _
    rw [Nat.zero_add]
    rfl
  rw [e1, e2, jb_6]
theorem j_bits_n {p : Nat → Bool} {n : Nat} (hn : n ≤ 6) (μ : Mem) : j_bitCount (bitI n p) μ = some (nI (cntB n p), μ) := by
  have h1 : bitI 6 (fun i => p i && decide (i < n)) = bitI n p := by
    rw [bitI_ext hn (fun i a b => by rw [decide_eq_false (by omega), Bool.and_false])]
    exact bitI_c (fun i hi => by rw [decide_eq_true hi, Bool.and_true])
  have h2 : cntB 6 (fun i => p i && decide (i < n)) = cntB n p := by
    rw [cntB_ext hn (fun i a b => by rw [decide_eq_false (by omega), Bool.and_false])]
    exact cntB_c (fun i hi => by rw [decide_eq_true hi, Bool.and_true])
  rw [← h1, ← h2]
  exact j_bits_6 _ μ

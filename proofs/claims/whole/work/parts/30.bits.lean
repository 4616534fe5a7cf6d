/-! bits in any number (below 31) -/
theorem sh_l : ∀ n, n < 32 → ((nI n &&& 31).toBitVec.smod 32).toNat = n := by decide
theorem nI_or (a b : Nat) : nI a ||| nI b = nI (a ||| b) := by
  apply Int32.toBitVec.inj
  show BitVec.ofNat 32 a ||| BitVec.ofNat 32 b = BitVec.ofNat 32 (a ||| b)
  apply BitVec.eq_of_getLsbD_eq
  intro i hi
  simp [hi]
theorem one_sh {n : Nat} (h : n < 31) : nI 1 <<< (nI n &&& 31) = nI (2 ^ n) := by
  have := pk_shlN (n := 1) (nI n &&& 31) n (sh_l n (by omega)) (by rw [Nat.one_mul]; exact Nat.pow_lt_pow_right (by decide) (by omega))
  rw [this, Nat.one_mul]
def bN : Nat → (Nat → Bool) → Nat
  | 0, _ => 0
  | n + 1, p => bN n p + (if p n = true then 2 ^ n else 0)
theorem bN_lt (p : Nat → Bool) : ∀ n, bN n p < 2 ^ n
  | 0 => Nat.zero_lt_one
  | n + 1 => by
    have := bN_lt p n
    simp only [bN]
    rw [Nat.pow_succ]
    split <;> omega
theorem bitI_N (p : Nat → Bool) : ∀ n, n ≤ 31 → bitI n p = nI (bN n p)
  | 0, _ => rfl
  | n + 1, h => by
    rw [bitI_s, bitI_N p n (by omega)]
    simp only [bN]
    split
    · rw [one_sh (by omega), nI_or]
      congr 1
      have := Nat.two_pow_add_eq_or_of_lt (bN_lt p n) 1
      rw [Nat.mul_one] at this
      rw [Nat.or_comm, ← this, Nat.add_comm]
    · rfl
theorem bN_tst (p : Nat → Bool) : ∀ n l, l < n → bN n p / 2 ^ l % 2 = if p l = true then 1 else 0
  | 0, l, h => by omega
  | n + 1, l, h => by
    simp only [bN]
    by_cases e : l = n
    · subst e
      have := bN_lt p l
      split
      · rw [show bN l p + 2 ^ l = bN l p + 2 ^ l * 1 by omega, Nat.add_mul_div_left _ _ (Nat.two_pow_pos l), Nat.div_eq_of_lt this]
      · rw [Nat.add_zero, Nat.div_eq_of_lt this]
    · have ih := bN_tst p n l (by omega)
      split
      · rw [show 2 ^ n = 2 ^ l * (2 * 2 ^ (n - l - 1)) by rw [← Nat.mul_assoc, ← Nat.pow_succ, ← Nat.pow_add]; congr 1; omega, Nat.add_mul_div_left _ _ (Nat.two_pow_pos l), Nat.add_mul_mod_self_left]
        exact ih
      · rw [Nat.add_zero]; exact ih
theorem tstN (p : Nat → Bool) {n l : Nat} (hn : n ≤ 31) (hl : l < n) : (bitI n p >>> (nI l &&& 31)) &&& nI 1 = if p l = true then nI 1 else nI 0 := by
  have hb := bN_lt p n
  have h31 : bN n p < 2 ^ 31 := Nat.lt_of_lt_of_le hb (Nat.pow_le_pow_right (by decide) hn)
  rw [bitI_N p n hn, pk_shrN h31 _ l (sh_l l (by omega)), pk_andN (Nat.lt_of_le_of_lt (Nat.div_le_self _ _) (by omega)) 1 (by decide)]
  show nI (bN n p / 2 ^ l % 2) = _
  rw [bN_tst p n l hl]
  split <;> rfl
theorem tst1 (p : Nat → Bool) {n l : Nat} (hn : n ≤ 31) (hl : l < n) : ((bitI n p >>> (nI l &&& 31)) &&& nI 1 = nI 1) = (p l = true) := by
  rw [tstN p hn hl]
  cases p l <;> simp [nI_01]
theorem tst0 (p : Nat → Bool) {n l : Nat} (hn : n ≤ 31) (hl : l < n) : ((bitI n p >>> (nI l &&& 31)) &&& nI 1 = nI 0) = (p l = false) := by
  rw [tstN p hn hl]
  cases p l <;> simp [nI_10]
theorem injN {p q : Nat → Bool} {n : Nat} (hn : n ≤ 31) : bitI n p = bitI n q ↔ ∀ i, i < n → p i = q i := by
  refine ⟨fun h i hi => ?_, fun h => bitI_c h⟩
  have h1 := tst1 p hn hi
  rw [h, tst1 q hn hi] at h1
  cases hp : p i <;> cases hq : q i <;> rw [hp, hq] at h1 <;> simp at h1 ⊢
theorem bN_z {p : Nat → Bool} : ∀ {n : Nat}, (∀ i, i < n → p i = false) → bN n p = 0
  | 0, _ => rfl
  | n + 1, h => by simp only [bN]; rw [bN_z (fun i hi => h i (by omega)), h n (by omega)]; rfl
theorem bitI_z {p : Nat → Bool} {n : Nat} (hn : n ≤ 31) (h : ∀ i, i < n → p i = false) : bitI n p = nI 0 := by rw [bitI_N p n hn, bN_z h]
theorem bitI_0 {p : Nat → Bool} {n : Nat} (hn : n ≤ 31) : bitI n p = nI 0 ↔ ∀ i, i < n → p i = false := by
  refine ⟨fun h i hi => ?_, bitI_z hn⟩
  have h2 : bitI n (fun _ => false) = nI 0 := bitI_z hn (fun _ _ => rfl)
  exact (injN hn).mp (h.trans h2.symm) i hi
/-- bits beyond the set's are 0 -/
theorem bitI_ext {p : Nat → Bool} {n m : Nat} (h : n ≤ m) (hz : ∀ i, n ≤ i → i < m → p i = false) : bitI m p = bitI n p := by
  induction m with
  | zero => rw [show n = 0 by omega]
  | succ m ih =>
    by_cases e : n = m + 1
    · rw [e]
    · rw [bitI_s, hz m (by omega) (Nat.lt_succ_self m)]
      exact ih (by omega) (fun i hi hi2 => hz i hi (by omega))
theorem bN_c {p q : Nat → Bool} : ∀ {n : Nat}, (∀ i, i < n → p i = q i) → bN n p = bN n q
  | 0, _ => rfl
  | n + 1, h => by simp only [bN]; rw [bN_c (fun i hi => h i (by omega)), h n (by omega)]
/-- one more bit, anywhere -/
theorem bN_or (p : Nat → Bool) {t : Nat} : ∀ {n : Nat}, t < n → bN n p ||| 2 ^ t = bN n (fun i => p i || i == t)
  | 0, h => by omega
  | n + 1, h => by
    have hb := bN_lt p n
    simp only [bN]
    by_cases e : t = n
    · subst e
      have hc : bN t (fun i => p i || i == t) = bN t p := bN_c (fun i hi => by
        have : (i == t) = false := by simp; omega
        rw [this, Bool.or_false])
      have h2 := Nat.two_pow_add_eq_or_of_lt hb 1
      rw [Nat.mul_one] at h2
      rw [hc]
      simp only [beq_self_eq_true, Bool.or_true, if_true]
      split
      · rw [Nat.add_comm (bN t p), h2, Nat.or_assoc, Nat.or_comm (bN t p), ← Nat.or_assoc, Nat.or_self]
      · rw [Nat.add_zero, Nat.or_comm, ← h2, Nat.add_comm]
    · have ih := bN_or p (n := n) (show t < n by omega)
      have hne : (n == t) = false := by simp; omega
      simp only [hne, Bool.or_false]
      rw [← ih]
      have hb2 : bN n p ||| 2 ^ t < 2 ^ n := Nat.or_lt_two_pow hb (Nat.pow_lt_pow_right (by decide) (by omega))
      split
      · have h1 := Nat.two_pow_add_eq_or_of_lt hb 1
        have h2 := Nat.two_pow_add_eq_or_of_lt hb2 1
        rw [Nat.mul_one] at h1 h2
        rw [Nat.add_comm (bN n p), Nat.add_comm (bN n p ||| 2 ^ t), h1, h2, Nat.or_assoc]
      · rw [Nat.add_zero, Nat.add_zero]
theorem orN (p : Nat → Bool) {n t : Nat} (hn : n ≤ 31) (ht : t < n) : bitI n p ||| (nI 1 <<< (nI t &&& 31)) = bitI n (fun i => p i || i == t) := by
  rw [bitI_N p n hn, bitI_N _ n hn, one_sh (by omega), nI_or, bN_or p ht]

/-! bits of 24 counted as the class does -/
theorem nI_and (a b : Nat) : nI a &&& nI b = nI (a &&& b) := by
  apply Int32.toBitVec.inj
  show BitVec.ofNat 32 a &&& BitVec.ofNat 32 b = BitVec.ofNat 32 (a &&& b)
  apply BitVec.eq_of_getLsbD_eq
  intro i hi
  simp [hi]
theorem ush_k : ∀ k, k < 32 → ((nI k).toUInt32 &&& Int32.toUInt32 31).toNat % 32 = k := by decide
theorem toI_nI (x : UInt32) : x.toInt32 = nI x.toNat := by
  apply Int32.toBitVec.inj
  show x.toBitVec = BitVec.ofNat 32 x.toBitVec.toNat
  rw [BitVec.ofNat_toNat, BitVec.setWidth_eq]
theorem ushr_nI {a k : Nat} (ha : a < 4294967296) (hk : k < 32) : ushr (nI a) (nI k) = nI (a / 2 ^ k) := by
  unfold ushr
  rw [toI_nI, UInt32.toNat_shiftRight, ush_k k hk, Nat.shiftRight_eq_div_pow]
  have : (nI a).toUInt32.toNat = a := by
    show (UInt32.ofNat a).toNat = a
    exact UInt32.toNat_ofNat_of_lt' (by simpa using ha)
  rw [this]
def b1 (m x : Nat) : Nat := x - ((x / 2) &&& m)
def b2 (m x : Nat) : Nat := (x &&& m) + ((x / 4) &&& m)
def b3 (m x : Nat) : Nat := (x + x / 16) &&& m
def b4 (x : Nat) : Nat := ((x + x / 256) + (x + x / 256) / 65536) &&& 63
theorem jb_N {x : Nat} (h : x < 16777216) : jb (nI x) = nI (b4 (b3 252645135 (b2 858993459 (b1 1431655765 x)))) := by
  have h1 : (x / 2) &&& 1431655765 ≤ x / 2 := Nat.and_le_left
  have h2 : b1 1431655765 x ≤ x := Nat.sub_le _ _
  have h3 : b2 858993459 (b1 1431655765 x) ≤ 2 * x := by
    have a1 : b1 1431655765 x &&& 858993459 ≤ b1 1431655765 x := Nat.and_le_left
    have a2 : b1 1431655765 x / 4 &&& 858993459 ≤ b1 1431655765 x / 4 := Nat.and_le_left
    unfold b2
    omega
  have h4 : b3 252645135 (b2 858993459 (b1 1431655765 x)) ≤ 3 * x := by
    have a1 : (b2 858993459 (b1 1431655765 x) + b2 858993459 (b1 1431655765 x) / 16) &&& 252645135 ≤ _ := Nat.and_le_left
    unfold b3
    omega
  have e1 : nI x - (ushr (nI x) (nI 1) &&& nI 1431655765) = nI (b1 1431655765 x) := by
    rw [ushr_nI (by omega) (by omega), nI_and, show (2 : Nat) ^ 1 = 2 from rfl]
    exact pk_sub (by omega)
  have e2 : (nI (b1 1431655765 x) &&& nI 858993459) + (ushr (nI (b1 1431655765 x)) (nI 2) &&& nI 858993459) = nI (b2 858993459 (b1 1431655765 x)) := by
    rw [ushr_nI (by omega) (by omega), nI_and, nI_and, nI_add]
    rfl
  have e3 : (nI (b2 858993459 (b1 1431655765 x)) + ushr (nI (b2 858993459 (b1 1431655765 x))) (nI 4)) &&& nI 252645135 = nI (b3 252645135 (b2 858993459 (b1 1431655765 x))) := by
    rw [ushr_nI (by omega) (by omega), nI_add, nI_and]
    rfl
  unfold jb
  simp only
  rw [e1, e2, e3]
  generalize b3 252645135 (b2 858993459 (b1 1431655765 x)) = y at *
  rw [ushr_nI (by omega) (by omega), nI_add, ushr_nI (by omega) (by omega), nI_add, nI_and]
  rfl
theorem lc8 {a c b d : Nat} (hb : b < 256) (hd : d < 256) : (256 * a + b) &&& (256 * c + d) = 256 * (a &&& c) + (b &&& d) := by
  have hbd : b &&& d < 2 ^ 8 := Nat.lt_of_le_of_lt Nat.and_le_left hb
  have hb' : b < 2 ^ 8 := hb
  have hd' : d < 2 ^ 8 := hd
  apply Nat.eq_of_testBit_eq
  intro i
  rw [Nat.testBit_and]
  rw [show 256 = 2 ^ 8 from rfl, Nat.testBit_two_pow_mul_add a hb', Nat.testBit_two_pow_mul_add c hd', Nat.testBit_two_pow_mul_add (a &&& c) hbd]
  split <;> rw [Nat.testBit_and]
theorem b1_k : ∀ c, c < 256 → ∀ e, e < 2 → (128 * e + c / 2) &&& 85 = (c / 2) &&& 85 := by decide +kernel
theorem b2_k : ∀ c, c < 256 → ∀ e, e < 4 → (64 * e + c / 4) &&& 51 = (c / 4) &&& 51 := by decide +kernel
theorem b3_k : ∀ c, c < 69 → ∀ e, e < 5 → (c + c / 16 + 16 * e) &&& 15 = (c + c / 16) &&& 15 := by decide +kernel
theorem b1_cat {M A c : Nat} (hc : c < 256) : b1 (256 * M + 85) (256 * A + c) = 256 * b1 M A + b1 85 c := by
  have e : (256 * A + c) / 2 = 256 * (A / 2) + (128 * (A % 2) + c / 2) := by omega
  have a1 : A / 2 &&& M ≤ A / 2 := Nat.and_le_left
  have a2 : c / 2 &&& 85 ≤ c / 2 := Nat.and_le_left
  unfold b1
  rw [e, lc8 (by omega) (by omega), b1_k c hc (A % 2) (by omega)]
  omega
theorem b2_cat {M A c : Nat} (hc : c < 256) : b2 (256 * M + 51) (256 * A + c) = 256 * b2 M A + b2 51 c := by
  have e : (256 * A + c) / 4 = 256 * (A / 4) + (64 * (A % 4) + c / 4) := by omega
  unfold b2
  rw [e, lc8 (by omega) (by omega), lc8 (by omega) (by omega), b2_k c hc (A % 4) (by omega)]
  omega
theorem b3_cat {M A c : Nat} (hc : c < 69) (hA : A % 16 < 5) : b3 (256 * M + 15) (256 * A + c) = 256 * b3 M A + b3 15 c := by
  have e : (256 * A + c) + (256 * A + c) / 16 = 256 * (A + A / 16) + (c + c / 16 + 16 * (A % 16)) := by omega
  unfold b3
  rw [e, lc8 (by omega) (by omega), b3_k c hc (A % 16) hA]
theorem by_a : ∀ a, a < 256 → b1 21845 a < 256 ∧ b2 13107 (b1 21845 a) < 69 ∧ b2 13107 (b1 21845 a) % 16 < 5 ∧ b3 3855 (b2 13107 (b1 21845 a)) = b3 15 (b2 51 (b1 85 a)) := by decide +kernel
theorem by_c : ∀ a, a < 256 → b1 85 a < 256 ∧ b2 51 (b1 85 a) < 69 ∧ b2 51 (b1 85 a) % 16 < 5 ∧ b3 15 (b2 51 (b1 85 a)) ≤ 8 := by decide +kernel
theorem b4_e : ∀ a, a ≤ 8 → ∀ b, b ≤ 8 → ∀ c, c ≤ 8 → b4 (256 * (256 * a + b) + c) = a + b + c := by decide +kernel
def by1 (x : Nat) : Nat := b3 15 (b2 51 (b1 85 x))
theorem b_all {a b c : Nat} (ha : a < 256) (hb : b < 256) (hc : c < 256) : b4 (b3 252645135 (b2 858993459 (b1 1431655765 (256 * (256 * a + b) + c)))) = by1 a + by1 b + by1 c := by
  obtain ⟨a1, a2, a3, a4⟩ := by_a a ha
  obtain ⟨p1, p2, p3, p4⟩ := by_c a ha
  obtain ⟨q1, q2, q3, q4⟩ := by_c b hb
  obtain ⟨r1, r2, r3, r4⟩ := by_c c hc
  rw [show 1431655765 = 256 * (256 * 21845 + 85) + 85 from rfl, b1_cat hc, b1_cat hb]
  rw [show 858993459 = 256 * (256 * 13107 + 51) + 51 from rfl, b2_cat r1, b2_cat q1]
  rw [show 252645135 = 256 * (256 * 3855 + 15) + 15 from rfl, b3_cat r2 (by omega), b3_cat q2 a3, a4, b4_e _ p4 _ q4 _ r4]
  rfl
theorem bN_cat (p : Nat → Bool) (k : Nat) : ∀ n, bN (n + k) p = 2 ^ k * bN n (fun i => p (i + k)) + bN k p
  | 0 => by rw [Nat.zero_add]; simp [bN]
  | n + 1 => by
    rw [show n + 1 + k = (n + k) + 1 by omega]
    simp only [bN]
    rw [bN_cat p k n]
    split
    · rw [Nat.mul_add, ← Nat.pow_add, Nat.add_comm k n]; omega
    · rw [Nat.add_zero, Nat.add_zero]
theorem cntB_cat (p : Nat → Bool) (k : Nat) : ∀ n, cntB (n + k) p = cntB n (fun i => p (i + k)) + cntB k p
  | 0 => by rw [Nat.zero_add]; show _ = 0 + _; rw [Nat.zero_add]
  | n + 1 => by
    rw [show n + 1 + k = (n + k) + 1 by omega, cntB_s, cntB_s, cntB_cat p k n]
    omega
theorem by8 : ∀ a b c d e f g h : Bool, by1 (bq a 0 + bq b 1 + bq c 2 + bq d 3 + bq e 4 + bq f 5 + bq g 6 + bq h 7) = bc a + bc b + bc c + bc d + bc e + bc f + bc g + bc h := by decide +kernel
theorem by1_e (p : Nat → Bool) : by1 (bN 8 p) = cntB 8 p := by
  have e1 : bN 8 p = bq (p 0) 0 + bq (p 1) 1 + bq (p 2) 2 + bq (p 3) 3 + bq (p 4) 4 + bq (p 5) 5 + bq (p 6) 6 + bq (p 7) 7 := by
    show 0 + _ + _ + _ + _ + _ + _ + _ + _ = _
    rw [Nat.zero_add]
    rfl
  have e2 : cntB 8 p = bc (p 0) + bc (p 1) + bc (p 2) + bc (p 3) + bc (p 4) + bc (p 5) + bc (p 6) + bc (p 7) := by
    show 0 + _ + _ + _ + _ + _ + _ + _ + _ = _
    rw [Nat.zero_add]
    rfl
  rw [e1, e2, by8]
theorem j_bits_24 (p : Nat → Bool) (μ : Mem) : j_bitCount (bitI 24 p) μ = some (nI (cntB 24 p), μ) := by
  rw [jb_e, bitI_N p 24 (by omega)]
  have hlt := bN_lt p 24
  rw [jb_N hlt]
  have e1 := bN_cat p 8 16
  have e2 := bN_cat (fun i => p (i + 8)) 8 8
  have c1 := cntB_cat p 8 16
  have c2 := cntB_cat (fun i => p (i + 8)) 8 8
  simp only [Nat.reduceAdd] at e1 e2 c1 c2
  rw [e1, e2, c1, c2, show (2 : Nat) ^ 8 = 256 from rfl, b_all (bN_lt _ 8) (bN_lt _ 8) (bN_lt _ 8), by1_e, by1_e, by1_e]

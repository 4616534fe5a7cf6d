/-! fractions in their least terms -/
theorem lrm_oL {a b : Nat} (ha : a ≤ 9000000000000000000) (hb : b ≤ 9000000000000000000) : lrm (oL (a : Int)) (oL (b : Int)) = oL ((a % b : Nat) : Int) := by
  unfold lrm
  rw [oL_tdiv (by omega) (by omega) (by omega) (by omega), oL_mul, oL_sub]
  congr 1
  rw [← Int.ofNat_tdiv]
  have := Nat.div_add_mod a b
  have h2 : a / b * b + a % b = a := by rw [Nat.mul_comm]; exact this
  have h3 : ((a / b * b + a % b : Nat) : Int) = (a : Int) := by rw [h2]
  rw [Int.natCast_add, Int.natCast_mul] at h3
  omega
theorem gcd_step {a b : Nat} (h : b ≠ 0) : Nat.gcd a b = Nat.gcd b (a % b) := by
  rw [Nat.gcd_comm a b, Nat.gcd_rec b a, Nat.gcd_comm]
theorem oL_z0 {b : Nat} (hb : b ≤ 9000000000000000000) : oL (b : Int) = 0 ↔ b = 0 := by
  rw [← oL_0, oL_inj (by omega) (by omega) (by omega) (by omega)]
  omega
theorem cm_step {self : Int64 → Int64 → Mem → Option (Int64 × Mem)} {a b : Nat} (ha : a ≤ 9000000000000000000) (hb : b ≤ 9000000000000000000) (h : b ≠ 0) (μ : Mem) : m_common_B6 self (oL (a : Int)) (oL (b : Int)) μ = self (oL (b : Int)) (oL ((a % b : Nat) : Int)) μ := by
  have hz : ¬ oL (b : Int) = 0 := fun z => h ((oL_z0 hb).mp z)
  unfold m_common_B6
  simp only [lg_cmp0 hz, hz, not_false_eq_true, lrm_oL ha hb, ↓reduceIte]
theorem cm_end {self : Int64 → Int64 → Mem → Option (Int64 × Mem)} (x : Int64) (μ : Mem) : m_common_B6 self x (oL 0) μ = some (x, μ) := by
  unfold m_common_B6
  simp only [oL_0, lg_cmp00, ↓reduceIte]
theorem mod_half {b c k : Nat} (hb : b < 2 ^ (k + 1)) (hc : 2 ^ k ≤ c) (h : c < b) : b % c < 2 ^ k := by
  rw [Nat.pow_succ] at hb
  rw [Nat.mod_eq_sub_mod (by omega), Nat.mod_eq_of_lt (by omega)]
  omega
theorem cm_loop (μ : Mem) : ∀ (k a b fuel : Nat), a ≤ 9000000000000000000 → b ≤ 9000000000000000000 → b < 2 ^ k → 2 * k < fuel → fixN (fun _ _ _ => none) m_common_B6 fuel (oL (a : Int)) (oL (b : Int)) μ = some (oL ((Nat.gcd a b : Nat) : Int), μ)
  | 0, a, b, fuel, ha, hb, h, hf => by
    have : b = 0 := by simpa using h
    subst this
    obtain ⟨f, rfl⟩ : ∃ f, fuel = f + 1 := ⟨fuel - 1, by omega⟩
    rw [fixN_s, Nat.gcd_zero_right]
    exact cm_end _ _
  | k + 1, a, b, fuel, ha, hb, h, hf => by
    obtain ⟨f, rfl⟩ : ∃ f, fuel = f + 1 := ⟨fuel - 1, by omega⟩
    rw [fixN_s]
    by_cases e : b = 0
    · subst e
      rw [Nat.gcd_zero_right]
      exact cm_end _ _
    · have hc : a % b < b := Nat.mod_lt _ (Nat.pos_of_ne_zero e)
      rw [cm_step ha hb e, gcd_step e]
      by_cases e2 : a % b < 2 ^ k
      · exact cm_loop μ k b (a % b) f hb (by omega) e2 (by omega)
      · obtain ⟨f2, rfl⟩ : ∃ f2, f = f2 + 1 := ⟨f - 1, by omega⟩
        have e3 : a % b ≠ 0 := fun z => e2 (by rw [z]; exact Nat.two_pow_pos k)
        rw [fixN_s, cm_step hb (by omega) e3, gcd_step e3]
        exact cm_loop μ k (a % b) (b % (a % b)) f2 (by omega) (by have := Nat.mod_lt b (Nat.pos_of_ne_zero e3); omega) (mod_half h (by omega) hc) (by omega)
theorem big62 {b : Nat} (hb : b ≤ 4000000000000000000) : b < 2 ^ 62 := Nat.lt_of_le_of_lt hb (by decide)
theorem m_common_e {a b : Nat} (ha : a ≤ 4000000000000000000) (hb : b ≤ 4000000000000000000) (μ : Mem) : m_common (oL (a : Int)) (oL (b : Int)) μ = some (oL ((Nat.gcd a b : Nat) : Int), μ) := cm_loop μ 62 a b 60000 (by omega) (by omega) (big62 hb) (by decide)
theorem gd_step {self : Int64 → Int64 → Int32 → Mem → Option (Int64 × Mem)} {a b t : Nat} (ha : a ≤ 9000000000000000000) (hb : b ≤ 9000000000000000000) (h : b ≠ 0) (ht : t < 200) (μ : Mem) : s_greatestDivisor_B9 self (oL (a : Int)) (oL (b : Int)) (nI t) μ = self (oL (b : Int)) (oL ((a % b : Nat) : Int)) (nI (t + 1)) μ := by
  have hz : ¬ oL (b : Int) = 0 := fun z => h ((oL_z0 hb).mp z)
  unfold s_greatestDivisor_B9
  simp (disch := omega) only [nI_leF, lg_cmp0 hz, hz, not_false_eq_true, lrm_oL ha hb, nI_add, ↓reduceIte]
theorem gd_end {self : Int64 → Int64 → Int32 → Mem → Option (Int64 × Mem)} (x : Int64) (t : Int32) (μ : Mem) : s_greatestDivisor_B9 self x (oL 0) t μ = some (x, μ) := by
  unfold s_greatestDivisor_B9
  simp only [oL_0, lg_cmp00, ↓reduceIte, ite_self]
theorem gd_loop (μ : Mem) : ∀ (k a b t fuel : Nat), a ≤ 9000000000000000000 → b ≤ 9000000000000000000 → b < 2 ^ k → 2 * k < fuel → t + 2 * k < 200 → fixN (fun _ _ _ _ => none) s_greatestDivisor_B9 fuel (oL (a : Int)) (oL (b : Int)) (nI t) μ = some (oL ((Nat.gcd a b : Nat) : Int), μ)
  | 0, a, b, t, fuel, ha, hb, h, hf, ht => by
    have : b = 0 := by simpa using h
    subst this
    obtain ⟨f, rfl⟩ : ∃ f, fuel = f + 1 := ⟨fuel - 1, by omega⟩
    rw [fixN_s, Nat.gcd_zero_right]
    exact gd_end _ _ _
  | k + 1, a, b, t, fuel, ha, hb, h, hf, ht => by
    obtain ⟨f, rfl⟩ : ∃ f, fuel = f + 1 := ⟨fuel - 1, by omega⟩
    rw [fixN_s]
    by_cases e : b = 0
    · subst e
      rw [Nat.gcd_zero_right]
      exact gd_end _ _ _
    · have hc : a % b < b := Nat.mod_lt _ (Nat.pos_of_ne_zero e)
      rw [gd_step ha hb e (by omega), gcd_step e]
      by_cases e2 : a % b < 2 ^ k
      · exact gd_loop μ k b (a % b) (t + 1) f hb (by omega) e2 (by omega) (by omega)
      · obtain ⟨f2, rfl⟩ : ∃ f2, f = f2 + 1 := ⟨f - 1, by omega⟩
        have e3 : a % b ≠ 0 := fun z => e2 (by rw [z]; exact Nat.two_pow_pos k)
        rw [fixN_s, gd_step hb (by omega) e3 (by omega), gcd_step e3]
        exact gd_loop μ k (a % b) (b % (a % b)) (t + 1 + 1) f2 (by omega) (by have := Nat.mod_lt b (Nat.pos_of_ne_zero e3); omega) (mod_half h (by omega) hc) (by omega) (by omega)
theorem s_gcd_e {a b : Nat} (ha : a ≤ 4000000000000000000) (hb : b ≤ 4000000000000000000) (μ : Mem) : s_greatestDivisor (oL (a : Int)) (oL (b : Int)) μ = some (oL ((Nat.gcd a b : Nat) : Int), μ) := gd_loop μ 62 a b 0 60000 (by omega) (by omega) (big62 hb) (by decide) (by decide)
def frO (a b : Nat) : Int32 := if Nat.gcd a b = 0 then nI 0 else Int64.toInt32 (oL ((a / Nat.gcd a b : Nat) : Int))
def frU (a b : Nat) : Int32 := if Nat.gcd a b = 0 then nI 0 else Int64.toInt32 (oL ((b / Nat.gcd a b : Nat) : Int))
theorem gcd_le4 {a b : Nat} (ha : a ≤ 4000000000000000000) (hb : b ≤ 4000000000000000000) : Nat.gcd a b ≤ 4000000000000000000 := by
  by_cases e : a = 0
  · subst e; rw [Nat.gcd_zero_left]; exact hb
  · exact Nat.le_trans (Nat.gcd_le_left b (Nat.pos_of_ne_zero e)) ha
theorem oL_ndiv {a b : Nat} (ha : a ≤ 4000000000000000000) (hb : b ≤ 4000000000000000000) : oL (a : Int) / oL (b : Int) = oL ((a / b : Nat) : Int) := by
  rw [oL_tdiv (by omega) (by omega) (by omega) (by omega), Int.ofNat_tdiv]
theorem s_overInLeast_e {a b : Nat} (ha : a ≤ 4000000000000000000) (hb : b ≤ 4000000000000000000) (μ : Mem) : s_overInLeast (oL (a : Int)) (oL (b : Int)) μ = some (frO a b, μ) := by
  have hg := gcd_le4 ha hb
  unfold s_overInLeast frO
  rw [s_gcd_e ha hb, ob_some]
  by_cases e : Nat.gcd a b = 0
  · rw [e]; rfl
  · have hz : ¬ oL ((Nat.gcd a b : Nat) : Int) = 0 := fun z => e ((oL_z0 (by omega)).mp z)
    rw [oL_ndiv ha hg]
    simp only [lg_cmp0 hz, hz, e, not_false_eq_true, ↓reduceIte]
theorem s_underInLeast_e {a b : Nat} (ha : a ≤ 4000000000000000000) (hb : b ≤ 4000000000000000000) (μ : Mem) : s_underInLeast (oL (a : Int)) (oL (b : Int)) μ = some (frU a b, μ) := by
  have hg := gcd_le4 ha hb
  unfold s_underInLeast frU
  rw [s_gcd_e ha hb, ob_some]
  by_cases e : Nat.gcd a b = 0
  · rw [e]; rfl
  · have hz : ¬ oL ((Nat.gcd a b : Nat) : Int) = 0 := fun z => e ((oL_z0 (by omega)).mp z)
    rw [oL_ndiv hb hg]
    simp only [lg_cmp0 hz, hz, e, not_false_eq_true, ↓reduceIte]
theorem m_termOfTwo_e {μ : Mem} {P : Pl} {S : Nat → Int32} (hk : PlOK P) (hS : StOK P S) (hw : WaM μ P S) {a : Nat} (ha : a ≤ 4000000000000000000) (what : Nat) (hwh : what < 1000) : m_termOfTwo (oL (a : Int)) (nI what) μ = some (ifP (wFl P S) (nI 0) (if what = 0 then frO a (wUn P S).toNat else frU a (wUn P S).toNat), μ) := by
  have hU := wUn_pos hk hS
  have hb : (wUn P S).toNat ≤ 4000000000000000000 := by omega
  have h56 := hw.fl
  have h57 := hw.un
  rw [show wUn P S = (((wUn P S).toNat : Nat) : Int) by omega] at h57
  have hg := gcd_le4 ha hb
  have e1 := m_common_e ha hb μ
  have hgz : Nat.gcd a (wUn P S).toNat ≠ 0 := fun z => by have := Nat.eq_zero_of_gcd_eq_zero_right z; omega
  have hz : ¬ oL ((Nat.gcd a (wUn P S).toNat : Nat) : Int) = 0 := fun z => hgz ((oL_z0 (by omega)).mp z)
  unfold m_termOfTwo
  by_cases c : wFl P S
  · rw [show flI P S = nI 1 from ifP_t c] at h56
    rw [ifP_t c]
    simp only [h56, nI_10, ↓reduceIte]
  · rw [show flI P S = nI 0 from ifP_f c] at h56
    rw [ifP_f c]
    unfold frO frU
    by_cases c2 : what = 0
    · subst c2
      simp only [h56, h57, ↓ob_eq e1, hz, not_false_eq_true, oL_ndiv ha hg, hgz, ↓reduceIte]
    · simp (disch := omega) only [h56, h57, ↓ob_eq e1, nI_eqF, hz, not_false_eq_true, oL_ndiv hb hg, hgz, c2, ↓reduceIte]
theorem fr4O {a b : Nat} : frO (4 * a) (4 * b) = frO a b := by
  unfold frO
  rw [Nat.gcd_mul_left]
  by_cases e : Nat.gcd a b = 0
  · rw [e]; rfl
  · rw [if_neg (by omega), if_neg e, Nat.mul_div_mul_left _ _ (by decide)]
theorem fr4U {a b : Nat} : frU (4 * a) (4 * b) = frU a b := by
  unfold frU
  rw [Nat.gcd_mul_left]
  by_cases e : Nat.gcd a b = 0
  · rw [e]; rfl
  · rw [if_neg (by omega), if_neg e, Nat.mul_div_mul_left _ _ (by decide)]
theorem sumZ_bd {n : Nat} {f : Nat → Int} {c : Int} (h : ∀ i, i < n → 0 ≤ f i ∧ f i ≤ c) : 0 ≤ sumZ n f ∧ sumZ n f ≤ n * c := by
  induction n with
  | zero => simp [sumZ]
  | succ n ih =>
    rw [sumZ_s]
    have h1 := ih (fun i hi => h i (by omega))
    have h2 := h n (by omega)
    rw [Int.natCast_add, Int.add_mul]
    omega
theorem logO_bd {P : Pl} {S : Nat → Int32} (hk : PlOK P) (hS : StOK P S) {l : Nat} (hl : l < 4) : 0 ≤ logO P S l ∧ logO P S l ≤ 1486016741376 := by
  obtain ⟨a, b⟩ := wOv_nn hk hS hl
  have c := sp_le hk hS l
  unfold logO
  have h1 := Int.mul_nonneg (show (0 : Int) ≤ ((4 * sp P S l : Nat) : Int) by omega) a
  have h2 := Int.mul_le_mul (show ((4 * sp P S l : Nat) : Int) ≤ 144 by omega) b a (by omega)
  omega
theorem nt_bd {P : Pl} {S : Nat → Int32} (hk : PlOK P) (hS : StOK P S) {n : Nat} (hn : n < pNo P) : 0 ≤ ((4 * sW S n : Nat) : Int) * wOv P S (pLog P n) ∧ ((4 * sW S n : Nat) : Int) * wOv P S (pLog P n) ≤ 123834728448 := by
  have h4 := hk.2.2.2.1 n hn
  have k1 := hk.1
  obtain ⟨a, b⟩ := wOv_nn hk hS (show pLog P n < 4 by omega)
  have c := (hS.1 n hn).2
  have h1 := Int.mul_nonneg (show (0 : Int) ≤ ((4 * sW S n : Nat) : Int) by omega) a
  have h2 := Int.mul_le_mul (show ((4 * sW S n : Nat) : Int) ≤ 12 by omega) b a (by omega)
  omega
theorem fldO_bd {P : Pl} {S : Nat → Int32} (hk : PlOK P) (hS : StOK P S) (f : Nat) : 0 ≤ fldO P S f ∧ fldO P S f ≤ 1486016741376 := by
  have k3 := hk.2.2.1
  obtain ⟨a, b⟩ := sumZ_bd (n := pNo P) (f := fun n => if pTo P n = 10 + f then ((4 * sW S n : Nat) : Int) * wOv P S (pLog P n) else 0) (c := 123834728448) (fun i hi => by
    have := nt_bd hk hS hi
    show 0 ≤ (if pTo P i = 10 + f then ((4 * sW S i : Nat) : Int) * wOv P S (pLog P i) else 0) ∧ (if pTo P i = 10 + f then ((4 * sW S i : Nat) : Int) * wOv P S (pLog P i) else 0) ≤ _
    split <;> omega)
  have : ((pNo P : Nat) : Int) * 123834728448 ≤ 12 * 123834728448 := Int.mul_le_mul_of_nonneg_right (by omega) (by decide)
  exact ⟨a, by unfold fldO; omega⟩

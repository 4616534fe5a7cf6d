/-! mend: rows of steps as numbers -/
def cd (b : Nat) (v : Nat → Nat) : Nat → Nat
  | 0 => 0
  | k + 1 => cd b v k * b + v k
theorem dm_lt {m A B x y : Nat} (hx : x < m) (hy : y < m) : (A * m + x < B * m + y ↔ A < B ∨ (A = B ∧ x < y)) ∧ (A * m + x = B * m + y ↔ A = B ∧ x = y) := by
  rcases Nat.lt_trichotomy A B with h | h | h
  · have := Nat.mul_le_mul_right m (show A + 1 ≤ B by omega)
    rw [Nat.add_mul, Nat.one_mul] at this
    constructor <;> constructor <;> intro z <;> omega
  · subst h
    constructor <;> constructor <;> intro z <;> omega
  · have := Nat.mul_le_mul_right m (show B + 1 ≤ A by omega)
    rw [Nat.add_mul, Nat.one_mul] at this
    constructor <;> constructor <;> intro z <;> omega
theorem cd_lt {m b : Nat} (hmb : m ≤ b) {u v : Nat → Nat} : ∀ n, (∀ i, i < n → u i < m ∧ v i < m) → ((cd m u n < cd m v n ↔ cd b u n < cd b v n) ∧ (cd m u n = cd m v n ↔ cd b u n = cd b v n))
  | 0, _ => ⟨Iff.rfl, Iff.rfl⟩
  | n + 1, h => by
    obtain ⟨i1, i2⟩ := cd_lt hmb n (fun i hi => h i (by omega))
    obtain ⟨h1, h2⟩ := h n (by omega)
    obtain ⟨a1, a2⟩ := dm_lt (A := cd m u n) (B := cd m v n) h1 h2
    obtain ⟨b1, b2⟩ := dm_lt (A := cd b u n) (B := cd b v n) (m := b) (x := u n) (y := v n) (by omega) (by omega)
    simp only [cd]
    exact ⟨a1.trans ((or_congr i1 (and_congr_left' i2)).trans b1.symm), a2.trans ((and_congr_left' i2).trans b2.symm)⟩
theorem cd_inj {b : Nat} {u v : Nat → Nat} : ∀ n, (∀ i, i < n → u i < b ∧ v i < b) → cd b u n = cd b v n → ∀ i, i < n → u i = v i
  | 0, _, _, i, hi => by omega
  | n + 1, h, e, i, hi => by
    obtain ⟨h1, h2⟩ := h n (by omega)
    obtain ⟨e1, e2⟩ := (dm_lt h1 h2).2.mp e
    by_cases c : i = n
    · subst c; exact e2
    · exact cd_inj n (fun i hi => h i (by omega)) e1 i (by omega)
theorem cd_bd {b : Nat} {u : Nat → Nat} : ∀ n, (∀ i, i < n → u i < b) → cd b u n < b ^ n
  | 0, _ => by simp [cd]
  | n + 1, h => by
    have i1 := cd_bd n (fun i hi => h i (by omega))
    have h1 := h n (by omega)
    have := Nat.mul_le_mul_right b (show cd b u n + 1 ≤ b ^ n by omega)
    rw [Nat.add_mul, Nat.one_mul, ← Nat.pow_succ] at this
    have e : b ^ n.succ = b ^ (n + 1) := rfl
    simp only [cd]
    omega
theorem cd_c {b : Nat} {u v : Nat → Nat} : ∀ n, (∀ i, i < n → u i = v i) → cd b u n = cd b v n
  | 0, _ => rfl
  | n + 1, h => by
    simp only [cd]
    rw [cd_c n (fun i hi => h i (by omega)), h n (by omega)]
theorem cd_ex {b : Nat} (hb : 0 < b) : ∀ n r, r < b ^ n → ∃ v : Nat → Nat, (∀ i, i < n → v i < b) ∧ cd b v n = r
  | 0, r, h => ⟨fun _ => 0, fun i hi => by omega, by simp at h; simp [cd, h]⟩
  | n + 1, r, h => by
    obtain ⟨v, h1, h2⟩ := cd_ex hb n (r / b) (by rw [Nat.div_lt_iff_lt_mul hb, ← Nat.pow_succ]; exact h)
    refine ⟨up v n (r % b), fun i hi => ?_, ?_⟩
    · by_cases e : i = n
      · subst e; rw [up_s]; exact Nat.mod_lt _ hb
      · rw [up_n _ _ e]; exact h1 i (by omega)
    · simp only [cd]
      rw [up_s, cd_c (v := v) n (fun i hi => up_n _ _ (by omega)), h2, Nat.mul_comm]
      exact Nat.div_add_mod r b
/-- steps one behind another -/
def dn (P : Pl) (S : Nat → Int32) (v : Nat → Nat) : Nat → Option (Nat → Int32)
  | 0 => some S
  | k + 1 => match dn P S v k with
    | none => none
    | some T => if canS P T (v k) = true then some (stS T (v k)) else none
theorem dn_s (P : Pl) (S : Nat → Int32) (v : Nat → Nat) (k : Nat) : dn P S v (k + 1) = (match dn P S v k with
    | none => none
    | some T => if canS P T (v k) = true then some (stS T (v k)) else none) := rfl
theorem dn_c {P : Pl} {S : Nat → Int32} {u v : Nat → Nat} : ∀ n, (∀ i, i < n → u i = v i) → dn P S u n = dn P S v n
  | 0, _ => rfl
  | n + 1, h => by
    rw [dn_s, dn_s, dn_c n (fun i hi => h i (by omega)), h n (by omega)]
theorem dn_none {P : Pl} {S : Nat → Int32} {v : Nat → Nat} {k : Nat} (h : dn P S v k = none) : ∀ n, k ≤ n → dn P S v n = none
  | 0, hn => by rw [show k = 0 by omega] at h; exact h
  | n + 1, hn => by
    by_cases e : k = n + 1
    · subst e; exact h
    · rw [dn_s, dn_none h n (by omega)]
theorem dn_lt {P : Pl} {S : Nat → Int32} {v : Nat → Nat} : ∀ n T, dn P S v n = some T → ∀ i, i < n → v i < 2 * pNo P
  | 0, _, _, i, hi => by omega
  | n + 1, T, h, i, hi => by
    rw [dn_s] at h
    cases e : dn P S v n with
    | none => rw [e] at h; cases h
    | some U =>
      rw [e] at h
      by_cases c : canS P U (v n) = true
      · by_cases e2 : i = n
        · subst e2; exact (canS_t c).1
        · exact dn_lt n U e i (by omega)
      · simp only [c] at h; cases h
noncomputable def gdB (P : Pl) (S : Nat → Int32) (v : Nat → Nat) (n : Nat) : Bool := match dn P S v n with
  | none => false
  | some T => ifP (¬ wFl P T ∧ ∀ f, f < pFd P → lack P T f = false) true false
theorem gdB_n {P : Pl} {S : Nat → Int32} {v : Nat → Nat} {n : Nat} (h : dn P S v n = none) : gdB P S v n = false := by unfold gdB; rw [h]
theorem gdB_s {P : Pl} {S T : Nat → Int32} {v : Nat → Nat} {n : Nat} (h : dn P S v n = some T) : gdB P S v n = ifP (¬ wFl P T ∧ ∀ f, f < pFd P → lack P T f = false) true false := by unfold gdB; rw [h]
theorem gdB_c {P : Pl} {S : Nat → Int32} {u v : Nat → Nat} {n : Nat} (h : ∀ i, i < n → u i = v i) : gdB P S u n = gdB P S v n := by unfold gdB; rw [dn_c n h]
theorem gdB_lt {P : Pl} {S : Nat → Int32} {v : Nat → Nat} {n : Nat} (h : gdB P S v n = true) : ∀ i, i < n → v i < 2 * pNo P := by
  cases e : dn P S v n with
  | none => rw [gdB_n e] at h; cases h
  | some T => exact dn_lt n T e
/-- no step behind a higher one -/
def ndc (v : Nat → Nat) (n : Nat) : Prop := ∀ i, i + 1 < n → v i ≤ v (i + 1)
theorem ndc_c {u v : Nat → Nat} {n : Nat} (h : ∀ i, i < n → u i = v i) (hu : ndc u n) : ndc v n := fun i hi => by rw [← h i (by omega), ← h (i + 1) (by omega)]; exact hu i hi
/-- the lowest row of n steps that mends -/
def MnP (P : Pl) (S : Nat → Int32) (n : Nat) (v : Nat → Nat) : Prop := (∀ i, i < n → v i < 24) ∧ ndc v n ∧ gdB P S v n = true ∧ ∀ u, (∀ i, i < n → u i < 24) → ndc u n → gdB P S u n = true → cd 24 v n ≤ cd 24 u n
theorem MnP_u {P : Pl} {S : Nat → Int32} {n : Nat} {u v : Nat → Nat} (hu : MnP P S n u) (hv : MnP P S n v) : ∀ i, i < n → u i = v i := cd_inj n (fun i hi => ⟨hu.1 i hi, hv.1 i hi⟩) (Nat.le_antisymm (hu.2.2.2 v hv.1 hv.2.1 hv.2.2.1) (hv.2.2.2 u hu.1 hu.2.1 hu.2.2.1))
noncomputable def mnV (P : Pl) (S : Nat → Int32) (n : Nat) : Nat → Nat := Classical.epsilon (MnP P S n)
theorem mnV_e {P : Pl} {S : Nat → Int32} {n : Nat} {v : Nat → Nat} (h : MnP P S n v) {i : Nat} (hi : i < n) : mnV P S n i = v i := MnP_u (Classical.epsilon_spec ⟨v, h⟩) h i hi
noncomputable def mnN (P : Pl) (S : Nat → Int32) : Nat := ifP (∃ v, MnP P S 0 v) 0 (ifP (∃ v, MnP P S 1 v) 1 (ifP (∃ v, MnP P S 2 v) 2 (ifP (∃ v, MnP P S 3 v) 3 4)))
noncomputable def qMend (P : Pl) (S : Nat → Int32) (x : Int32) : Int32 := if (-1 : Int32) ≤ x then (if mnN P S = 4 then -2 else if x = -1 then nI (mnN P S) else if nI (mnN P S) ≤ x then -1 else nI (mnV P S (mnN P S) (cl x))) else -1
theorem mnN_at {P : Pl} {S : Nat → Int32} {n : Nat} (hn : n ≤ 3) (h0 : ∀ k, k < n → ¬ ∃ v, MnP P S k v) (h : ∃ v, MnP P S n v) : mnN P S = n := by
  unfold mnN
  rcases (show n = 0 ∨ n = 1 ∨ n = 2 ∨ n = 3 by omega) with rfl | rfl | rfl | rfl
  · rw [ifP_t h]
  · rw [ifP_f (h0 0 (by omega)), ifP_t h]
  · rw [ifP_f (h0 0 (by omega)), ifP_f (h0 1 (by omega)), ifP_t h]
  · rw [ifP_f (h0 0 (by omega)), ifP_f (h0 1 (by omega)), ifP_f (h0 2 (by omega)), ifP_t h]
theorem mnN_no {P : Pl} {S : Nat → Int32} (h0 : ∀ k, k < 4 → ¬ ∃ v, MnP P S k v) : mnN P S = 4 := by
  unfold mnN
  rw [ifP_f (h0 0 (by omega)), ifP_f (h0 1 (by omega)), ifP_f (h0 2 (by omega)), ifP_f (h0 3 (by omega))]
/-! the class' side -/
theorem s_wouldMend_e {μ : Mem} {p : Nat} {P : Pl} {S : Nat → Int32} (hk : PlOK P) (hS : StOK P S) (h : CCore μ p P S) {n : Nat} (hn : n ≤ 3) {v : Nat → Nat} (hv : ∀ i, i < n → v i < 24) (h54 : ∀ i, i < n → mI μ 54 0 i = nI (v i)) : ∃ μ', s_wouldMend (nI n) μ = some (b01I (gdB P S v n), μ') ∧ CCore μ' p P S ∧ ∀ i, i < n → mI μ' 54 0 i = nI (v i) := by
  have main : ∃ μ', s_wouldMend (nI n) μ = some (b01I (gdB P S v n), μ') := by
    unfold s_wouldMend
    obtain ⟨μ1, e1, a1⟩ := st_become_e hk h.wo.st (show 3 ≠ 2 by decide)
    have g1 := f_st_become e1
    have c1 := h.fr g1 rfl
    have w1 : WoC μ1 1 p P S := ⟨c1.p2, c1.2.2.1, c1.wo.pl, c1.wo.la, a1⟩
    have q1 : ∀ i, i < n → mI μ1 54 0 i = nI (v i) := fun i hi => (g1.I rfl).trans (h54 i hi)
    simp only [↓ob_eq e1]
    refine fixN_up (fun i (self : Int32 → Mem → Option (Int32 × Mem)) => ∀ μ T, dn P S v i = some T → StOK P T → WoC μ 1 p P T → (∀ i, i < n → mI μ 54 0 i = nI (v i)) → ∃ μ', self (nI i) μ = some (b01I (gdB P S v n), μ')) n ?_ ?_ 60000 0 (by omega) (by omega) μ1 S rfl hS w1 q1
    · intro i self hi ih μ T hd hT w q
      have hvi := hv i hi
      have e2 := wo_canStep_e hk hT w (show v i < 1000 by omega)
      have ds := dn_s P S v i
      rw [hd] at ds
      unfold s_wouldMend_B19
      cases c : canS P T (v i) with
      | false =>
        rw [c] at e2
        simp only [c] at ds
        rw [gdB_n (dn_none ds n (by omega))]
        refine ⟨μ, ?_⟩
        simp (disch := omega) only [nI_leF, inB_nI, cl_nI, q i hi, ↓ob_eq e2, b01I, Bool.false_eq_true, ↓reduceIte]
      | true =>
        rw [c] at e2
        simp only [c, if_true] at ds
        obtain ⟨μ2, e3, w2⟩ := wo_doStep_e hk hT w c
        have g2 := f_wo_doStep e3
        simp (disch := omega) only [nI_leF, inB_nI, cl_nI, q i hi, ↓ob_eq e2, b01I, nI_10, ↓ob_eq e3, nI_add, ↓reduceIte]
        exact ih μ2 _ ds (stS_ok hk hT c) w2 (fun i hi => (g2.I rfl).trans (q i hi))
    · intro self μ T hd hT w q
      obtain ⟨μ3, e3, w3, a3⟩ := wo_settle_e hk hT w
      obtain ⟨b, μ4, e4, hb⟩ := wo_lacksSomewhere_e hk w3 a3
      have f1 := a3.fl
      rw [gdB_s hd]
      unfold s_wouldMend_B19
      by_cases c : wFl P T
      · rw [flI_t c] at f1
        rw [ifP_f (fun z => z.1 c)]
        refine ⟨μ3, ?_⟩
        simp (disch := omega) only [nI_leT, ↓ob_eq e3, f1, nI_10, b01I, Bool.false_eq_true, ↓reduceIte]
      · rw [flI_f c] at f1
        cases b with
        | true =>
          obtain ⟨f, hf, hl⟩ := hb.mp rfl
          rw [ifP_f (fun z => by rw [z.2 f hf] at hl; cases hl)]
          refine ⟨μ4, ?_⟩
          simp (disch := omega) only [nI_leT, ↓ob_eq e3, f1, ↓ob_eq e4, nI_10, b01I, Bool.false_eq_true, ↓reduceIte]
        | false =>
          rw [ifP_t ⟨c, fun f hf => by
            cases e : lack P T f with
            | false => rfl
            | true => have := hb.mpr ⟨f, hf, e⟩; cases this⟩]
          refine ⟨μ4, ?_⟩
          simp (disch := omega) only [nI_leT, ↓ob_eq e3, f1, ↓ob_eq e4, b01I, Bool.false_eq_true, ↓reduceIte]
  obtain ⟨μ', e⟩ := main
  have g := f_s_wouldMend e
  exact ⟨μ', e, h.fr g rfl, fun i hi => (g.I rfl).trans (h54 i hi)⟩
theorem s_splitMend_e {μ : Mem} {n m : Nat} (hn : n ≤ 3) (hm : 0 < m) (hm2 : m ≤ 24) {v : Nat → Nat} (hv : ∀ i, i < n → v i < m) : ∃ (b : Bool) (μ' : Mem), s_splitMend (nI (cd m v n)) (nI n) (nI m) μ = some (b01I b, μ') ∧ (b = true → ndc v n ∧ ∀ i, i < n → mI μ' 54 0 i = nI (v i)) ∧ (b = false → ¬ ndc v n) := by
  have hz : ¬ nI m = 0 := fun z => by have := (nI_eq (a := m) (b := 0) (by omega) (by omega)).mp z; omega
  have hbd : ∀ k, k ≤ n → cd m v k < 13825 := fun k hk => by
    have h1 := cd_bd k (fun i hi => hv i (by omega))
    have h2 := Nat.pow_le_pow_left hm2 k
    have h3 := Nat.pow_le_pow_right (n := 24) (by omega) (show k ≤ 3 by omega)
    have h4 : (24 : Nat) ^ 3 = 13824 := rfl
    omega
  have step : ∀ fuel j, j < fuel → j ≤ n → ∀ μ, (∀ i, j ≤ i → i < n → mI μ 54 0 i = nI (v i)) → (∀ i, j ≤ i → i + 1 < n → v i ≤ v (i + 1)) → ∃ (b : Bool) (μ' : Mem), fixN (fun _ _ _ => none) (s_splitMend_B8 (nI n) (nI m)) fuel (nI (cd m v j)) (nI j - nI 1) μ = some (b01I b, μ') ∧ (b = true → ndc v n ∧ ∀ i, i < n → mI μ' 54 0 i = nI (v i)) ∧ (b = false → ¬ ndc v n) := by
    refine fixN_m (fun j (self : Int32 → Int32 → Mem → Option (Int32 × Mem)) => j ≤ n → ∀ μ, (∀ i, j ≤ i → i < n → mI μ 54 0 i = nI (v i)) → (∀ i, j ≤ i → i + 1 < n → v i ≤ v (i + 1)) → ∃ (b : Bool) (μ' : Mem), self (nI (cd m v j)) (nI j - nI 1) μ = some (b01I b, μ') ∧ (b = true → ndc v n ∧ ∀ i, i < n → mI μ' 54 0 i = nI (v i)) ∧ (b = false → ¬ ndc v n)) ?_
    intro j self ih hj μ h1 h2
    unfold s_splitMend_B8
    cases j with
    | zero =>
      have : (nI 0 - nI 1 : Int32) < nI 0 := by decide
      rw [if_pos this]
      exact ⟨true, μ, rfl, fun _ => ⟨fun i hi => h2 i (by omega) hi, fun i hi => h1 i (by omega) hi⟩, fun z => by cases z⟩
    | succ j =>
      have hb := hbd (j + 1) hj
      have hvj := hv j (by omega)
      have er : cd m v (j + 1) % m = v j := by simp only [cd]; rw [Nat.mul_comm, Nat.mul_add_mod]; exact Nat.mod_eq_of_lt hvj
      have ed : cd m v (j + 1) / m = cd m v j := by simp only [cd]; rw [Nat.mul_comm, Nat.mul_add_div hm, Nat.div_eq_of_lt hvj, Nat.add_zero]
      have e1 : (nI (j + 1) - nI 1 : Int32) = nI j := by rw [nI_sub1 (by omega)]; rfl
      have e2 : (nI j + (-1 : Int32) : Int32) = nI j - nI 1 := by
        rw [Int32.sub_eq_add_neg]; rfl
      have q : ∀ i, j ≤ i → i < n → mI (stI μ 54 0 j (nI (v j))) 54 0 i = nI (v i) := fun i a b => by
        rw [mI_stI]
        by_cases e : i = j
        · subst e; rw [if_pos ⟨rfl, rfl, rfl⟩]
        · rw [if_neg (fun z => e z.2.2)]; exact h1 i (by omega) b
      rw [e1]
      by_cases c : j + 1 < n
      · have qj := q j (by omega) (by omega)
        have qj1 := q (j + 1) (by omega) c
        have hv1 := hv (j + 1) c
        by_cases c2 : v j ≤ v (j + 1)
        · simp (disch := omega) only [nI_ltF, nI_leF, hz, inB_nI, cl_nI, nI_div2, nI_rem2, er, ed, nI_add, qj, qj1, nI_leT, e2, not_false_eq_true, ↓reduceIte]
          exact ih j (by omega) (by omega) _ q (fun i a b => by
            by_cases e : i = j
            · subst e; exact c2
            · exact h2 i (by omega) b)
        · simp (disch := omega) only [nI_ltF, nI_leF, hz, inB_nI, cl_nI, nI_div2, nI_rem2, er, ed, nI_add, qj, qj1, e2, not_false_eq_true, ↓reduceIte]
          exact ⟨false, _, rfl, fun z => (by cases z), fun _ z => c2 (z j c)⟩
      · simp (disch := omega) only [nI_ltF, nI_leF, hz, inB_nI, cl_nI, nI_div2, nI_rem2, er, ed, nI_add, nI_leT, e2, not_false_eq_true, ↓reduceIte]
        exact ih j (by omega) (by omega) _ q (fun i a b => by omega)
  exact step 60000 n (by omega) (Nat.le_refl _) μ (fun i a b => by omega) (fun i a b => by omega)
theorem s_findMend_e {μ : Mem} {p : Nat} {P : Pl} {S : Nat → Int32} (hk : PlOK P) (hS : StOK P S) (h : CCore μ p P S) {n : Nat} (hn : n ≤ 3) : ∃ (b : Bool) (μ' : Mem), s_findMend (nI n) μ = some (b01I b, μ') ∧ CCore μ' p P S ∧ (b = true → ∃ v, MnP P S n v ∧ ∀ i, i < n → mI μ' 54 0 i = nI (v i)) ∧ (b = false → ¬ ∃ v, MnP P S n v) := by
  have k3 := hk.2.2.1
  have hp2 := h.p2
  obtain ⟨m, hm⟩ : ∃ m, m = 2 * pNo P := ⟨_, rfl⟩
  have hm2 : m ≤ 24 := by omega
  have hpw : ∀ k, k ≤ n → m ^ k ≤ 13824 := fun k hk => by
    have h2 := Nat.pow_le_pow_left hm2 k
    have h3 := Nat.pow_le_pow_right (n := 24) (by omega) (show k ≤ 3 by omega)
    have h4 : (24 : Nat) ^ 3 = 13824 := rfl
    omega
  have main : ∃ (b : Bool) (μ' : Mem), s_findMend (nI n) μ = some (b01I b, μ') ∧ (b = true → ∃ v, MnP P S n v ∧ ∀ i, i < n → mI μ' 54 0 i = nI (v i)) ∧ (b = false → ¬ ∃ v, MnP P S n v) := by
    have L2 : ∃ (b : Bool) (μ' : Mem), s_findMend_L34 (nI n) (nI m) (nI (m ^ n)) (nI 0) μ = some (b01I b, μ') ∧ (b = true → ∃ v, MnP P S n v ∧ ∀ i, i < n → mI μ' 54 0 i = nI (v i)) ∧ (b = false → ¬ ∃ v, MnP P S n v) := by
      have hq := hpw n (Nat.le_refl _)
      refine fixN_up (fun i (self : Int32 → Mem → Option (Int32 × Mem)) => ∀ μ, CCore μ p P S → (∀ u, (∀ j, j < n → u j < m) → ndc u n → gdB P S u n = true → i ≤ cd m u n) → ∃ (b : Bool) (μ' : Mem), self (nI i) μ = some (b01I b, μ') ∧ (b = true → ∃ v, MnP P S n v ∧ ∀ i, i < n → mI μ' 54 0 i = nI (v i)) ∧ (b = false → ¬ ∃ v, MnP P S n v)) (m ^ n) ?_ ?_ 60000 0 (by omega) (by omega) μ h (fun u _ _ _ => Nat.zero_le _)
      · intro i self hi ih μ h hq
        have hz : ∃ v : Nat → Nat, (∀ j, j < n → v j < m) ∧ cd m v n = i ∧ (n = 0 ∨ 0 < m) := by
          by_cases c : 0 < m
          · obtain ⟨v, a, b⟩ := cd_ex c n i hi
            exact ⟨v, a, b, Or.inr c⟩
          · have hm0 : m = 0 := by omega
            have hn0 : n = 0 := by
              cases n with
              | zero => rfl
              | succ n => rw [hm0, Nat.pow_succ, Nat.mul_zero] at hi; omega
            subst hn0
            rw [Nat.pow_zero] at hi
            exact ⟨fun _ => 0, fun j hj => by omega, by simp [cd]; omega, Or.inl rfl⟩
        obtain ⟨v, hv, hc, hz⟩ := hz
        have sp : ∃ (b : Bool) (μ' : Mem), s_splitMend (nI i) (nI n) (nI m) μ = some (b01I b, μ') ∧ (b = true → ndc v n ∧ ∀ i, i < n → mI μ' 54 0 i = nI (v i)) ∧ (b = false → ¬ ndc v n) := by
          by_cases c : 0 < m
          · have := s_splitMend_e (μ := μ) hn c hm2 hv
            rw [hc] at this
            exact this
          · have hn0 : n = 0 := hz.resolve_right c
            subst hn0
            refine ⟨true, μ, ?_, fun _ => ⟨fun i hi => by omega, fun i hi => by omega⟩, fun z => by cases z⟩
            unfold s_splitMend s_splitMend_L8
            rw [show 60000 = 59999 + 1 from rfl, fixN_s]
            unfold s_splitMend_B8
            rw [if_pos (show (nI 0 - nI 1 : Int32) < nI 0 by decide)]
            rfl
        obtain ⟨b, μ1, e1, t1, t2⟩ := sp
        have h1 := h.fr (f_s_splitMend e1) rfl
        unfold s_findMend_B34
        have nxt : (ndc v n → gdB P S v n = false) → ∀ u, (∀ j, j < n → u j < m) → ndc u n → gdB P S u n = true → i + 1 ≤ cd m u n := fun hno u a1 a2 a3 => by
          have := hq u a1 a2 a3
          by_cases e : cd m u n = i
          · have e2 := cd_inj n (fun j hj => ⟨a1 j hj, hv j hj⟩) (e.trans hc.symm)
            have := hno (ndc_c e2 a2)
            rw [← gdB_c e2, a3] at this
            cases this
          · omega
        cases b with
        | false =>
          simp (disch := omega) only [nI_leF, ↓ob_eq e1, b01I, Bool.false_eq_true, nI_add, ↓reduceIte]
          exact ih μ1 h1 (nxt (fun z => absurd z (t2 rfl)))
        | true =>
          obtain ⟨d1, d2⟩ := t1 rfl
          obtain ⟨μ2, e2, c2, q2⟩ := s_wouldMend_e hk hS h1 hn (fun i hi => by have := hv i hi; omega) d2
          cases cg : gdB P S v n with
          | false =>
            rw [cg] at e2
            simp (disch := omega) only [nI_leF, ↓ob_eq e1, ↓ob_eq e2, b01I, nI_10, Bool.false_eq_true, nI_add, ↓reduceIte]
            exact ih μ2 c2 (nxt (fun _ => cg))
          | true =>
            rw [cg] at e2
            simp (disch := omega) only [nI_leF, ↓ob_eq e1, ↓ob_eq e2, b01I, nI_10, ↓reduceIte]
            refine ⟨true, μ2, rfl, fun _ => ⟨v, ⟨fun i hi => by have := hv i hi; omega, d1, cg, fun u a1 a2 a3 => ?_⟩, q2⟩, fun z => by cases z⟩
            have a4 : ∀ j, j < n → u j < m := fun j hj => by have := gdB_lt a3 j hj; omega
            have a5 := hq u a4 a2 a3
            have := (cd_lt (b := 24) hm2 n (fun j hj => ⟨a4 j hj, hv j hj⟩)).1
            omega
      · intro self μ h hq
        unfold s_findMend_B34
        simp (disch := omega) only [nI_leT, ↓reduceIte]
        refine ⟨false, μ, rfl, fun z => (by cases z), fun _ ⟨v, a1, a2, a3, _⟩ => ?_⟩
        have a4 : ∀ j, j < n → v j < m := fun j hj => by have := gdB_lt a3 j hj; omega
        have := hq v a4 a2 a3
        have := cd_bd n a4
        omega
    have em : (nI 2 * nI (pNo P) : Int32) = nI m := by rw [pk_mul, hm]
    unfold s_findMend
    simp only [h.pn, hp2, h.wo.pl.no, em, ↓reduceIte]
    refine fixN_up (fun i (self : Int32 → Int32 → Mem → Option (Int32 × Mem)) => ∃ (b : Bool) (μ' : Mem), self (nI (m ^ i)) (nI i) μ = some (b01I b, μ') ∧ (b = true → ∃ v, MnP P S n v ∧ ∀ i, i < n → mI μ' 54 0 i = nI (v i)) ∧ (b = false → ¬ ∃ v, MnP P S n v)) n ?_ ?_ 60000 0 (by omega) (by omega)
    · intro i self hi ih
      unfold s_findMend_B15
      simp (disch := omega) only [nI_leF, pk_mul, nI_add, ↓reduceIte]
      rw [← Nat.pow_succ]
      exact ih
    · intro self
      unfold s_findMend_B15
      simp (disch := omega) only [nI_leT, ↓reduceIte]
      exact L2
  obtain ⟨b, μ', e, a1, a2⟩ := main
  exact ⟨b, μ', e, h.fr (f_s_findMend e) rfl, a1, a2⟩
theorem s_mend_e {μ : Mem} {p : Nat} {P : Pl} {S : Nat → Int32} (hk : PlOK P) (hS : StOK P S) (h : CCore μ p P S) (x : Int32) : ∃ μ', s_mend x μ = some (qMend P S x, μ') := by
  unfold s_mend qMend
  by_cases c : (-1 : Int32) ≤ x
  · rw [if_pos c, if_pos c]
    refine fixN_up (fun i (self : Int32 → Mem → Option (Int32 × Mem)) => ∀ μ, CCore μ p P S → (∀ k, k < i → ¬ ∃ v, MnP P S k v) → ∃ μ', self (nI i) μ = some (if mnN P S = 4 then -2 else if x = -1 then nI (mnN P S) else if nI (mnN P S) ≤ x then -1 else nI (mnV P S (mnN P S) (cl x)), μ')) 4 ?_ ?_ 60000 0 (by omega) (by omega) μ h (fun k hk => by omega)
    · intro i self hi ih μ h h0
      obtain ⟨b, μ1, e1, c1, t1, t2⟩ := s_findMend_e hk hS h (show i ≤ 3 by omega)
      unfold s_mend_B9
      cases b with
      | false =>
        simp (disch := omega) only [nI_ltF, ↓ob_eq e1, b01I, Bool.false_eq_true, nI_add, ↓reduceIte]
        exact ih μ1 c1 (fun k hk => by
          by_cases e : k = i
          · subst e; exact t2 rfl
          · exact h0 k (by omega))
      | true =>
        obtain ⟨v, hv, h54⟩ := t1 rfl
        have en := mnN_at (show i ≤ 3 by omega) h0 ⟨v, hv⟩
        rw [en, if_neg (show ¬ i = 4 by omega)]
        simp (disch := omega) only [nI_ltF, ↓ob_eq e1, b01I, nI_10, nI_leT, ↓reduceIte]
        by_cases c2 : x = -1
        · rw [if_pos c2, if_pos c2]; exact ⟨μ1, rfl⟩
        · rw [if_neg c2, if_neg c2]
          by_cases c3 : nI i ≤ x
          · rw [if_pos c3, if_pos c3]; exact ⟨μ1, rfl⟩
          · rw [if_neg c3, if_neg c3]
            rcases inB_cases x (show i < 2147483648 by omega) with ⟨a, j, hj, e⟩ | ⟨a, b⟩
            · subst e
              have h1 := h54 j hj
              simp (disch := omega) only [inB_nI, cl_nI, h1, mnV_e hv hj, ↓reduceIte]
              exact ⟨μ1, rfl⟩
            · exfalso
              rcases b with b | b
              · have h1 := Int32.le_iff_toInt_le.mp c
                have h2 := Int32.lt_iff_toInt_lt.mp b
                have h3 : (-1 : Int32).toInt = -1 := by decide
                have h4 : (0 : Int32).toInt = 0 := by decide
                exact c2 (Int32.toInt_inj.mp (by omega))
              · exact c3 b
    · intro self μ h h0
      rw [mnN_no h0, if_pos rfl]
      unfold s_mend_B9
      simp (disch := omega) only [nI_ltT, nI_leF, ↓reduceIte]
      exact ⟨μ, rfl⟩
  · rw [if_neg c, if_neg c]
    exact ⟨μ, rfl⟩

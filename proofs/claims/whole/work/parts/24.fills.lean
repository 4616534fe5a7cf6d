/-! rows filled; sets that grow -/
theorem fill_I27 (μ : Mem) (i0 : Nat) (x : Int32) : ∃ μ', j_fillI_r27 i0 x μ = some ((), μ') ∧ ∀ k, k < 12 → mI μ' 27 i0 k = x := by
  refine fixN_up (fun i (self : Int32 → Mem → Option (Unit × Mem)) => ∀ μ, (∀ k, k < i → mI μ 27 i0 k = x) → ∃ μ', self (nI i) μ = some ((), μ') ∧ ∀ k, k < 12 → mI μ' 27 i0 k = x) 12 ?_ ?_ 60000 0 (by omega) (by omega) μ (fun k hk => by omega)
  · intro i self hi ih μ h
    unfold j_fillI_r27_B5
    simp (disch := omega) only [nI_leF, inB_nI, cl_nI, nI_add, ↓reduceIte]
    refine ih _ (fun k hk => ?_)
    rw [mI_stI]
    by_cases e : k = i
    · rw [if_pos ⟨rfl, rfl, e⟩]
    · rw [if_neg (fun z => e z.2.2)]; exact h k (by omega)
  · intro self μ h
    unfold j_fillI_r27_B5
    simp (disch := omega) only [nI_leT, ↓reduceIte]
    exact ⟨μ, rfl, h⟩
theorem fill_I28 (μ : Mem) (i0 : Nat) (x : Int32) : ∃ μ', j_fillI_r28 i0 x μ = some ((), μ') ∧ ∀ k, k < 6 → mI μ' 28 i0 k = x := by
  refine fixN_up (fun i (self : Int32 → Mem → Option (Unit × Mem)) => ∀ μ, (∀ k, k < i → mI μ 28 i0 k = x) → ∃ μ', self (nI i) μ = some ((), μ') ∧ ∀ k, k < 6 → mI μ' 28 i0 k = x) 6 ?_ ?_ 60000 0 (by omega) (by omega) μ (fun k hk => by omega)
  · intro i self hi ih μ h
    unfold j_fillI_r28_B5
    simp (disch := omega) only [nI_leF, inB_nI, cl_nI, nI_add, ↓reduceIte]
    refine ih _ (fun k hk => ?_)
    rw [mI_stI]
    by_cases e : k = i
    · rw [if_pos ⟨rfl, rfl, e⟩]
    · rw [if_neg (fun z => e z.2.2)]; exact h k (by omega)
  · intro self μ h
    unfold j_fillI_r28_B5
    simp (disch := omega) only [nI_leT, ↓reduceIte]
    exact ⟨μ, rfl, h⟩
theorem fill_I29 (μ : Mem) (i0 : Nat) (x : Int32) : ∃ μ', j_fillI_r29 i0 x μ = some ((), μ') ∧ ∀ k, k < 6 → mI μ' 29 i0 k = x := by
  refine fixN_up (fun i (self : Int32 → Mem → Option (Unit × Mem)) => ∀ μ, (∀ k, k < i → mI μ 29 i0 k = x) → ∃ μ', self (nI i) μ = some ((), μ') ∧ ∀ k, k < 6 → mI μ' 29 i0 k = x) 6 ?_ ?_ 60000 0 (by omega) (by omega) μ (fun k hk => by omega)
  · intro i self hi ih μ h
    unfold j_fillI_r29_B5
    simp (disch := omega) only [nI_leF, inB_nI, cl_nI, nI_add, ↓reduceIte]
    refine ih _ (fun k hk => ?_)
    rw [mI_stI]
    by_cases e : k = i
    · rw [if_pos ⟨rfl, rfl, e⟩]
    · rw [if_neg (fun z => e z.2.2)]; exact h k (by omega)
  · intro self μ h
    unfold j_fillI_r29_B5
    simp (disch := omega) only [nI_leT, ↓reduceIte]
    exact ⟨μ, rfl, h⟩
theorem fill_I30 (μ : Mem) (i0 : Nat) (x : Int32) : ∃ μ', j_fillI_r30 i0 x μ = some ((), μ') ∧ ∀ k, k < 6 → mI μ' 30 i0 k = x := by
  refine fixN_up (fun i (self : Int32 → Mem → Option (Unit × Mem)) => ∀ μ, (∀ k, k < i → mI μ 30 i0 k = x) → ∃ μ', self (nI i) μ = some ((), μ') ∧ ∀ k, k < 6 → mI μ' 30 i0 k = x) 6 ?_ ?_ 60000 0 (by omega) (by omega) μ (fun k hk => by omega)
  · intro i self hi ih μ h
    unfold j_fillI_r30_B5
    simp (disch := omega) only [nI_leF, inB_nI, cl_nI, nI_add, ↓reduceIte]
    refine ih _ (fun k hk => ?_)
    rw [mI_stI]
    by_cases e : k = i
    · rw [if_pos ⟨rfl, rfl, e⟩]
    · rw [if_neg (fun z => e z.2.2)]; exact h k (by omega)
  · intro self μ h
    unfold j_fillI_r30_B5
    simp (disch := omega) only [nI_leT, ↓reduceIte]
    exact ⟨μ, rfl, h⟩
theorem fill_I35 (μ : Mem) (i0 : Nat) (x : Int32) : ∃ μ', j_fillI_r35 i0 x μ = some ((), μ') ∧ ∀ k, k < 6 → mI μ' 35 i0 k = x := by
  refine fixN_up (fun i (self : Int32 → Mem → Option (Unit × Mem)) => ∀ μ, (∀ k, k < i → mI μ 35 i0 k = x) → ∃ μ', self (nI i) μ = some ((), μ') ∧ ∀ k, k < 6 → mI μ' 35 i0 k = x) 6 ?_ ?_ 60000 0 (by omega) (by omega) μ (fun k hk => by omega)
  · intro i self hi ih μ h
    unfold j_fillI_r35_B5
    simp (disch := omega) only [nI_leF, inB_nI, cl_nI, nI_add, ↓reduceIte]
    refine ih _ (fun k hk => ?_)
    rw [mI_stI]
    by_cases e : k = i
    · rw [if_pos ⟨rfl, rfl, e⟩]
    · rw [if_neg (fun z => e z.2.2)]; exact h k (by omega)
  · intro self μ h
    unfold j_fillI_r35_B5
    simp (disch := omega) only [nI_leT, ↓reduceIte]
    exact ⟨μ, rfl, h⟩
theorem fill_I36 (μ : Mem) (i0 : Nat) (x : Int32) : ∃ μ', j_fillI_r36 i0 x μ = some ((), μ') ∧ ∀ k, k < 4 → mI μ' 36 i0 k = x := by
  refine fixN_up (fun i (self : Int32 → Mem → Option (Unit × Mem)) => ∀ μ, (∀ k, k < i → mI μ 36 i0 k = x) → ∃ μ', self (nI i) μ = some ((), μ') ∧ ∀ k, k < 4 → mI μ' 36 i0 k = x) 4 ?_ ?_ 60000 0 (by omega) (by omega) μ (fun k hk => by omega)
  · intro i self hi ih μ h
    unfold j_fillI_r36_B5
    simp (disch := omega) only [nI_leF, inB_nI, cl_nI, nI_add, ↓reduceIte]
    refine ih _ (fun k hk => ?_)
    rw [mI_stI]
    by_cases e : k = i
    · rw [if_pos ⟨rfl, rfl, e⟩]
    · rw [if_neg (fun z => e z.2.2)]; exact h k (by omega)
  · intro self μ h
    unfold j_fillI_r36_B5
    simp (disch := omega) only [nI_leT, ↓reduceIte]
    exact ⟨μ, rfl, h⟩
theorem fill_I37 (μ : Mem) (i0 : Nat) (x : Int32) : ∃ μ', j_fillI_r37 i0 x μ = some ((), μ') ∧ ∀ k, k < 4 → mI μ' 37 i0 k = x := by
  refine fixN_up (fun i (self : Int32 → Mem → Option (Unit × Mem)) => ∀ μ, (∀ k, k < i → mI μ 37 i0 k = x) → ∃ μ', self (nI i) μ = some ((), μ') ∧ ∀ k, k < 4 → mI μ' 37 i0 k = x) 4 ?_ ?_ 60000 0 (by omega) (by omega) μ (fun k hk => by omega)
  · intro i self hi ih μ h
    unfold j_fillI_r37_B5
    simp (disch := omega) only [nI_leF, inB_nI, cl_nI, nI_add, ↓reduceIte]
    refine ih _ (fun k hk => ?_)
    rw [mI_stI]
    by_cases e : k = i
    · rw [if_pos ⟨rfl, rfl, e⟩]
    · rw [if_neg (fun z => e z.2.2)]; exact h k (by omega)
  · intro self μ h
    unfold j_fillI_r37_B5
    simp (disch := omega) only [nI_leT, ↓reduceIte]
    exact ⟨μ, rfl, h⟩
theorem fill_L33 (μ : Mem) (i0 : Nat) (x : Int64) : ∃ μ', j_fillL_r33 i0 x μ = some ((), μ') ∧ ∀ k, k < 4 → mL μ' 33 i0 k = x := by
  refine fixN_up (fun i (self : Int32 → Mem → Option (Unit × Mem)) => ∀ μ, (∀ k, k < i → mL μ 33 i0 k = x) → ∃ μ', self (nI i) μ = some ((), μ') ∧ ∀ k, k < 4 → mL μ' 33 i0 k = x) 4 ?_ ?_ 60000 0 (by omega) (by omega) μ (fun k hk => by omega)
  · intro i self hi ih μ h
    unfold j_fillL_r33_B6
    simp (disch := omega) only [nI_leF, inB_nI, cl_nI, nI_add, ↓reduceIte]
    refine ih _ (fun k hk => ?_)
    rw [mL_stL]
    by_cases e : k = i
    · rw [if_pos ⟨rfl, rfl, e⟩]
    · rw [if_neg (fun z => e z.2.2)]; exact h k (by omega)
  · intro self μ h
    unfold j_fillL_r33_B6
    simp (disch := omega) only [nI_leT, ↓reduceIte]
    exact ⟨μ, rfl, h⟩
theorem fill_L34 (μ : Mem) (i0 : Nat) (x : Int64) : ∃ μ', j_fillL_r34 i0 x μ = some ((), μ') ∧ ∀ k, k < 6 → mL μ' 34 i0 k = x := by
  refine fixN_up (fun i (self : Int32 → Mem → Option (Unit × Mem)) => ∀ μ, (∀ k, k < i → mL μ 34 i0 k = x) → ∃ μ', self (nI i) μ = some ((), μ') ∧ ∀ k, k < 6 → mL μ' 34 i0 k = x) 6 ?_ ?_ 60000 0 (by omega) (by omega) μ (fun k hk => by omega)
  · intro i self hi ih μ h
    unfold j_fillL_r34_B6
    simp (disch := omega) only [nI_leF, inB_nI, cl_nI, nI_add, ↓reduceIte]
    refine ih _ (fun k hk => ?_)
    rw [mL_stL]
    by_cases e : k = i
    · rw [if_pos ⟨rfl, rfl, e⟩]
    · rw [if_neg (fun z => e z.2.2)]; exact h k (by omega)
  · intro self μ h
    unfold j_fillL_r34_B6
    simp (disch := omega) only [nI_leT, ↓reduceIte]
    exact ⟨μ, rfl, h⟩
theorem fill_L41 (μ : Mem) (i0 : Nat) (x : Int64) : ∃ μ', j_fillL_r41 i0 x μ = some ((), μ') ∧ ∀ k, k < 5 → mL μ' 41 i0 k = x := by
  refine fixN_up (fun i (self : Int32 → Mem → Option (Unit × Mem)) => ∀ μ, (∀ k, k < i → mL μ 41 i0 k = x) → ∃ μ', self (nI i) μ = some ((), μ') ∧ ∀ k, k < 5 → mL μ' 41 i0 k = x) 5 ?_ ?_ 60000 0 (by omega) (by omega) μ (fun k hk => by omega)
  · intro i self hi ih μ h
    unfold j_fillL_r41_B6
    simp (disch := omega) only [nI_leF, inB_nI, cl_nI, nI_add, ↓reduceIte]
    refine ih _ (fun k hk => ?_)
    rw [mL_stL]
    by_cases e : k = i
    · rw [if_pos ⟨rfl, rfl, e⟩]
    · rw [if_neg (fun z => e z.2.2)]; exact h k (by omega)
  · intro self μ h
    unfold j_fillL_r41_B6
    simp (disch := omega) only [nI_leT, ↓reduceIte]
    exact ⟨μ, rfl, h⟩
theorem clear_38 (μ : Mem) (i0 : Nat) : ∃ μ', wa_clear_L67 i0 (nI 0) μ = some ((), μ') ∧ ∀ k, k < 4 → mI μ' 38 i0 k = nI 0 := by
  refine fixN_up (fun i (self : Int32 → Mem → Option (Unit × Mem)) => ∀ μ, (∀ k, k < i → mI μ 38 i0 k = nI 0) → ∃ μ', self (nI i) μ = some ((), μ') ∧ ∀ k, k < 4 → mI μ' 38 i0 k = nI 0) 4 ?_ ?_ 60000 0 (by omega) (by omega) μ (fun k hk => by omega)
  · intro i self hi ih μ h
    unfold wa_clear_B67
    simp (disch := omega) only [nI_leF, inB_nI, cl_nI, nI_add, show nI 0 &&& 1 = nI 0 from rfl, ↓reduceIte]
    refine ih _ (fun k hk => ?_)
    rw [mI_stI]
    by_cases e : k = i
    · rw [if_pos ⟨rfl, rfl, e⟩]
    · rw [if_neg (fun z => e z.2.2)]; exact h k (by omega)
  · intro self μ h
    unfold wa_clear_B67
    simp (disch := omega) only [nI_leT, ↓reduceIte]
    exact ⟨μ, rfl, h⟩
/-- a set of logs, as ints that are 0 or 1 -/
def RB (μ : Mem) (r w M : Nat) (p : Nat → Bool) : Prop := ∀ l, l < M → mI μ r w l = if p l = true then nI 1 else nI 0
def ad1 (p : Nat → Bool) (t : Nat) : Nat → Bool := fun i => p i || i == t
theorem RB.add {μ : Mem} {r w M : Nat} {p : Nat → Bool} (h : RB μ r w M p) (t : Nat) : RB (stI μ r w t (nI 1)) r w M (ad1 p t) := fun l hl => by
  rw [mI_stI]
  unfold ad1
  by_cases e : l = t
  · rw [if_pos ⟨rfl, rfl, e⟩]; simp [e]
  · rw [if_neg (fun z => e z.2.2), h l hl]; simp [e]
/-- one walk: n by n, where c tells so g n is added -/
def gs (c : Nat → (Nat → Bool) → Bool) (g : Nat → Nat) (p : Nat → Bool) : Nat → Nat → Bool
  | 0 => p
  | k + 1 => if c k (gs c g p k) = true then ad1 (gs c g p k) (g k) else gs c g p k
theorem ad1_m {p : Nat → Bool} {t i : Nat} (h : p i = true) : ad1 p t i = true := by unfold ad1; rw [h]; rfl
theorem ad1_t (p : Nat → Bool) (t : Nat) : ad1 p t t = true := by unfold ad1; simp
theorem gs_m {c : Nat → (Nat → Bool) → Bool} {g : Nat → Nat} {p : Nat → Bool} {i : Nat} : ∀ {a b : Nat}, a ≤ b → gs c g p a i = true → gs c g p b i = true
  | a, 0, h, z => by rw [show a = 0 by omega] at z; exact z
  | a, b + 1, h, z => by
    by_cases e : a = b + 1
    · subst e; exact z
    · have := gs_m (show a ≤ b by omega) z
      simp only [gs]
      split
      · exact ad1_m this
      · exact this
theorem gs_s {c : Nat → (Nat → Bool) → Bool} {g : Nat → Nat} {p : Nat → Bool} (B : Nat → Prop) (h0 : ∀ i, p i = true → B i) : ∀ (k : Nat), (∀ n q, n < k → (∀ i, q i = true → B i) → c n q = true → B (g n)) → ∀ i, gs c g p k i = true → B i
  | 0, _, i, h => h0 i h
  | k + 1, hs, i, h => by
    have ih := gs_s B h0 k (fun n q hn => hs n q (by omega))
    simp only [gs] at h
    split at h
    · rename_i hc
      unfold ad1 at h
      rw [Bool.or_eq_true, beq_iff_eq] at h
      rcases h with h | h
      · exact ih i h
      · subst h; exact hs k _ (Nat.lt_succ_self k) ih hc
    · exact ih i h
def closed (c : Nat → (Nat → Bool) → Bool) (g : Nat → Nat) (N : Nat) (p : Nat → Bool) : Prop := ∀ n, n < N → c n p = true → p (g n) = true
theorem gs_closed {c : Nat → (Nat → Bool) → Bool} {g : Nat → Nat} {N : Nat} {p : Nat → Bool} (h : gs c g p N = p) : closed c g N p := fun n hn hc => by
  have e : ∀ k, k ≤ N → gs c g p k = p := fun k hk => funext fun i => by
    cases e : gs c g p k i
    · cases e2 : p i
      · rfl
      · have := gs_m (c := c) (g := g) (p := p) (i := i) (Nat.zero_le k) e2
        rw [e] at this; cases this
    · have := gs_m hk e
      rw [h] at this; exact this.symm
  have h1 := e (n + 1) (by omega)
  simp only [gs, e n (by omega), hc, if_true] at h1
  have := ad1_t p (g n)
  rw [h1] at this
  exact this
theorem closed_gs {c : Nat → (Nat → Bool) → Bool} {g : Nat → Nat} {N : Nat} {p : Nat → Bool} (h : closed c g N p) : ∀ k, k ≤ N → gs c g p k = p
  | 0, _ => rfl
  | k + 1, hk => by
    simp only [gs, closed_gs h k (by omega)]
    split
    · rename_i hc
      have := h k (by omega) hc
      funext i
      unfold ad1
      by_cases e : i = g k
      · rw [e, this]; rfl
      · simp [e]
    · rfl
/-- so many walks -/
def rs (c : Nat → (Nat → Bool) → Bool) (g : Nat → Nat) (N : Nat) (p : Nat → Bool) : Nat → Nat → Bool
  | 0 => p
  | k + 1 => gs c g (rs c g N p k) N
def cardB (M : Nat) (p : Nat → Bool) : Nat := sumN M (fun i => if p i = true then 1 else 0)
theorem cardB_le (M : Nat) (p : Nat → Bool) : cardB M p ≤ M := by
  have := sumN_k (n := M) (c := 1) (f := fun i => if p i = true then 1 else 0) (fun i _ => by split <;> omega)
  unfold cardB
  omega
theorem cardB_lt {M : Nat} {p q : Nat → Bool} (h : ∀ i, p i = true → q i = true) {j : Nat} (hj : j < M) (h1 : p j = false) (h2 : q j = true) : cardB M p + 1 ≤ cardB M q := sumN_lt (fun i _ => by
    by_cases e : p i = true
    · rw [if_pos e, if_pos (h i e)]; exact Nat.le_refl _
    · rw [if_neg e]; exact Nat.zero_le _) hj (by rw [h1, h2]; decide)
theorem cardB_full {M : Nat} {p : Nat → Bool} (h : M ≤ cardB M p) : ∀ i, i < M → p i = true := fun i hi => by
  cases e : p i
  · have := cardB_lt (M := M) (p := p) (q := fun _ => true) (fun _ _ => rfl) hi e rfl
    have := cardB_le M (fun _ => true)
    omega
  · rfl
theorem rs_grow {c : Nat → (Nat → Bool) → Bool} {g : Nat → Nat} {N M : Nat} {p : Nat → Bool} (hp : ∀ i, p i = true → i < M) (hg : ∀ n q, n < N → c n q = true → g n < M) : ∀ k, (∀ i, rs c g N p k i = true → i < M) ∧ (closed c g N (rs c g N p k) ∨ cardB M p + k ≤ cardB M (rs c g N p k))
  | 0 => ⟨hp, Or.inr (Nat.le_refl _)⟩
  | k + 1 => by
    obtain ⟨h1, h2⟩ := rs_grow hp hg k
    have h3 : ∀ i, rs c g N p (k + 1) i = true → i < M := gs_s (fun i => i < M) h1 N (fun n q hn _ hc => hg n q hn hc)
    refine ⟨h3, ?_⟩
    by_cases e : rs c g N p (k + 1) = rs c g N p k
    · rw [e]
      exact Or.inl (gs_closed e)
    · rcases h2 with h2 | h2
      · exact absurd (closed_gs h2 N (Nat.le_refl _)) e
      · have hm : ∀ i, rs c g N p k i = true → rs c g N p (k + 1) i = true := fun i hi => gs_m (a := 0) (Nat.zero_le N) hi
        have : ∃ j, rs c g N p k j = false ∧ rs c g N p (k + 1) j = true := Classical.byContradiction (fun hn => e (funext fun i => by
          cases e1 : rs c g N p k i
          · cases e2 : rs c g N p (k + 1) i
            · rfl
            · exact absurd ⟨i, e1, e2⟩ hn
          · exact hm i e1))
        obtain ⟨j, j1, j2⟩ := this
        have := cardB_lt (M := M) hm (h3 j j2) j1 j2
        exact Or.inr (by omega)
theorem rs_m {c : Nat → (Nat → Bool) → Bool} {g : Nat → Nat} {N : Nat} {p : Nat → Bool} {i : Nat} (h : p i = true) : ∀ k, rs c g N p k i = true
  | 0 => h
  | k + 1 => gs_m (a := 0) (Nat.zero_le N) (rs_m h k)
theorem rs_s {c : Nat → (Nat → Bool) → Bool} {g : Nat → Nat} {N : Nat} {p : Nat → Bool} (B : Nat → Prop) (h0 : ∀ i, p i = true → B i) (hs : ∀ n q, n < N → (∀ i, q i = true → B i) → c n q = true → B (g n)) : ∀ k i, rs c g N p k i = true → B i
  | 0, i, h => h0 i h
  | k + 1, i, h => gs_s B (rs_s B h0 hs k) N hs i h

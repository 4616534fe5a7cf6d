/-! sets of logs as bits -/
def q4 (a b c d : Bool) : Int32 := bitI 4 (fun i => match i with | 0 => a | 1 => b | 2 => c | _ => d)
theorem q4_e (p : Nat → Bool) : bitI 4 p = q4 (p 0) (p 1) (p 2) (p 3) := rfl
theorem tst4 (p : Nat → Bool) {l : Nat} (hl : l < 4) : ((bitI 4 p >>> (nI l &&& 31)) &&& nI 1 = nI 1) = (p l = true) := by
  rw [q4_e]
  rcases (show l = 0 ∨ l = 1 ∨ l = 2 ∨ l = 3 by omega) with rfl | rfl | rfl | rfl
  all_goals
    generalize p 0 = a
    generalize p 1 = b
    generalize p 2 = c
    generalize p 3 = d
    cases a <;> cases b <;> cases c <;> cases d <;> decide
theorem tst4z (p : Nat → Bool) {l : Nat} (hl : l < 4) : ((bitI 4 p >>> (nI l &&& 31)) &&& nI 1 = nI 0) = (p l = false) := by
  rw [q4_e]
  rcases (show l = 0 ∨ l = 1 ∨ l = 2 ∨ l = 3 by omega) with rfl | rfl | rfl | rfl
  all_goals
    generalize p 0 = a
    generalize p 1 = b
    generalize p 2 = c
    generalize p 3 = d
    cases a <;> cases b <;> cases c <;> cases d <;> decide
theorem or4 (p : Nat → Bool) {t : Nat} (ht : t < 4) : bitI 4 p ||| (nI 1 <<< (nI t &&& 31)) = bitI 4 (fun i => p i || i == t) := by
  rw [q4_e, q4_e]
  rcases (show t = 0 ∨ t = 1 ∨ t = 2 ∨ t = 3 by omega) with rfl | rfl | rfl | rfl
  all_goals
    generalize p 0 = a
    generalize p 1 = b
    generalize p 2 = c
    generalize p 3 = d
    cases a <;> cases b <;> cases c <;> cases d <;> decide
theorem one4 {t : Nat} (ht : t < 4) : nI 1 <<< (nI t &&& 31) = bitI 4 (fun i => i == t) := by
  rcases (show t = 0 ∨ t = 1 ∨ t = 2 ∨ t = 3 by omega) with rfl | rfl | rfl | rfl <;> decide
theorem and4 (p q : Nat → Bool) : (bitI 4 p &&& bitI 4 q = nI 0) = (∀ i, i < 4 → ¬ (p i = true ∧ q i = true)) := by
  rw [q4_e, q4_e]
  have : (∀ i, i < 4 → ¬ (p i = true ∧ q i = true)) = (¬ (p 0 = true ∧ q 0 = true) ∧ ¬ (p 1 = true ∧ q 1 = true) ∧ ¬ (p 2 = true ∧ q 2 = true) ∧ ¬ (p 3 = true ∧ q 3 = true)) := propext ⟨fun h => ⟨h 0 (by decide), h 1 (by decide), h 2 (by decide), h 3 (by decide)⟩, fun h i hi => by
    rcases (show i = 0 ∨ i = 1 ∨ i = 2 ∨ i = 3 by omega) with rfl | rfl | rfl | rfl
    · exact h.1
    · exact h.2.1
    · exact h.2.2.1
    · exact h.2.2.2⟩
  rw [this]
  generalize p 0 = a
  generalize p 1 = b
  generalize p 2 = c
  generalize p 3 = d
  generalize q 0 = a'
  generalize q 1 = b'
  generalize q 2 = c'
  generalize q 3 = d'
  cases a <;> cases b <;> cases c <;> cases d <;> revert a' b' c' d' <;> decide
theorem inj4 {p q : Nat → Bool} : bitI 4 p = bitI 4 q ↔ ∀ i, i < 4 → p i = q i := by
  refine ⟨fun h i hi => ?_, fun h => bitI_c h⟩
  have h1 := tst4 p hi
  rw [h, tst4 q hi] at h1
  cases hp : p i <;> cases hq : q i <;> rw [hp, hq] at h1 <;> simp at h1 ⊢
theorem nz4 {p : Nat → Bool} {l : Nat} (hl : l < 4) (h : p l = true) : ¬ bitI 4 p = nI 0 := fun z => by
  have h1 := tst4 p hl
  rw [z, h] at h1
  rcases (show l = 0 ∨ l = 1 ∨ l = 2 ∨ l = 3 by omega) with rfl | rfl | rfl | rfl <;> exact absurd (h1.mpr rfl) (by decide)
/-- one walk over all pairs -/
def ac (P : Pl) (S : Nat → Int32) (p : Nat → Bool) : Nat → Nat → Bool
  | 0 => p
  | k + 1 => if p (k / 4) = true ∧ 0 < leadN P S (k / 4) (k % 4) then (fun i => ac P S p k i || i == k % 4) else ac P S p k
theorem ac_m {P : Pl} {S : Nat → Int32} {p : Nat → Bool} {i : Nat} (h : p i = true) : ∀ k, ac P S p k i = true
  | 0 => h
  | k + 1 => by
    simp only [ac]
    split
    · simp [ac_m h k]
    · exact ac_m h k
theorem ac_s {P : Pl} {S : Nat → Int32} {p : Nat → Bool} {i : Nat} : ∀ k, ac P S p k i = true → p i = true ∨ ∃ l, p l = true ∧ 0 < leadN P S l i
  | 0, h => Or.inl h
  | k + 1, h => by
    simp only [ac] at h
    split at h
    · rename_i hc
      simp only [Bool.or_eq_true, beq_iff_eq] at h
      rcases h with h | h
      · exact ac_s k h
      · exact Or.inr ⟨k / 4, hc.1, by rw [h]; exact hc.2⟩
    · exact ac_s k h
theorem ac_c {P : Pl} {S : Nat → Int32} {p : Nat → Bool} {l t : Nat} (ht : t < 4) (hl : p l = true) (h : 0 < leadN P S l t) : ∀ k, 4 * l + t < k → ac P S p k t = true
  | 0, hk => by omega
  | k + 1, hk => by
    by_cases e : 4 * l + t = k
    · subst e
      simp only [ac]
      rw [show (4 * l + t) / 4 = l by omega, show (4 * l + t) % 4 = t by omega, if_pos ⟨hl, h⟩]
      simp
    · have := ac_c ht hl h k (by omega)
      simp only [ac]
      split
      · simp [this]
      · exact this
/-- what the walk needs of the memory -/
def LdM (μ : Mem) (P : Pl) (S : Nat → Int32) : Prop := ∀ l t, l < 4 → t < 4 → mI μ 91 0 (4 * l + t) = nI (leadN P S l t)
theorem lead_bd {P : Pl} {S : Nat → Int32} (hk : PlOK P) (hS : StOK P S) (l t : Nat) : leadN P S l t ≤ 144 := by
  by_cases h : 0 < leadN P S l t
  · have h1 := lead_le hk hS l
    have h2 := wN_le hk hS l
    have h3 := (lead_in hk hS h).2.1
    have := hk.1
    rcases (show t = 0 ∨ t = 1 ∨ t = 2 ∨ t = 3 by omega) with rfl | rfl | rfl | rfl <;> omega
  · omega
theorem m_comesBy_in {μ : Mem} {P : Pl} {S : Nat → Int32} (hk : PlOK P) (hS : StOK P S) (hL : LdM μ P S) (p : Nat → Bool) (K : Int32 → Mem → Option (Int32 × Mem)) : m_comesBy_L14 (bitI 4 p) K (bitI 4 p) (nI 0) μ = K (bitI 4 (ac P S p 16)) μ := by
  refine fixN_up (fun i (self : Int32 → Int32 → Mem → Option (Int32 × Mem)) => self (bitI 4 (ac P S p i)) (nI i) μ = K (bitI 4 (ac P S p 16)) μ) 16 ?_ ?_ 60000 0 (by omega) (by omega)
  · intro i self hi ih
    have hl := hL (i / 4) (i % 4) (by omega) (by omega)
    rw [show 4 * (i / 4) + i % 4 = i by omega] at hl
    have hb := lead_bd hk hS (i / 4) (i % 4)
    unfold m_comesBy_B14
    by_cases h1 : p (i / 4) = true
    · have ht := tst4 p (show i / 4 < 4 by omega)
      rw [h1] at ht
      by_cases h2 : 0 < leadN P S (i / 4) (i % 4)
      · simp (disch := omega) only [nI_leF, nI_div2, ht, inB_nI, cl_nI, hl, ↓vb_e, nI_rem2, or4, nI_add, ↓reduceIte]
        have : ac P S p (i + 1) = fun j => ac P S p i j || j == i % 4 := by simp only [ac]; rw [if_pos ⟨h1, h2⟩]
        rw [this] at ih
        exact ih
      · simp (disch := omega) only [nI_leF, nI_leT, nI_div2, ht, inB_nI, cl_nI, hl, nI_add, ↓reduceIte]
        have : ac P S p (i + 1) = ac P S p i := by simp only [ac]; rw [if_neg (fun z => h2 z.2)]
        rw [this] at ih
        exact ih
    · have ht := tst4 p (show i / 4 < 4 by omega)
      rw [eq_false h1] at ht
      simp (disch := omega) only [nI_leF, nI_div2, ht, nI_add, ↓reduceIte]
      have : ac P S p (i + 1) = ac P S p i := by simp only [ac]; rw [if_neg (fun z => h1 z.1)]
      rw [this] at ih
      exact ih
  · intro self
    unfold m_comesBy_B14
    simp (disch := omega) only [nI_leT, ↓reduceIte]
def cnt4 (p : Nat → Bool) : Nat := sumN 4 (fun i => if p i = true then 0 else 1)
theorem cnt4_lt {p q : Nat → Bool} (h : ∀ i, p i = true → q i = true) {j : Nat} (hj : j < 4) (hp : p j = false) (hq : q j = true) : cnt4 q < cnt4 p := by
  have := sumN_lt (n := 4) (f := fun i => if q i = true then 0 else 1) (g := fun i => if p i = true then 0 else 1) (c := 1) (fun i _ => by
    show (if q i = true then 0 else 1) ≤ (if p i = true then 0 else 1)
    by_cases e : p i = true
    · rw [if_pos e, if_pos (h i e)]; exact Nat.le_refl _
    · rw [if_neg e]; split <;> omega) hj (by
    show (if q j = true then 0 else 1) + 1 ≤ (if p j = true then 0 else 1)
    rw [hp, hq]; simp)
  unfold cnt4
  omega
theorem m_comesBy_e {μ : Mem} {P : Pl} {S : Nat → Int32} (hk : PlOK P) (hS : StOK P S) (hL : LdM μ P S) {l : Nat} (hl : l < 4) : ∃ r : Nat → Bool, m_comesBy (bitI 4 (fun i => i == l)) μ = some (bitI 4 r, μ) ∧ ∀ t, t < 4 → (r t = true ↔ Cl P S (fun m => m = l) t) := by
  have main : ∀ fuel m, m < fuel → ∀ (p q : Nat → Bool), p = ac P S q 16 → cnt4 p + (if bitI 4 p = bitI 4 q then 0 else 1) ≤ m → p l = true → (∀ t, p t = true → Cl P S (fun m => m = l) t) → ∃ r : Nat → Bool, fixN (fun _ _ _ => none) m_comesBy_B4 fuel (bitI 4 p) (bitI 4 q) μ = some (bitI 4 r, μ) ∧ ∀ t, t < 4 → (r t = true ↔ Cl P S (fun m => m = l) t) := by
    refine fixN_m (fun m (self : Int32 → Int32 → Mem → Option (Int32 × Mem)) => ∀ (p q : Nat → Bool), p = ac P S q 16 → cnt4 p + (if bitI 4 p = bitI 4 q then 0 else 1) ≤ m → p l = true → (∀ t, p t = true → Cl P S (fun m => m = l) t) → ∃ r : Nat → Bool, self (bitI 4 p) (bitI 4 q) μ = some (bitI 4 r, μ) ∧ ∀ t, t < 4 → (r t = true ↔ Cl P S (fun m => m = l) t)) ?_
    intro m self ih p q hpq hm hpl hsub
    unfold m_comesBy_B4
    by_cases e : bitI 4 p = bitI 4 q
    · rw [if_pos e]
      refine ⟨p, rfl, fun t ht => ⟨hsub t, fun hc => ?_⟩⟩
      have e2 := inj4.mp e
      have key := hc (fun t => t < 4 ∧ p t = true) (fun m hm => by subst hm; exact ⟨hl, hpl⟩) (fun m t hm hlt => by
        have ht4 : t < 4 := by have := (lead_in hk hS hlt).2.1; have := hk.1; omega
        refine ⟨ht4, ?_⟩
        rw [hpq]
        exact ac_c ht4 (by rw [← e2 m hm.1]; exact hm.2) hlt 16 (by omega))
      exact key.2
    · rw [if_neg e]
      rw [m_comesBy_in hk hS hL]
      rw [if_neg e] at hm
      refine ih (cnt4 (ac P S p 16) + (if bitI 4 (ac P S p 16) = bitI 4 p then 0 else 1)) ?_ (ac P S p 16) p rfl (Nat.le_refl _) (ac_m hpl 16) (fun t ht => ?_)
      · by_cases e3 : bitI 4 (ac P S p 16) = bitI 4 p
        · rw [if_pos e3]
          have : cnt4 (ac P S p 16) = cnt4 p := by
            unfold cnt4
            exact sumN_c (fun i hi => by rw [inj4.mp e3 i hi])
          omega
        · rw [if_neg e3]
          have : ∃ j, j < 4 ∧ p j = false ∧ ac P S p 16 j = true := by
            refine Classical.byContradiction (fun hn => e3 (inj4.mpr (fun i hi => ?_)))
            cases hp : p i
            · cases ha : ac P S p 16 i
              · rfl
              · exact absurd ⟨i, hi, hp, ha⟩ hn
            · rw [ac_m hp]
          obtain ⟨j, hj, h1, h2⟩ := this
          have := cnt4_lt (p := p) (q := ac P S p 16) (fun i hi => ac_m hi 16) hj h1 h2
          omega
      · rcases ac_s 16 ht with h1 | ⟨m, h1, h2⟩
        · exact hsub t h1
        · exact (hsub m h1).nx h2
  unfold m_comesBy m_comesBy_L4
  rw [show 60000 = 59999 + 1 from rfl, fixN_s]
  unfold m_comesBy_B4
  have hz : ¬ bitI 4 (fun i => i == l) = nI 0 := nz4 hl (by simp)
  rw [if_neg hz, m_comesBy_in hk hS hL]
  refine main 59999 (cnt4 (ac P S (fun i => i == l) 16) + 1) ?_ (ac P S (fun i => i == l) 16) (fun i => i == l) rfl (by split <;> omega) (ac_m (by simp) 16) (fun t ht => ?_)
  · have : cnt4 (ac P S (fun i => i == l) 16) ≤ 4 := by
      have := sumN_k (n := 4) (c := 1) (f := fun i => if ac P S (fun i => i == l) 16 i = true then 0 else 1) (fun i _ => by split <;> omega)
      unfold cnt4
      omega
    omega
  · rcases ac_s 16 ht with h1 | ⟨m, h1, h2⟩
    · exact Cl.in (by simpa using h1)
    · exact (Cl.in (A := fun m => m = l) (by simpa using h1)).nx h2
theorem m_isOut_e {μ : Mem} {lv : Nat} {P : Pl} {S : Nat → Int32} (hk : PlOK P) (hS : StOK P S) (h : PlM μ lv P) (hr : RwM μ S) (hw : ∀ l, l < 4 → mI μ 90 0 l = nI (wN P S l)) {l : Nat} (hl : l < 4) : ∃ b : Bool, m_isOut (nI l) μ = some (if b = true then nI 1 else nI 0, μ) ∧ (b = true ↔ outL P S l) := by
  have hk0 := hk
  obtain ⟨k1, k2, k3, k4, k5, -⟩ := hk
  have hl2 := h.l2
  have hwl := hw l hl
  have hwb := wN_le hk0 hS l
  unfold m_isOut
  by_cases e : wN P S l = 0
  · rw [e] at hwl
    simp (disch := omega) only [inB_nI, cl_nI, hwl, ↓reduceIte]
    exact ⟨true, rfl, fun _ => Or.inl e, fun _ => rfl⟩
  · simp (disch := omega) only [inB_nI, cl_nI, hwl, nI_eqF, ↓reduceIte]
    have key : ∃ b : Bool, m_isOut_L13 (nI l) (nI 0) μ = some (if b = true then nI 1 else nI 0, μ) ∧ (b = true ↔ ∃ n, 0 ≤ n ∧ n < pNo P ∧ pLog P n = l ∧ 0 < sW S n ∧ 10 ≤ pTo P n) := by
      refine fixN_up (fun i (self : Int32 → Mem → Option (Int32 × Mem)) => ∃ b : Bool, self (nI i) μ = some (if b = true then nI 1 else nI 0, μ) ∧ (b = true ↔ ∃ n, i ≤ n ∧ n < pNo P ∧ pLog P n = l ∧ 0 < sW S n ∧ 10 ≤ pTo P n)) (pNo P) ?_ ?_ 60000 0 (by omega) (by omega)
      · intro i self hi ih
        have h4 := k4 i hi
        have h5 := k5 i hi
        have hto : pTo P i < 2147483648 := by omega
        obtain ⟨hw1, hw2⟩ := hS.1 i hi
        have e1 := m_fromLog_e hk0 h hi
        have e2 := m_toWhere_e hk0 h hi
        have e3 := m_wideAt_e hr (show i < 12 by omega)
        obtain ⟨b, q1, q2⟩ := ih
        unfold m_isOut_B13
        have nxt : ¬ (pLog P i = l ∧ 0 < sW S i ∧ 10 ≤ pTo P i) → (b = true ↔ ∃ n, i ≤ n ∧ n < pNo P ∧ pLog P n = l ∧ 0 < sW S n ∧ 10 ≤ pTo P n) := fun hno => q2.trans ⟨fun ⟨n, a, b⟩ => ⟨n, by omega, b⟩, fun ⟨n, a, b⟩ => ⟨n, by
          by_cases z : n = i
          · subst z; exact absurd ⟨b.2.1, b.2.2.1, b.2.2.2⟩ hno
          · omega, b⟩⟩
        by_cases c1 : pLog P i = l
        · by_cases c2 : 0 < sW S i
          · by_cases c3 : 10 ≤ pTo P i
            · have c4 : (nI (pTo P i) < nI 10) = False := nI_ltF c3 hto
              simp (disch := omega) only [h.lv, inB_nI, cl_nI, h.no, nI_leF, ↓ob_eq e1, ↓ob_eq e2, ↓ob_eq e3, c1, hw1, c4, ↓reduceIte]
              exact ⟨true, rfl, ⟨fun _ => ⟨i, by omega, hi, c1, c2, c3⟩, fun _ => rfl⟩⟩
            · simp (disch := omega) only [h.lv, inB_nI, cl_nI, h.no, nI_leF, ↓ob_eq e1, ↓ob_eq e2, ↓ob_eq e3, c1, hw1, nI_ltT, nI_add, ↓reduceIte]
              exact ⟨b, q1, nxt (fun z => c3 z.2.2)⟩
          · simp (disch := omega) only [h.lv, inB_nI, cl_nI, h.no, nI_leF, nI_leT, ↓ob_eq e1, ↓ob_eq e3, c1, hw1, nI_add, ↓reduceIte]
            exact ⟨b, q1, nxt (fun z => c2 z.2.1)⟩
        · simp (disch := omega) only [h.lv, inB_nI, cl_nI, h.no, nI_leF, ↓ob_eq e1, nI_eqF, nI_add, ↓reduceIte]
          exact ⟨b, q1, nxt (fun z => c1 z.1)⟩
      · intro self
        unfold m_isOut_B13
        simp (disch := omega) only [h.lv, inB_nI, cl_nI, h.no, nI_leT, ↓reduceIte]
        exact ⟨false, rfl, ⟨fun z => (by cases z), fun ⟨n, a, b, _⟩ => by omega⟩⟩
    obtain ⟨b, q1, q2⟩ := key
    refine ⟨b, q1, q2.trans ⟨fun ⟨n, _, z⟩ => Or.inr ⟨n, z⟩, fun z => ?_⟩⟩
    rcases z with z | ⟨n, z⟩
    · exact absurd z e
    · exact ⟨n, Nat.zero_le _, z⟩
theorem m_outBits_e {μ : Mem} {lv : Nat} {P : Pl} {S : Nat → Int32} (hk : PlOK P) (hS : StOK P S) (h : PlM μ lv P) (hr : RwM μ S) (hw : ∀ l, l < 4 → mI μ 90 0 l = nI (wN P S l)) : ∃ p : Nat → Bool, m_outBits μ = some (bitI 4 p, μ) ∧ ∀ l, l < 4 → (p l = true ↔ l < pLg P ∧ outL P S l) := by
  have hk1 := hk.1
  have hl2 := h.l2
  have hb : ∀ l, ∃ b : Bool, l < 4 → m_isOut (nI l) μ = some (if b = true then nI 1 else nI 0, μ) ∧ (b = true ↔ outL P S l) := fun l => by
    by_cases hl : l < 4
    · obtain ⟨b, q⟩ := m_isOut_e hk hS h hr hw hl
      exact ⟨b, fun _ => q⟩
    · exact ⟨false, fun z => absurd z hl⟩
  obtain ⟨o, ho⟩ := Classical.skolem.mp hb
  refine ⟨fun l => o l && decide (l < pLg P), ?_, fun l hl => ?_⟩
  · have h0 : nI 0 = bitI 4 (fun l => o l && decide (l < 0)) := by rw [bitI_c (g := fun _ => false) (fun i _ => by simp)]; rfl
    refine (congrArg (fun z => m_outBits_L4 z (nI 0) μ) h0).trans ?_
    refine fixN_up (fun i (self : Int32 → Int32 → Mem → Option (Int32 × Mem)) => self (bitI 4 (fun l => o l && decide (l < i))) (nI i) μ = some (bitI 4 (fun l => o l && decide (l < pLg P)), μ)) (pLg P) ?_ ?_ 60000 0 (by omega) (by omega)
    · intro i self hi ih
      obtain ⟨q1, q2⟩ := ho i (by omega)
      unfold m_outBits_B4
      by_cases c : o i = true
      · simp only [c, if_true] at q1
        simp (disch := omega) only [h.lv, inB_nI, cl_nI, h.lg, nI_leF, ↓ob_eq q1, nI_10, or4, nI_add, ↓reduceIte]
        rw [show bitI 4 (fun l => (o l && decide (l < i)) || l == i) = bitI 4 (fun l => o l && decide (l < i + 1)) from bitI_c (fun j _ => by
          by_cases e : j = i
          · subst e; simp [c]
          · rw [show (j == i) = false by simp [e], Bool.or_false, show decide (j < i + 1) = decide (j < i) from decide_eq_decide.mpr (by omega)])]
        exact ih
      · simp only [c, if_false] at q1
        simp (disch := omega) only [h.lv, inB_nI, cl_nI, h.lg, nI_leF, ↓ob_eq q1, nI_add, ↓reduceIte]
        rw [show bitI 4 (fun l => o l && decide (l < i)) = bitI 4 (fun l => o l && decide (l < i + 1)) from bitI_c (fun j _ => by
          by_cases e : j = i
          · subst e; simp [show o j = false by simpa using c]
          · rw [show decide (j < i + 1) = decide (j < i) from decide_eq_decide.mpr (by omega)])]
        exact ih
    · intro self
      unfold m_outBits_B4
      simp (disch := omega) only [h.lv, inB_nI, cl_nI, h.lg, nI_leT, ↓reduceIte]
  · simp only [Bool.and_eq_true, decide_eq_true_eq]
    rw [(ho l hl).2]
    exact And.comm
theorem m_isShut_e {μ : Mem} {lv : Nat} {P : Pl} {S : Nat → Int32} (hk : PlOK P) (hS : StOK P S) (h : PlM μ lv P) (hr : RwM μ S) (hw : ∀ l, l < 4 → mI μ 90 0 l = nI (wN P S l)) (hL : LdM μ P S) {p : Nat → Bool} (hp : ∀ t, t < 4 → (p t = true ↔ Rh P S t)) : ∃ b : Bool, m_isShut (bitI 4 p) μ = some (if b = true then nI 1 else nI 0, μ) ∧ (b = true ↔ Fl P S) := by
  have hk1 := hk.1
  have hl2 := h.l2
  obtain ⟨o, ho1, ho2⟩ := m_outBits_e hk hS h hr hw
  have key : ∃ b : Bool, m_isShut_L2 (bitI 4 p) (nI 0) μ = some (if b = true then nI 1 else nI 0, μ) ∧ (b = true ↔ ∃ l, 0 ≤ l ∧ l < pLg P ∧ Rh P S l ∧ ∀ t, Cl P S (fun m => m = l) t → ¬ outL P S t) := by
    refine fixN_up (fun i (self : Int32 → Mem → Option (Int32 × Mem)) => ∃ b : Bool, self (nI i) μ = some (if b = true then nI 1 else nI 0, μ) ∧ (b = true ↔ ∃ l, i ≤ l ∧ l < pLg P ∧ Rh P S l ∧ ∀ t, Cl P S (fun m => m = l) t → ¬ outL P S t)) (pLg P) ?_ ?_ 60000 0 (by omega) (by omega)
    · intro i self hi ih
      obtain ⟨b, q1, q2⟩ := ih
      have nxt : ¬ (Rh P S i ∧ ∀ t, Cl P S (fun m => m = i) t → ¬ outL P S t) → (b = true ↔ ∃ l, i ≤ l ∧ l < pLg P ∧ Rh P S l ∧ ∀ t, Cl P S (fun m => m = l) t → ¬ outL P S t) := fun hno => q2.trans ⟨fun ⟨n, a, b⟩ => ⟨n, by omega, b⟩, fun ⟨n, a, b⟩ => ⟨n, by
        by_cases z : n = i
        · subst z; exact absurd b.2 hno
        · omega, b⟩⟩
      have ht := tst4 p (show i < 4 by omega)
      unfold m_isShut_B2
      by_cases c : p i = true
      · rw [eq_true c] at ht
        obtain ⟨r, r1, r2⟩ := m_comesBy_e hk hS hL (show i < 4 by omega)
        rw [← one4 (show i < 4 by omega)] at r1
        have ha := and4 r o
        by_cases c2 : ∀ j, j < 4 → ¬ (r j = true ∧ o j = true)
        · rw [eq_true c2] at ha
          simp (disch := omega) only [h.lv, inB_nI, cl_nI, h.lg, nI_leF, ht, ↓ob_eq r1, ↓ob_eq ho1, ha, ↓reduceIte]
          refine ⟨true, rfl, fun _ => ⟨i, by omega, hi, (hp i (by omega)).mp c, fun t htc hto => ?_⟩, fun _ => rfl⟩
          have ht4 : t < pLg P := by
            refine htc (fun t => t < pLg P) (fun l hl => by subst hl; exact hi) (fun l t _ hlt => (lead_in hk hS hlt).2.1)
          exact c2 t (by omega) ⟨(r2 t (by omega)).mpr htc, (ho2 t (by omega)).mpr ⟨ht4, hto⟩⟩
        · rw [eq_false c2] at ha
          simp (disch := omega) only [h.lv, inB_nI, cl_nI, h.lg, nI_leF, ht, ↓ob_eq r1, ↓ob_eq ho1, ha, nI_add, ↓reduceIte]
          refine ⟨b, q1, nxt (fun z => c2 (fun j hj hjo => ?_))⟩
          exact z.2 j ((r2 j hj).mp hjo.1) ((ho2 j hj).mp hjo.2).2
      · rw [eq_false c] at ht
        simp (disch := omega) only [h.lv, inB_nI, cl_nI, h.lg, nI_leF, ht, nI_add, ↓reduceIte]
        exact ⟨b, q1, nxt (fun z => c ((hp i (by omega)).mpr z.1))⟩
    · intro self
      unfold m_isShut_B2
      simp (disch := omega) only [h.lv, inB_nI, cl_nI, h.lg, nI_leT, ↓reduceIte]
      exact ⟨false, rfl, ⟨fun z => (by cases z), fun ⟨n, a, b, _⟩ => by omega⟩⟩
  obtain ⟨b, q1, q2⟩ := key
  refine ⟨b, q1, q2.trans ⟨fun ⟨l, _, z⟩ => ⟨l, z⟩, fun ⟨l, z⟩ => ⟨l, Nat.zero_le _, z⟩⟩⟩

/-! the reference cuts a text into tokens -/
def kMt : List Nat := [20, 21, 22, 23, 24, 26, 27, 28, 29, 30, 25, 31, 32, 33, 34, 35, 36, 37, 38, 39, 40, 41, 42, 50, 51, 52, 53, 54, 55, 56, 4, 5, 8, 9, 10, 15, 13, 6, 7, 57, 1, 2, 3, 0]
def kM (k : Nat) : Nat := kMt.getD k 0
theorem kM_inj : ∀ a, a < 44 → ∀ b, b < 44 → kM a = kM b → a = b := by decide +kernel
theorem kM_lt : ∀ a, a < 44 → kM a < 100 := by decide +kernel
theorem m_isLetter_e {b : Nat} (h : b < 256) (μ : Mem) : m_isLetter (nI b) μ = some (b01I (isLb b), μ) := by
  unfold m_isLetter isLb
  by_cases c1 : 97 ≤ b
  · rw [if_neg (by rw [nI_ltF c1 (by omega)]; exact id), decide_eq_true c1]
    by_cases c2 : b ≤ 122
    · rw [if_neg (by rw [nI_ltF c2 (by omega)]; exact id), decide_eq_true c2]; rfl
    · rw [if_pos (nI_lt (by omega) (by omega)), decide_eq_false c2]; rfl
  · rw [if_pos (nI_lt (by omega) (by omega)), decide_eq_false c1]; rfl
theorem m_isDigit_e {b : Nat} (h : b < 256) (μ : Mem) : m_isDigit (nI b) μ = some (b01I (isDb b), μ) := by
  unfold m_isDigit isDb
  by_cases c1 : 48 ≤ b
  · rw [if_neg (by rw [nI_ltF c1 (by omega)]; exact id), decide_eq_true c1]
    by_cases c2 : b ≤ 57
    · rw [if_neg (by rw [nI_ltF c2 (by omega)]; exact id), decide_eq_true c2]; rfl
    · rw [if_pos (nI_lt (by omega) (by omega)), decide_eq_false c2]; rfl
  · rw [if_pos (nI_lt (by omega) (by omega)), decide_eq_false c1]; rfl
def Bz (B : Nat → Nat) (m k : Nat) : Nat := if k < m then B k else 0
def TxM (μ : Mem) (X : Nat → Int32) (m : Nat) : Prop := mI μ 55 0 4 = nI m ∧ ∀ k, k < m → mI μ 57 0 k = X k
theorem Bz_lt {X : Nat → Int32} {B : Nat → Nat} {m : Nat} (hb : ByT X B m) (k : Nat) : Bz B m k < 256 := by
  unfold Bz
  split
  · exact (hb k (by assumption)).1
  · omega
theorem m_byteAt_e {μ : Mem} {X : Nat → Int32} {B : Nat → Nat} {m k : Nat} (hm : m ≤ 2000) (hb : ByT X B m) (hx : TxM μ X m) (hk : k < 100000) : m_byteAt (nI k) μ = some (nI (Bz B m k), μ) := by
  unfold m_byteAt Bz
  rw [hx.1]
  by_cases c : k < m
  · rw [if_neg (by rw [nI_leF c (by omega)]; exact id), if_pos (inB_nI (by omega) (by omega)), cl_nI (by omega), hx.2 k c, (hb k c).2.1, if_pos c]
  · rw [if_pos (nI_le (by omega) (by omega)), if_neg c]
theorem run_B {q : Nat → Bool} (hq : q 0 = false) {B : Nat → Nat} {m a : Nat} (ha : a < m) (h0 : q (B a) = true) : (∀ j, a ≤ j → j < runE q B (m - (a + 1)) (a + 1) → q (Bz B m j) = true ∧ Bz B m j = B j) ∧ q (Bz B m (runE q B (m - (a + 1)) (a + 1))) = false := by
  obtain ⟨p1, p2, p3, p4⟩ := runE_p q B (m - (a + 1)) (a + 1)
  refine ⟨fun j h1 h2 => ?_, ?_⟩
  · have : Bz B m j = B j := if_pos (by omega)
    rw [this]
    refine ⟨?_, rfl⟩
    by_cases z : j = a
    · rw [z]; exact h0
    · exact p3 j (by omega) h2
  · by_cases z : runE q B (m - (a + 1)) (a + 1) < m
    · unfold Bz
      rw [if_pos z]
      exact p4 (by omega)
    · unfold Bz
      rw [if_neg z]; exact hq
theorem m_ltr_e {μ : Mem} {X : Nat → Int32} {B : Nat → Nat} {m a : Nat} {K : Int32 → Int64 → Mem → Option (Unit × Mem)} (hm : m ≤ 2000) (hb : ByT X B m) (hx : TxM μ X m) (ha : a < m) (c1 : isLb (B a) = true) : ∃ v, m_cut_L85 (nI a) K (nI 0) (0 : Int64) μ = K (nI (tEnd B m a - a)) v μ ∧ (tEnd B m a - a ≤ 8 → v = oL ((vlW (lts B a (tEnd B m a)) : Nat) : Int)) := by
  obtain ⟨q1, q2⟩ := tEnd_p (B := B) ha
  obtain ⟨r1, r2⟩ := run_B (q := isLb) rfl ha c1
  have te : tEnd B m a = runE isLb B (m - (a + 1)) (a + 1) := by unfold tEnd; rw [if_pos c1]
  rw [← te] at r1 r2
  generalize he : tEnd B m a = e at *
  obtain ⟨v, h1, h2⟩ := fixN_up (bot := fun _ _ _ => none) (b := m_cut_B85 (nI a) K) (fun k (self : Int32 → Int64 → Mem → Option (Unit × Mem)) => ∀ v : Int64, (k ≤ 8 → v = oL ((vlW (lts B a (a + k)) : Nat) : Int)) → ∃ v' : Int64, (e - a ≤ 8 → v' = oL ((vlW (lts B a e) : Nat) : Int)) ∧ self (nI k) v μ = K (nI (e - a)) v' μ) (e - a) (by
    intro k self hk ih v hv
    obtain ⟨l1, l2⟩ := r1 (a + k) (by omega) (by omega)
    have e1 := m_byteAt_e hm hb hx (show a + k < 100000 by omega)
    have e2 := m_isLetter_e (Bz_lt hb (a + k)) μ
    rw [l1] at e2
    have h9 : 97 ≤ B (a + k) ∧ B (a + k) ≤ 122 := by rw [l2] at l1; unfold isLb at l1; simpa using l1
    unfold m_cut_B85
    by_cases c : 8 ≤ k
    · obtain ⟨v', g1, g2⟩ := ih v (fun z => by omega)
      refine ⟨v', g1, ?_⟩
      simp (disch := omega) only [nI_add, ↓ob_eq e1, ↓ob_eq e2, show b01I true = nI 1 from rfl, nI_10, nI_leT, ↓reduceIte]
      exact g2
    · obtain ⟨v', g1, g2⟩ := ih (oL ((vlW (lts B a (a + (k + 1))) : Nat) : Int)) (fun _ => rfl)
      refine ⟨v', g1, ?_⟩
      have e3 : m_appends v (nI (Bz B m (a + k))) μ = some (oL ((vlW (lts B a (a + (k + 1))) : Nat) : Int), μ) := by
        unfold m_appends
        rw [l2, if_neg (by rw [nI_eqF (by omega) (by omega) (by omega)]; exact id), pk_sub (by omega), nI_add, oL_nI (by omega), hv (by omega), show (27 : Int64) = oL 27 from rfl, oL_mul, oL_add, show a + (k + 1) = a + k + 1 by omega, lts_s (by omega), vlW_s]
        congr 3
        omega
      simp (disch := omega) only [nI_add, ↓ob_eq e1, ↓ob_eq e2, show b01I true = nI 1 from rfl, nI_10, nI_leF, ↓ob_eq e3, ↓reduceIte]
      exact g2) (by
    intro self v hv
    have e1 := m_byteAt_e hm hb hx (show e < 100000 by omega)
    have e2 := m_isLetter_e (Bz_lt hb e) μ
    rw [r2] at e2
    refine ⟨v, fun h => ?_, ?_⟩
    · rw [hv h, show a + (e - a) = e by omega]
    · unfold m_cut_B85
      rw [nI_add, show a + (e - a) = e by omega, ob_eq e1, ob_eq e2, if_pos (show b01I false = nI 0 from rfl)]) 60000 0 (Nat.zero_le _) (by omega) 0 (fun _ => by simp [lts, vlW, oL_0])
  exact ⟨v, h2, h1⟩
theorem vlD_lt {B : Nat → Nat} {a : Nat} : ∀ k, (∀ j, a ≤ j → j < a + k → 48 ≤ B j ∧ B j ≤ 57) → vlD (dts B a (a + k)) < 10 ^ k
  | 0, _ => by simp [dts, vlD]
  | k + 1, h => by
    have := vlD_lt k (fun j h1 h2 => h j h1 (by omega))
    have h3 := h (a + k) (by omega) (by omega)
    rw [show a + (k + 1) = a + k + 1 by omega, dts_s (by omega), vlD_s, Nat.pow_succ]
    omega
theorem m_dig_e {μ : Mem} {X : Nat → Int32} {B : Nat → Nat} {m a : Nat} {K : Int32 → Int32 → Mem → Option (Unit × Mem)} (hm : m ≤ 2000) (hb : ByT X B m) (hx : TxM μ X m) (ha : a < m) (c0 : isLb (B a) = false) (c1 : isDb (B a) = true) : ∃ v, m_cut_L208 (nI a) K (nI 0) (nI 0) μ = K (nI (tEnd B m a - a)) v μ ∧ (tEnd B m a - a ≤ 4 → v = nI (vlD (dts B a (tEnd B m a)))) := by
  obtain ⟨q1, q2⟩ := tEnd_p (B := B) ha
  obtain ⟨r1, r2⟩ := run_B (q := isDb) rfl ha c1
  have te : tEnd B m a = runE isDb B (m - (a + 1)) (a + 1) := by unfold tEnd; rw [if_neg (by rw [c0]; decide), if_pos c1]
  rw [← te] at r1 r2
  generalize he : tEnd B m a = e at *
  have dg : ∀ j, a ≤ j → j < e → 48 ≤ B j ∧ B j ≤ 57 := fun j h1 h2 => by
    obtain ⟨l1, l2⟩ := r1 j h1 h2
    rw [l2] at l1; unfold isDb at l1; simpa using l1
  obtain ⟨v, h1, h2⟩ := fixN_up (bot := fun _ _ _ => none) (b := m_cut_B208 (nI a) K) (fun k (self : Int32 → Int32 → Mem → Option (Unit × Mem)) => ∀ v : Int32, (k ≤ 4 → v = nI (vlD (dts B a (a + k)))) → ∃ v' : Int32, (e - a ≤ 4 → v' = nI (vlD (dts B a e))) ∧ self (nI k) v μ = K (nI (e - a)) v' μ) (e - a) (by
    intro k self hk ih v hv
    obtain ⟨l1, l2⟩ := r1 (a + k) (by omega) (by omega)
    have e1 := m_byteAt_e hm hb hx (show a + k < 100000 by omega)
    have e2 := m_isDigit_e (Bz_lt hb (a + k)) μ
    rw [l1] at e2
    have h9 := dg (a + k) (by omega) (by omega)
    unfold m_cut_B208
    by_cases c : 4 ≤ k
    · obtain ⟨v', g1, g2⟩ := ih v (fun z => by omega)
      refine ⟨v', g1, ?_⟩
      simp (disch := omega) only [nI_add, ↓ob_eq e1, ↓ob_eq e2, show b01I true = nI 1 from rfl, nI_10, nI_leT, ↓reduceIte]
      exact g2
    · obtain ⟨v', g1, g2⟩ := ih (nI (vlD (dts B a (a + (k + 1))))) (fun _ => rfl)
      refine ⟨v', g1, ?_⟩
      have lt1 : vlD (dts B a (a + k)) < 10 ^ 3 := Nat.lt_of_lt_of_le (vlD_lt k (fun j z1 z2 => dg j z1 (by omega))) (Nat.pow_le_pow_right (by omega) (by omega))
      have e3 : nI 10 * v + nI (B (a + k)) - nI 48 = nI (vlD (dts B a (a + (k + 1)))) := by
        rw [hv (by omega), pk_mul, nI_add, pk_sub (by omega), show a + (k + 1) = a + k + 1 by omega, dts_s (by omega), vlD_s]
        congr 1
        omega
      simp (disch := omega) only [nI_add, ↓ob_eq e1, ↓ob_eq e2, show b01I true = nI 1 from rfl, nI_10, nI_leF, l2, e3, ↓reduceIte]
      exact g2) (by
    intro self v hv
    have e1 := m_byteAt_e hm hb hx (show e < 100000 by omega)
    have e2 := m_isDigit_e (Bz_lt hb e) μ
    rw [r2] at e2
    refine ⟨v, fun h => ?_, ?_⟩
    · rw [hv h, show a + (e - a) = e by omega]
    · unfold m_cut_B208
      rw [nI_add, show a + (e - a) = e by omega, ob_eq e1, ob_eq e2, if_pos (show b01I false = nI 0 from rfl)]) 60000 0 (Nat.zero_le _) (by omega) (nI 0) (fun _ => by simp [dts, vlD])
  exact ⟨v, h2, h1⟩
/-! words by their values -/
theorem lts_let {B : Nat → Nat} {m a : Nat} (ha : a < m) (c1 : isLb (B a) = true) : ∀ c ∈ lts B a (tEnd B m a), 1 ≤ c ∧ c ≤ 26 := fun c hc => by
  unfold lts at hc
  rw [List.mem_map] at hc
  obtain ⟨j, hj, rfl⟩ := hc
  rw [List.mem_range] at hj
  have te : tEnd B m a = runE isLb B (m - (a + 1)) (a + 1) := by unfold tEnd; rw [if_pos c1]
  have hl : isLb (B (a + j)) = true := by
    by_cases z : j = 0
    · rw [z]; exact c1
    · exact (runE_p isLb B (m - (a + 1)) (a + 1)).2.2.1 (a + j) (by omega) (by omega)
  unfold isLb at hl
  simp only [Bool.and_eq_true, decide_eq_true_eq] at hl
  omega
theorem vlW_lt : ∀ (n : Nat) (l : List Nat), l.length = n → (∀ c ∈ l, c ≤ 26) → vlW l < 27 ^ n
  | 0, l, h, _ => by rw [List.length_eq_zero_iff] at h; subst h; decide
  | n + 1, l, h, hc => by
    rcases List.eq_nil_or_concat l with z | ⟨i, c, z⟩
    · subst z; simp at h
    · subst z
      rw [List.concat_eq_append] at h hc ⊢
      rw [List.length_append] at h
      have := vlW_lt n i (by simp at h; exact h) (fun c h => hc c (List.mem_append_left _ h))
      have := hc c (by simp)
      rw [vlW_s, Nat.pow_succ]
      omega
theorem vlW_inj : ∀ (n : Nat) (l l' : List Nat), l.length ≤ n → (∀ c ∈ l, 1 ≤ c ∧ c ≤ 26) → (∀ c ∈ l', 1 ≤ c ∧ c ≤ 26) → vlW l = vlW l' → l = l'
  | n, l, l', h, h1, h2, e => by
    rcases List.eq_nil_or_concat l with z | ⟨i, c, z⟩
    · rcases List.eq_nil_or_concat l' with z' | ⟨i', c', z'⟩
      · rw [z, z']
      · subst z z'
        rw [List.concat_eq_append] at h2 e
        rw [vlW_s] at e
        have := h2 c' (by simp)
        have e0 : vlW [] = 0 := rfl
        omega
    · subst z
      rw [List.concat_eq_append] at h h1 e ⊢
      have a1 := h1 c (by simp)
      rcases List.eq_nil_or_concat l' with z' | ⟨i', c', z'⟩
      · subst z'
        rw [vlW_s] at e
        have e0 : vlW [] = 0 := rfl
        omega
      · subst z'
        rw [List.concat_eq_append] at h2 e ⊢
        rw [vlW_s, vlW_s] at e
        have a2 := h2 c' (by simp)
        match n, h with
        | 0, h => simp at h
        | n + 1, h =>
          have := vlW_inj n i i' (by simp at h; omega) (fun c h => h1 c (List.mem_append_left _ h)) (fun c h => h2 c (List.mem_append_left _ h)) (by omega)
          rw [this, show c = c' by omega]
def rfR (ls : List Nat) : Nat → Nat
  | 0 => 1
  | i + 1 => if wdR.getD i [] = ls then 20 + i else rfR ls i
theorem rfR_lt (ls : List Nat) : ∀ i, rfR ls i < 20 + i + 1
  | 0 => by unfold rfR; omega
  | i + 1 => by
    unfold rfR
    split
    · omega
    · have := rfR_lt ls i; omega
theorem wdR_tab : ∀ w, w < 23 → (kM (wk (wdC.getD w [])) = rfR (wdC.getD w []) 23 ∧ wk (wdC.getD w []) < 23) := by decide +kernel
theorem wdR_C : ∀ i, i < 23 → ∃ w, w < 23 ∧ wdR.getD i [] = wdC.getD w [] := by decide +kernel
theorem wdR_len : ∀ i, i < 23 → (wdR.getD i []).length ≤ 8 ∧ ∀ c ∈ wdR.getD i [], 1 ≤ c ∧ c ≤ 26 := by decide +kernel
theorem wkF_none {ls : List Nat} (h : ∀ w, w < 23 → wdC.getD w [] ≠ ls) : ∀ f w, w + f ≤ 23 → wkF ls f w = 40
  | 0, w, _ => rfl
  | f + 1, w, hw => by
    unfold wkF
    rw [if_neg (h w (by omega))]
    exact wkF_none h f (w + 1) (by omega)
theorem rfR_none {ls : List Nat} (h : ∀ w, w < 23 → wdR.getD w [] ≠ ls) : ∀ i, i ≤ 23 → rfR ls i = 1
  | 0, _ => rfl
  | i + 1, hi => by
    unfold rfR
    rw [if_neg (h i (by omega))]
    exact rfR_none h i (by omega)
theorem wk_R (ls : List Nat) : rfR ls 23 = kM (wk ls) ∧ (wk ls < 23 ∨ wk ls = 40) := by
  by_cases c : ∃ w, w < 23 ∧ wdC.getD w [] = ls
  · obtain ⟨w, hw, rfl⟩ := c
    obtain ⟨a, b⟩ := wdR_tab w hw
    exact ⟨a.symm, Or.inl b⟩
  · have h1 : wk ls = 40 := wkF_none (fun w hw z => c ⟨w, hw, z⟩) 23 0 (by omega)
    rw [h1]
    refine ⟨rfR_none (fun i hi z => ?_) 23 (by omega), Or.inr rfl⟩
    obtain ⟨w, hw, e⟩ := wdR_C i hi
    exact c ⟨w, hw, e.symm.trans z⟩
theorem lg_eq (x y : Int64) : (lg_cmp x y = nI 0) = (x = y) := by
  unfold lg_cmp
  by_cases c : x > y
  · rw [if_pos c]
    have : x ≠ y := fun z => Int64.lt_irrefl (z ▸ c)
    exact propext ⟨fun z => absurd z (by decide), fun z => absurd z this⟩
  · rw [if_neg c]
    by_cases d : x = y
    · rw [if_pos d]; exact propext ⟨fun _ => d, fun _ => rfl⟩
    · rw [if_neg d]; exact propext ⟨fun z => absurd z (by decide), fun z => absurd z d⟩
theorem m_key_e {μ : Mem} {a n : Int32} {K : Int32 → Mem → Option (Unit × Mem)} {ls : List Nat} (hk : KeyM μ) (h8 : ls.length ≤ 8) (hl : ∀ c ∈ ls, 1 ≤ c ∧ c ≤ 26) : m_cut_L146 a n (oL ((vlW ls : Nat) : Int)) K (nI 1) (nI 0) μ = K (nI (kM (wk ls))) μ := by
  rw [← (wk_R ls).1]
  refine fixN_up (fun i (self : Int32 → Int32 → Mem → Option (Unit × Mem)) => self (nI (rfR ls i)) (nI i) μ = K (nI (rfR ls 23)) μ) 23 ?_ ?_ 60000 0 (by omega) (by omega)
  · intro i self hi ih
    obtain ⟨w1, w2⟩ := wdR_len i hi
    have b1 := vlW_lt _ ls rfl (fun c h => (hl c h).2)
    have b2 := vlW_lt _ (wdR.getD i []) rfl (fun c h => (w2 c h).2)
    have b3 : 27 ^ ls.length ≤ 27 ^ 8 := Nat.pow_le_pow_right (by omega) h8
    have b4 : 27 ^ (wdR.getD i []).length ≤ 27 ^ 8 := Nat.pow_le_pow_right (by omega) w1
    have b5 : (27 : Nat) ^ 8 = 282429536481 := by decide
    have eq : (lg_cmp (mL μ 62 0 i) (oL ((vlW ls : Nat) : Int)) = nI 0) = (wdR.getD i [] = ls) := by
      rw [lg_eq, hk i hi, oL_inj (by omega) (by omega) (by omega) (by omega)]
      exact propext ⟨fun z => vlW_inj _ _ _ (Nat.le_refl _) w2 hl (by omega), fun z => by rw [z]⟩
    unfold m_cut_B146
    unfold rfR at ih
    simp (disch := omega) only [nI_leF, inB_nI, cl_nI, eq, nI_add, ↓reduceIte]
    by_cases c : wdR.getD i [] = ls
    · rw [if_pos c] at ih ⊢; exact ih
    · rw [if_neg c] at ih ⊢; exact ih
  · intro self
    unfold m_cut_B146
    rw [if_pos (by rw [nI_leT (by omega) (by omega)]; trivial)]
def TokM (μ : Mem) (Z : Tks) : Prop := ∀ i, i ≤ Z.1.length → i ≤ 400 → mI μ 58 0 i = nI (kM (tkd Z i)) ∧ mI μ 59 0 i = nI (tpl Z i) ∧ (tkd Z i = 41 → mI μ 60 0 i = nI (tvl Z i)) ∧ (tkd Z i = 40 → mL μ 61 0 i = oL ((tvl Z i : Nat) : Int))
def MD (μ : Mem) (D : List (Nat × Nat × Nat)) : Prop := ∀ i q, D[i]? = some q → mI μ 58 0 i = nI (kM q.1) ∧ mI μ 59 0 i = nI q.2.1 ∧ (q.1 = 41 → mI μ 60 0 i = nI q.2.2) ∧ (q.1 = 40 → mL μ 61 0 i = oL ((q.2.2 : Nat) : Int))
theorem m_token_e {μ : Mem} {n : Nat} (h : mI μ 55 0 10 = nI n) (hn : n < 403) (k p v : Int32) (w : Int64) : m_token k p v w μ = some ((), stI (stL (stI (stI (stI μ 58 0 n k) 59 0 n p) 60 0 n v) 61 0 n w) 55 0 10 (nI (n + 1))) := by
  have f1 : mI (stI μ 58 0 n k) 55 0 10 = nI n := h
  have f2 : mI (stI (stI μ 58 0 n k) 59 0 n p) 55 0 10 = nI n := h
  have f3 : mI (stI (stI (stI μ 58 0 n k) 59 0 n p) 60 0 n v) 55 0 10 = nI n := h
  have f4 : mI (stL (stI (stI (stI μ 58 0 n k) 59 0 n p) 60 0 n v) 61 0 n w) 55 0 10 = nI n := h
  unfold m_token
  simp (disch := omega) only [h, inB_nI, cl_nI, f1, ↓mb_e, f2, f3, f4, nI_add, ↓reduceIte]
theorem MD.push {μ : Mem} {D : List (Nat × Nat × Nat)} (h : MD μ D) {q : Nat × Nat × Nat} {k p v : Int32} {w : Int64} (h1 : k = nI (kM q.1)) (h2 : p = nI q.2.1) (h3 : q.1 = 41 → v = nI q.2.2) (h4 : q.1 = 40 → w = oL ((q.2.2 : Nat) : Int)) : MD (stI (stL (stI (stI (stI μ 58 0 D.length k) 59 0 D.length p) 60 0 D.length v) 61 0 D.length w) 55 0 10 (nI (D.length + 1))) (D ++ [q]) := fun i x hx => by
  rcases getElem_snoc hx with ⟨z1, z2⟩ | ⟨z1, z2⟩
  · obtain ⟨b1, b2, b3, b4⟩ := h i x z2
    refine ⟨?_, ?_, fun z => ?_, fun z => ?_⟩
    · rw [mI_stI, if_neg (by omega), mI_stL, mI_stI, if_neg (by omega), mI_stI, if_neg (by omega), mI_stI, if_neg (by omega)]; exact b1
    · rw [mI_stI, if_neg (by omega), mI_stL, mI_stI, if_neg (by omega), mI_stI, if_neg (by omega), mI_stI, if_neg (by omega)]; exact b2
    · rw [mI_stI, if_neg (by omega), mI_stL, mI_stI, if_neg (by omega), mI_stI, if_neg (by omega), mI_stI, if_neg (by omega)]; exact b3 z
    · rw [mL_stI, mL_stL, if_neg (by omega)]; exact b4 z
  · subst z1
    subst z2
    refine ⟨?_, ?_, fun z => ?_, fun z => ?_⟩
    · rw [mI_stI, if_neg (by omega), mI_stL, mI_stI, if_neg (by omega), mI_stI, if_neg (by omega), mI_stI, if_pos ⟨rfl, rfl, rfl⟩]; exact h1
    · rw [mI_stI, if_neg (by omega), mI_stL, mI_stI, if_neg (by omega), mI_stI, if_pos ⟨rfl, rfl, rfl⟩]; exact h2
    · rw [mI_stI, if_neg (by omega), mI_stL, mI_stI, if_pos ⟨rfl, rfl, rfl⟩]; exact h3 z
    · rw [mL_stI, mL_stL, if_pos ⟨rfl, rfl, rfl⟩]; exact h4 z
theorem MD_Z {μ : Mem} {Z : Tks} {D T : List (Nat × Nat × Nat)} (hD : Z.1 = D ++ T) (h : MD μ (D ++ [(43, Z.2, 0)])) (hT : T = [] ∨ D.length = 401) : TokM μ Z := fun i hi h4 => by
  have len : Z.1.length = D.length + T.length := by rw [hD, List.length_append]
  by_cases c : i < D.length
  · have g : Z.1[i]? = some D[i] := by rw [hD, List.getElem?_append_left c, List.getElem?_eq_getElem c]
    obtain ⟨a1, a2, a3⟩ := tkd_some g
    rw [a1, a2, a3]
    exact h i D[i] (by rw [List.getElem?_append_left c, List.getElem?_eq_getElem c])
  · have hl : T = [] := by
      rcases hT with h | h
      · exact h
      · omega
    rw [hl, List.length_nil, Nat.add_zero] at len
    have ie : i = D.length := by omega
    subst ie
    obtain ⟨a1, a2, a3⟩ := tkd_end (Z := Z) (i := D.length) (by omega)
    rw [a1, a2, a3]
    exact h D.length (43, Z.2, 0) (by rw [List.getElem?_append_right (Nat.le_refl _), Nat.sub_self]; rfl)
theorem MD_401 {μ : Mem} {Z : Tks} {D T : List (Nat × Nat × Nat)} (hD : Z.1 = D ++ T) (h : MD μ D) (hl : D.length = 401) : TokM μ Z := fun i hi h4 => by
  have g : Z.1[i]? = some (D[i]'(by omega)) := by rw [hD, List.getElem?_append_left (by omega), List.getElem?_eq_getElem (by omega)]
  obtain ⟨a1, a2, a3⟩ := tkd_some g
  rw [a1, a2, a3]
  exact h i _ (List.getElem?_eq_getElem (by omega))
theorem m_sign_e {b : Nat} (hb : b < 256) (x y : Int32) (μ : Mem) : m_sign x (nI b) y μ = ob (m_token (nI (kM (sgK b))) x (nI 0) 0 μ) fun _ ν => some (nI 1, ν) := by
  unfold m_sign
  simp (disch := omega) only [nI_eqN]
  by_cases c1 : b = 59
  · subst c1; rfl
  by_cases c2 : b = 61
  · subst c2; rfl
  by_cases c3 : b = 40
  · subst c3; rfl
  by_cases c4 : b = 41
  · subst c4; rfl
  by_cases c5 : b = 43
  · subst c5; rfl
  by_cases c6 : b = 45
  · subst c6; rfl
  by_cases c7 : b = 42
  · subst c7; rfl
  by_cases c8 : b = 47
  · subst c8; rfl
  by_cases c9 : b = 60
  · subst c9; rfl
  have : sgK b = 42 := by
    unfold sgK
    simp only [sgF, sgn, List.getD_cons_zero, List.getD_cons_succ, Ne.symm c1, Ne.symm c2, Ne.symm c3, Ne.symm c4, Ne.symm c5, Ne.symm c6, Ne.symm c7, Ne.symm c8, Ne.symm c9, ↓reduceIte]
  simp only [c1, c2, c3, c4, c5, c6, c7, c8, c9, this, ↓reduceIte]
  rfl
theorem m_cut_e {μ : Mem} {X : Nat → Int32} {B : Nat → Nat} {m : Nat} (hm : m ≤ 2000) (hb : ByT X B m) (hx : TxM μ X m) (hk : KeyM μ) : ∃ μ', m_cut μ = some ((), μ') ∧ TokM μ' (tks B m 2001 0, m) := by
  unfold m_cut m_cut_L7
  refine fixN_m (fun f (self : Int32 → Mem → Option (Unit × Mem)) => ∀ (a : Nat) (μ : Mem) (D : List (Nat × Nat × Nat)), a ≤ m → f = m - a → (∃ g, m - a < g ∧ tks B m 2001 0 = D ++ tks B m g a) → D.length ≤ 401 → mI μ 55 0 10 = nI D.length → MD μ D → TxM μ X m → KeyM μ → ∃ μ', self (nI a) μ = some ((), μ') ∧ TokM μ' (tks B m 2001 0, m)) ?_ 60000 m (by omega) 0 _ [] (Nat.zero_le _) rfl ⟨2001, by omega, rfl⟩ (by simp) (by rw [mI_stI, if_pos ⟨rfl, rfl, rfl⟩]; rfl) (fun i q h => by simp at h) hx hk
  intro f self ih a μ D ha hf hL h1 h3 hs hx hk
  obtain ⟨g, hg, hL⟩ := hL
  unfold m_cut_B7
  obtain ⟨g, rfl⟩ : ∃ g', g = g' + 1 := ⟨g - 1, by omega⟩
  rw [h3]
  by_cases c2 : D.length = 401
  · rw [if_pos (by rw [c2]; decide)]
    exact ⟨μ, rfl, MD_401 (Z := (tks B m 2001 0, m)) hL hs c2⟩
  rw [if_neg (by rw [nI_ltF (by omega) (by omega)]; exact id), ob_eq (m_byteAt_e hm hb hx (show a < 100000 by omega)), hx.1]
  by_cases c1 : m ≤ a
  · rw [if_neg (by rw [nI_ltF (by omega) (by omega)]; exact id), ob_eq (m_token_e h3 (by omega) _ _ _ _)]
    refine ⟨_, rfl, MD_Z (Z := (tks B m 2001 0, m)) hL (hs.push (q := (43, m, 0)) rfl rfl (fun z => by cases z) (fun z => by cases z)) (Or.inl (by rw [tks_s, if_pos c1]))⟩
  · have lt : a < m := by omega
    have hB : Bz B m a = B a := if_pos lt
    have b256 := (hb a lt).1
    rw [tks_s B m g a, if_neg c1] at hL
    rw [if_pos (nI_lt lt (by omega)), hB]
    cases c3 : isWb (B a) with
    | true =>
      rw [c3, if_pos rfl] at hL
      have go := ih (m - (a + 1)) (by omega) (a + 1) μ D (by omega) rfl ⟨g, by omega, hL⟩ h1 h3 hs hx hk
      unfold isWb at c3
      simp only [Bool.or_eq_true, decide_eq_true_eq] at c3
      simp (disch := omega) only [nI_eqN, nI_add]
      rcases c3 with c | c | c | c <;> rw [c] <;> simp only [Nat.reduceEqDiff, ↓reduceIte] <;> exact go
    | false =>
      rw [c3, if_neg (by decide)] at hL
      obtain ⟨q1, q2⟩ := tEnd_p (B := B) lt
      have nb : ∀ c, (c = 9 ∨ c = 10 ∨ c = 13 ∨ c = 32) → ¬ nI (B a) = nI c := fun c hc z => by
        rw [nI_eq (by omega) (by omega)] at z
        unfold isWb at c3
        rw [z] at c3
        rcases hc with rfl | rfl | rfl | rfl <;> cases c3
      rw [if_neg (nb 9 (by omega)), if_neg (nb 10 (by omega)), if_neg (nb 13 (by omega)), if_neg (nb 32 (by omega)), ob_eq (m_isLetter_e b256 μ)]
      have fin : ∀ (k v : Int32) (w : Int64), k = nI (kM (tkK B a (tEnd B m a))) → (tkK B a (tEnd B m a) = 41 → v = nI (tkV B a (tEnd B m a))) → (tkK B a (tEnd B m a) = 40 → w = oL ((tkV B a (tEnd B m a) : Nat) : Int)) → ∃ μ', (ob (m_token k (nI a) v w μ) fun _ ν => self (nI a + nI (tEnd B m a - a)) ν) = some ((), μ') ∧ TokM μ' (tks B m 2001 0, m) := fun k v w e1 e2 e3 => by
        rw [ob_eq (m_token_e h3 (by omega) _ _ _ _), nI_add, show a + (tEnd B m a - a) = tEnd B m a by omega]
        exact ih (m - tEnd B m a) (by omega) (tEnd B m a) _ (D ++ [(tkK B a (tEnd B m a), a, tkV B a (tEnd B m a))]) q2 rfl ⟨g, by omega, by rw [List.append_assoc]; exact hL⟩ (by simp; omega) (by rw [mI_stI, if_pos ⟨rfl, rfl, rfl⟩]; simp) (hs.push (q := (tkK B a (tEnd B m a), a, tkV B a (tEnd B m a))) e1 rfl e2 e3) hx hk
      cases c4 : isLb (B a) with
      | true =>
        rw [if_neg (by decide)]
        obtain ⟨v, g1, g2⟩ := m_ltr_e (K := fun (x128 : Int32) (y129 : Int64) (μ130 : Mem) =>
if x128 ≤ (nI 8) then
if (nI 8) < x128 then
ob (m_token (nI 1) (nI a) (nI 0) y129 μ130) fun _ μ140 =>
self ((nI a) + x128) μ140 else
m_cut_L146 (nI a) x128 y129 (fun (x154 : Int32) (μ155 : Mem) =>
ob (m_token x154 (nI a) (nI 0) y129 μ155) fun _ μ159 =>
self ((nI a) + x128) μ159) (nI 1) (nI 0) μ130 else
if (nI 8) < x128 then
ob (m_token (nI 3) (nI a) (nI 0) y129 μ130) fun _ μ168 =>
self ((nI a) + x128) μ168 else
m_cut_L146 (nI a) x128 y129 (fun (x174 : Int32) (μ175 : Mem) =>
ob (m_token x174 (nI a) (nI 0) y129 μ175) fun _ μ179 =>
self ((nI a) + x128) μ179) (nI 3) (nI 0) μ130) hm hb hx lt c4
        rw [g1]
        by_cases c : tEnd B m a - a ≤ 8
        · have kk : tkK B a (tEnd B m a) = wk (lts B a (tEnd B m a)) := by unfold tkK; rw [if_pos c4, if_pos c]
          have vv : tkV B a (tEnd B m a) = vlW (lts B a (tEnd B m a)) := by unfold tkV; rw [if_pos c4]
          rw [if_pos (nI_le c (by omega)), if_neg (by rw [nI_ltF c (by omega)]; exact id), g2 c, m_key_e hk (by rw [lts_len]; exact c) (lts_let lt c4)]
          refine fin _ _ _ (by rw [kk]) (fun z => ?_) (fun z => by rw [vv])
          rw [kk] at z
          have := (wk_R (lts B a (tEnd B m a))).2
          omega
        · have kk : tkK B a (tEnd B m a) = 42 := by unfold tkK; rw [if_pos c4, if_neg c]
          rw [if_neg (by rw [nI_leF (by omega) (by omega)]; exact id), if_pos (nI_lt (by omega) (by omega))]
          exact fin _ _ _ (by rw [kk]; rfl) (fun z => by omega) (fun z => by omega)
      | false =>
        rw [if_pos (show b01I false = nI 0 from rfl), ob_eq (m_isDigit_e b256 μ)]
        cases c5 : isDb (B a) with
        | true =>
          rw [if_neg (by decide)]
          obtain ⟨v, g1, g2⟩ := m_dig_e (K := fun (x76 : Int32) (x77 : Int32) (μ78 : Mem) =>
if x76 ≤ (nI 4) then
ob (m_token (nI 2) (nI a) x77 (0 : Int64) μ78) fun _ μ85 =>
self ((nI a) + x76) μ85 else
ob (m_token (nI 3) (nI a) x77 (0 : Int64) μ78) fun _ μ91 =>
self ((nI a) + x76) μ91) hm hb hx lt c4 c5
          rw [g1]
          by_cases c : tEnd B m a - a ≤ 4
          · have kk : tkK B a (tEnd B m a) = 41 := by unfold tkK; rw [if_neg (by rw [c4]; decide), if_pos c5, if_pos c]
            have vv : tkV B a (tEnd B m a) = vlD (dts B a (tEnd B m a)) := by unfold tkV; rw [if_neg (by rw [c4]; decide), if_pos c5]
            rw [if_pos (nI_le c (by omega))]
            exact fin _ _ _ (by rw [kk]; rfl) (fun z => by rw [vv]; exact g2 c) (fun z => by omega)
          · have kk : tkK B a (tEnd B m a) = 42 := by unfold tkK; rw [if_neg (by rw [c4]; decide), if_pos c5, if_neg c]
            rw [if_neg (by rw [nI_leF (by omega) (by omega)]; exact id)]
            exact fin _ _ _ (by rw [kk]; rfl) (fun z => by omega) (fun z => by omega)
        | false =>
          rw [if_pos (show b01I false = nI 0 from rfl), nI_add, ob_eq (m_byteAt_e hm hb hx (show a + 1 < 100000 by omega)), m_sign_e b256]
          have kk : tkK B a (tEnd B m a) = sgK (B a) := by unfold tkK; rw [if_neg (by rw [c4]; decide), if_neg (by rw [c5]; decide)]
          have te : tEnd B m a - a = 1 := by unfold tEnd; rw [if_neg (by rw [c4]; decide), if_neg (by rw [c5]; decide)]; omega
          have sk := sgF_k (B a) 9 0 (by omega)
          have r := fin (nI (kM (sgK (B a)))) (nI 0) 0 (by rw [kk]) (fun z => by rw [kk] at z; unfold sgK at z; omega) (fun z => by rw [kk] at z; unfold sgK at z; omega)
          rw [te] at r
          rw [ob_eq (m_token_e h3 (by omega) _ _ _ _)] at r ⊢
          exact r
/-! what tokens are like -/
def ZOK (Z : Tks) : Prop := (∀ i j, i < j → j ≤ Z.1.length → tpl Z i < tpl Z j) ∧ (∀ i, tkd Z i < 44) ∧ (∀ i, i < Z.1.length → tkd Z i ≠ 43) ∧ (∀ i, tkd Z i = 41 → tvl Z i < 10000) ∧ (∀ i, tkd Z i = 40 → tvl Z i < 1000000000000) ∧ ∀ i, tpl Z i ≤ 2000

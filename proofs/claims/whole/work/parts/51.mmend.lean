/-! mend, the reference's side -/
theorem m_areDone_e {μ : Mem} {lv : Nat} {P : Pl} {S : Nat → Int32} (hk : PlOK P) (hS : StOK P S) (h : MCore μ lv P S) {n : Nat} (hn : n ≤ 3) {v : Nat → Nat} (hv : ∀ i, i < n → v i < 24) (h97 : ∀ i, i < n → mI μ 97 0 i = nI (v i)) : ∃ μ', m_areDone (nI n) μ = some (b01I (gdB P S v n), μ') ∧ MCore μ' lv P S ∧ ∀ i, i < n → mI μ' 97 0 i = nI (v i) := by
  have k2 := hk.2.1
  have main : ∃ μ', m_areDone (nI n) μ = some (b01I (gdB P S v n), μ') := by
    unfold m_areDone
    obtain ⟨μ1, e1, A1, -⟩ := m_copies_e hk hS h
    have g1 := f_m_copies e1
    have q1 : ∀ i, i < n → mI μ1 97 0 i = nI (v i) := fun i hi => (g1.I rfl).trans (h97 i hi)
    simp only [↓ob_eq e1]
    refine fixN_up (fun i (self : Int32 → Mem → Option (Int32 × Mem)) => ∀ μ T, dn P S v i = some T → StOK P T → MoW μ lv P T → (∀ i, i < n → mI μ 97 0 i = nI (v i)) → ∃ μ', self (nI i) μ = some (b01I (gdB P S v n), μ')) n ?_ ?_ 60000 0 (by omega) (by omega) μ1 S rfl hS A1 q1
    · intro i self hi ih μ T hd hT w q
      have hvi := hv i hi
      have e2 := m_canStep_e hk hT w.pl w.rw (show v i < 1000 by omega)
      have ds := dn_s P S v i
      rw [hd] at ds
      unfold m_areDone_B6
      cases c : canS P T (v i) with
      | false =>
        rw [c] at e2
        simp only [c] at ds
        rw [gdB_n (dn_none ds n (by omega))]
        refine ⟨μ, ?_⟩
        simp (disch := omega) only [nI_leF, inB_nI, cl_nI, q i hi, ↓ob_eq e2, b01I, Bool.false_eq_true, ↓reduceIte]
      | true =>
        rw [c] at e2
        simp only [c, if_true] at ds
        obtain ⟨μ2, e3, w2⟩ := m_steps_e hk hT w c
        have g2 := f_m_steps e3
        simp (disch := omega) only [nI_leF, inB_nI, cl_nI, q i hi, ↓ob_eq e2, b01I, nI_10, ↓ob_eq e3, nI_add, ↓reduceIte]
        exact ih μ2 _ ds (stS_ok hk hT c) w2 (fun i hi => (g2.I rfl).trans (q i hi))
    · intro self μ T hd hT w q
      obtain ⟨μ3, e3, a3⟩ := m_parts_e hk hT w.pl w.rw
      have w3 : MoW μ3 lv P T := w.fo (f_m_parts e3) rfl rfl
      obtain ⟨μ4, e4⟩ := m_lackingBits_e hk hT w3 a3
      have f1 := a3.fl
      rw [gdB_s hd]
      unfold m_areDone_B6
      by_cases c : wFl P T
      · rw [flI_t c] at f1
        rw [ifP_f (fun z => z.1 c)]
        refine ⟨μ3, ?_⟩
        simp (disch := omega) only [nI_leT, ↓ob_eq e3, f1, nI_10, b01I, Bool.false_eq_true, ↓reduceIte]
      · rw [flI_f c] at f1
        by_cases c2 : bitI (pFd P) (lack P T) = nI 0
        · rw [ifP_t ⟨c, (bitI_0 (by omega)).mp c2⟩]
          rw [c2] at e4
          refine ⟨μ4, ?_⟩
          simp (disch := omega) only [nI_leT, ↓ob_eq e3, f1, ↓ob_eq e4, b01I, ↓reduceIte]
        · rw [ifP_f (fun z => c2 ((bitI_0 (by omega)).mpr z.2))]
          refine ⟨μ4, ?_⟩
          simp (disch := omega) only [nI_leT, ↓ob_eq e3, f1, ↓ob_eq e4, c2, b01I, Bool.false_eq_true, ↓reduceIte]
  obtain ⟨μ', e⟩ := main
  have g := f_m_areDone e
  exact ⟨μ', e, h.fr g rfl, fun i hi => (g.I rfl).trans (h97 i hi)⟩
/-- the next row: from its last step below 23 on, all one higher -/
def nxV (v : Nat → Nat) (k : Nat) : Nat → Nat := fun i => if i < k then v i else v k + 1
theorem m_fillFrom_e {μ : Mem} {n k w : Nat} (hn : n ≤ 3) (hkn : k < n) {v : Nat → Nat} (h97 : ∀ i, i < n → mI μ 97 0 i = nI (v i)) (hw : w = v k + 1) : ∃ μ', m_goesOnTo_L43 (nI n) (nI w) (nI k) μ = some (nI 1, μ') ∧ ∀ i, i < n → mI μ' 97 0 i = nI (nxV v k i) := by
  refine fixN_up (fun j (self : Int32 → Mem → Option (Int32 × Mem)) => k ≤ j → ∀ μ, (∀ i, i < n → mI μ 97 0 i = nI (if k ≤ i ∧ i < j then w else v i)) → ∃ μ', self (nI j) μ = some (nI 1, μ') ∧ ∀ i, i < n → mI μ' 97 0 i = nI (nxV v k i)) n ?_ ?_ 60000 k (by omega) (by omega) (Nat.le_refl _) μ (fun i hi => by rw [h97 i hi, if_neg (by omega)])
  · intro j self hj ih hkj μ h
    unfold m_goesOnTo_B43
    simp (disch := omega) only [nI_leF, inB_nI, cl_nI, nI_add, ↓reduceIte]
    refine ih (by omega) _ (fun i hi => ?_)
    rw [mI_stI]
    by_cases e : i = j
    · rw [if_pos ⟨rfl, rfl, e⟩, if_pos (by omega)]
    · rw [if_neg (fun z => e z.2.2), h i hi]
      by_cases c : k ≤ i ∧ i < j
      · rw [if_pos c, if_pos (by omega)]
      · rw [if_neg c, if_neg (by omega)]
  · intro self hkj μ h
    unfold m_goesOnTo_B43
    simp (disch := omega) only [nI_leT, ↓reduceIte]
    refine ⟨μ, rfl, fun i hi => ?_⟩
    rw [h i hi]
    unfold nxV
    by_cases c : i < k
    · rw [if_neg (by omega), if_pos c]
    · rw [if_pos (by omega), if_neg c, hw]
theorem m_down_e {μ : Mem} {n : Nat} (hn : n ≤ 3) (K : Int32 → Mem → Option (Int32 × Mem)) {v : Nat → Nat} (hv : ∀ i, i < n → v i < 24) (h97 : ∀ i, i < n → mI μ 97 0 i = nI (v i)) : (∃ k, k < n ∧ v k < 23 ∧ (∀ i, k < i → i < n → v i = 23) ∧ m_goesOnTo_L4 (nI n) K (nI n - nI 1) μ = K (nI k) μ) ∨ ((∀ i, i < n → v i = 23) ∧ m_goesOnTo_L4 (nI n) K (nI n - nI 1) μ = K (nI 0 - nI 1) μ) := by
  have step : ∀ fuel j, j < fuel → j ≤ n → (∀ i, j ≤ i → i < n → v i = 23) → (∃ k, k < n ∧ v k < 23 ∧ (∀ i, k < i → i < n → v i = 23) ∧ fixN (fun _ _ => none) (m_goesOnTo_B4 (nI n) K) fuel (nI j - nI 1) μ = K (nI k) μ) ∨ ((∀ i, i < n → v i = 23) ∧ fixN (fun _ _ => none) (m_goesOnTo_B4 (nI n) K) fuel (nI j - nI 1) μ = K (nI 0 - nI 1) μ) := by
    refine fixN_m (fun j (self : Int32 → Mem → Option (Int32 × Mem)) => j ≤ n → (∀ i, j ≤ i → i < n → v i = 23) → (∃ k, k < n ∧ v k < 23 ∧ (∀ i, k < i → i < n → v i = 23) ∧ self (nI j - nI 1) μ = K (nI k) μ) ∨ ((∀ i, i < n → v i = 23) ∧ self (nI j - nI 1) μ = K (nI 0 - nI 1) μ)) ?_
    intro j self ih hj h1
    unfold m_goesOnTo_B4
    cases j with
    | zero =>
      rw [if_pos (show (nI 0 - nI 1 : Int32) < nI 0 by decide)]
      exact Or.inr ⟨fun i hi => h1 i (by omega) hi, rfl⟩
    | succ j =>
      have hvj := hv j (by omega)
      have e1 : (nI (j + 1) - nI 1 : Int32) = nI j := by rw [nI_sub1 (by omega)]; rfl
      have e2 : (nI j + (-1 : Int32) : Int32) = nI j - nI 1 := by
        rw [Int32.sub_eq_add_neg]; rfl
      rw [e1]
      by_cases c : v j = 23
      · simp (disch := omega) only [nI_ltF, inB_nI, cl_nI, h97 j (by omega), c, e2, ↓reduceIte]
        exact ih j (by omega) (by omega) (fun i a b => by
          by_cases e : i = j
          · subst e; exact c
          · exact h1 i (by omega) b)
      · simp (disch := omega) only [nI_ltF, inB_nI, cl_nI, h97 j (by omega), nI_eqF, ↓reduceIte]
        exact Or.inl ⟨j, by omega, by omega, fun i a b => h1 i (by omega) b, rfl⟩
  exact step 60000 n (by omega) (Nat.le_refl _) (fun i a b => by omega)
theorem cd_n1 (v : Nat → Nat) : cd 24 v 1 = v 0 := by simp [cd]
theorem cd_n2 (v : Nat → Nat) : cd 24 v 2 = v 0 * 24 + v 1 := by simp [cd]
theorem cd_n3 (v : Nat → Nat) : cd 24 v 3 = (v 0 * 24 + v 1) * 24 + v 2 := by simp [cd]
theorem nx_next {n k : Nat} (hn : n ≤ 3) (hkn : k < n) {v : Nat → Nat} (hv : ∀ i, i < n → v i < 24) (hd : ndc v n) (hk : v k < 23) (h23 : ∀ i, k < i → i < n → v i = 23) : (∀ i, i < n → nxV v k i < 24) ∧ ndc (nxV v k) n ∧ cd 24 v n < cd 24 (nxV v k) n ∧ ∀ u, (∀ i, i < n → u i < 24) → ndc u n → cd 24 u n < cd 24 (nxV v k) n → cd 24 u n ≤ cd 24 v n := by
  have hb : ∀ i, i < n → nxV v k i < 24 := fun i hi => by
    unfold nxV
    have := hv i hi
    split <;> omega
  have hnd : ndc (nxV v k) n := fun i hi => by
    have := hd i hi
    unfold nxV
    by_cases c1 : i < k
    · rw [if_pos c1]
      by_cases c2 : i + 1 < k
      · rw [if_pos c2]; exact this
      · rw [if_neg c2]
        have e : i + 1 = k := by omega
        rw [e] at this
        omega
    · rw [if_neg c1, if_neg (by omega)]
      exact Nat.le_refl _
  refine ⟨hb, hnd, ?_⟩
  rcases (show n = 1 ∨ n = 2 ∨ n = 3 by omega) with rfl | rfl | rfl
  · have hk0 : k = 0 := by omega
    subst hk0
    refine ⟨?_, fun u hu hud hlt => ?_⟩
    · rw [cd_n1, cd_n1]; simp [nxV]
    · rw [cd_n1, cd_n1] at *; simp [nxV] at hlt; omega
  · have v0 := hv 0 (by omega)
    have v1 := hv 1 (by omega)
    rw [cd_n2, cd_n2]
    rcases (show k = 0 ∨ k = 1 by omega) with rfl | rfl
    · have := h23 1 (by omega) (by omega)
      simp only [nxV]
      refine ⟨by simp; omega, fun u hu hud hlt => ?_⟩
      have u0 := hu 0 (by omega)
      have u1 := hu 1 (by omega)
      have := hud 0 (by omega)
      rw [cd_n2] at *
      simp at hlt this ⊢
      omega
    · simp only [nxV]
      refine ⟨by simp, fun u hu hud hlt => ?_⟩
      rw [cd_n2] at *
      simp at hlt ⊢
      omega
  · have v0 := hv 0 (by omega)
    have v1 := hv 1 (by omega)
    have v2 := hv 2 (by omega)
    rw [cd_n3, cd_n3]
    rcases (show k = 0 ∨ k = 1 ∨ k = 2 by omega) with rfl | rfl | rfl
    · have := h23 1 (by omega) (by omega)
      have := h23 2 (by omega) (by omega)
      simp only [nxV]
      refine ⟨by simp; omega, fun u hu hud hlt => ?_⟩
      have u0 := hu 0 (by omega)
      have u1 := hu 1 (by omega)
      have u2 := hu 2 (by omega)
      have d0 := hud 0 (by omega)
      have d1 := hud 1 (by omega)
      rw [cd_n3] at *
      simp at hlt d0 d1 ⊢
      omega
    · have := h23 2 (by omega) (by omega)
      simp only [nxV]
      refine ⟨by simp; omega, fun u hu hud hlt => ?_⟩
      have u0 := hu 0 (by omega)
      have u1 := hu 1 (by omega)
      have u2 := hu 2 (by omega)
      have d0 := hud 0 (by omega)
      have d1 := hud 1 (by omega)
      rw [cd_n3] at *
      simp at hlt d0 d1 ⊢
      omega
    · simp only [nxV]
      refine ⟨by simp, fun u hu hud hlt => ?_⟩
      rw [cd_n3] at *
      simp at hlt ⊢
      omega
theorem cd_top {n : Nat} (hn : n ≤ 3) {v : Nat → Nat} (h : ∀ i, i < n → v i = 23) {u : Nat → Nat} (hu : ∀ i, i < n → u i < 24) : cd 24 u n ≤ cd 24 v n := by
  rcases (show n = 0 ∨ n = 1 ∨ n = 2 ∨ n = 3 by omega) with rfl | rfl | rfl | rfl
  · exact Nat.le_refl _
  · have := hu 0 (by omega)
    rw [cd_n1, cd_n1, h 0 (by omega)]; omega
  · have := hu 0 (by omega)
    have := hu 1 (by omega)
    rw [cd_n2, cd_n2, h 0 (by omega), h 1 (by omega)]; omega
  · have := hu 0 (by omega)
    have := hu 1 (by omega)
    have := hu 2 (by omega)
    rw [cd_n3, cd_n3, h 0 (by omega), h 1 (by omega), h 2 (by omega)]; omega
theorem m_goesOnTo_e {μ : Mem} {n : Nat} (hn : n ≤ 3) {v : Nat → Nat} (hv : ∀ i, i < n → v i < 24) (hd : ndc v n) (h97 : ∀ i, i < n → mI μ 97 0 i = nI (v i)) : ∃ (b : Bool) (μ' : Mem), m_goesOnTo (nI n) μ = some (b01I b, μ') ∧ (b = true → ∃ v', (∀ i, i < n → v' i < 24) ∧ ndc v' n ∧ (∀ i, i < n → mI μ' 97 0 i = nI (v' i)) ∧ cd 24 v n < cd 24 v' n ∧ ∀ u, (∀ i, i < n → u i < 24) → ndc u n → cd 24 u n < cd 24 v' n → cd 24 u n ≤ cd 24 v n) ∧ (b = false → ∀ u, (∀ i, i < n → u i < 24) → cd 24 u n ≤ cd 24 v n) := by
  unfold m_goesOnTo
  rcases m_down_e (μ := μ) hn (fun x9 μ10 => if (nI 0) ≤ x9 then (if inB x9 3 = true then m_goesOnTo_L43 (nI n) ((mI μ10 97 0 (cl x9)) + (nI 1)) x9 μ10 else none) else some ((nI 0), μ10)) hv h97 with ⟨k, hkn, k23, h23, e⟩ | ⟨h23, e⟩
  · obtain ⟨μ', e2, q⟩ := m_fillFrom_e (μ := μ) hn hkn h97 (w := v k + 1) rfl
    obtain ⟨a1, a2, a3, a4⟩ := nx_next hn hkn hv hd k23 h23
    refine ⟨true, μ', ?_, fun _ => ⟨nxV v k, a1, a2, q, a3, a4⟩, fun z => by cases z⟩
    rw [e]
    simp (disch := omega) only [nI_leT, inB_nI, cl_nI, h97 k hkn, nI_add, ↓reduceIte]
    exact e2
  · refine ⟨false, μ, ?_, fun z => (by cases z), fun _ u hu => cd_top hn h23 hu⟩
    rw [e]
    rw [if_neg (show ¬ (nI 0 ≤ (nI 0 - nI 1 : Int32)) by decide)]
    rfl
theorem m_mendOf_in {lv : Nat} {P : Pl} {S : Nat → Int32} (hk : PlOK P) (hS : StOK P S) {n : Nat} (hn : n ≤ 3) (K : Mem → Option (Int32 × Mem)) (R : Option (Int32 × Mem) → Prop) (hK : ∀ μ, MCore μ lv P S → (¬ ∃ v, MnP P S n v) → R (K μ)) (hR : ∀ μ v, MCore μ lv P S → MnP P S n v → (∀ i, i < n → mI μ 97 0 i = nI (v i)) → R (some (nI n, μ))) {μ : Mem} (h : MCore μ lv P S) (hz : ∀ i, i < n → mI μ 97 0 i = nI 0) : R (m_mendOf_L29 (nI n) K (nI 1) μ) := by
  have step : ∀ fuel r, r < fuel → (∀ μ (v : Nat → Nat), MCore μ lv P S → (∀ i, i < n → v i < 24) → ndc v n → (∀ i, i < n → mI μ 97 0 i = nI (v i)) → cd 24 v n + r = 13825 → (∀ u, (∀ i, i < n → u i < 24) → ndc u n → gdB P S u n = true → cd 24 v n ≤ cd 24 u n) → R (fixN (fun _ _ => none) (m_mendOf_B29 (nI n) K) fuel (nI 1) μ)) ∧ (∀ μ, MCore μ lv P S → (¬ ∃ v, MnP P S n v) → R (fixN (fun _ _ => none) (m_mendOf_B29 (nI n) K) fuel (nI 0) μ)) := by
    refine fixN_m (fun r (self : Int32 → Mem → Option (Int32 × Mem)) => (∀ μ (v : Nat → Nat), MCore μ lv P S → (∀ i, i < n → v i < 24) → ndc v n → (∀ i, i < n → mI μ 97 0 i = nI (v i)) → cd 24 v n + r = 13825 → (∀ u, (∀ i, i < n → u i < 24) → ndc u n → gdB P S u n = true → cd 24 v n ≤ cd 24 u n) → R (self (nI 1) μ)) ∧ (∀ μ, MCore μ lv P S → (¬ ∃ v, MnP P S n v) → R (self (nI 0) μ))) ?_
    intro r self ih
    refine ⟨fun μ v h hv hd q hr hlow => ?_, fun μ h hno => ?_⟩
    · obtain ⟨μ1, e1, c1, q1⟩ := m_areDone_e hk hS h hn hv q
      unfold m_mendOf_B29
      cases cg : gdB P S v n with
      | true =>
        rw [cg] at e1
        simp (disch := omega) only [nI_10, ↓ob_eq e1, b01I, ↓reduceIte]
        exact hR μ1 v c1 ⟨hv, hd, cg, hlow⟩ q1
      | false =>
        rw [cg] at e1
        obtain ⟨b, μ2, e2, t1, t2⟩ := m_goesOnTo_e hn hv hd q1
        have c2 := c1.fr (f_m_goesOnTo e2) rfl
        have hne : ∀ u, (∀ i, i < n → u i < 24) → gdB P S u n = true → cd 24 u n ≠ cd 24 v n := fun u a1 a2 e => by
          have := cd_inj n (fun i hi => ⟨a1 i hi, hv i hi⟩) e
          rw [gdB_c this, cg] at a2
          cases a2
        have hb0 := cd_bd (b := 24) n hv
        have hb2 := Nat.pow_le_pow_right (n := 24) (by omega) hn
        have hb3 : (24 : Nat) ^ 3 = 13824 := rfl
        cases b with
        | true =>
          obtain ⟨v', b1, b2, b3, b4, b5⟩ := t1 rfl
          simp (disch := omega) only [nI_10, ↓ob_eq e1, ↓ob_eq e2, b01I, Bool.false_eq_true, ↓reduceIte]
          have hb := cd_bd (b := 24) n b1
          refine (ih (13825 - cd 24 v' n) (by omega)).1 μ2 v' c2 b1 b2 b3 (by omega) (fun u a1 a2 a3 => ?_)
          have x1 := hlow u a1 a2 a3
          have x2 := hne u a1 a3
          by_cases c : cd 24 u n < cd 24 v' n
          · have := b5 u a1 a2 c
            omega
          · omega
        | false =>
          simp (disch := omega) only [nI_10, ↓ob_eq e1, ↓ob_eq e2, b01I, Bool.false_eq_true, ↓reduceIte]
          refine (ih (r - 1) (by omega)).2 μ2 c2 (fun ⟨u, a1, a2, a3, _⟩ => ?_)
          have x1 := hlow u a1 a2 a3
          have x2 := hne u a1 a3
          have x3 := t2 rfl u a1
          omega
    · unfold m_mendOf_B29
      rw [if_pos rfl]
      exact hK μ h hno
  have hc : cd 24 (fun _ => 0) n = 0 := by
    rcases (show n = 0 ∨ n = 1 ∨ n = 2 ∨ n = 3 by omega) with rfl | rfl | rfl | rfl <;> rfl
  exact (step 60000 13825 (by omega)).1 μ (fun _ => 0) h (fun i hi => by omega) (fun i hi => Nat.le_refl _) hz (by omega) (fun u _ _ _ => by omega)
theorem m_mendOf_e {μ : Mem} {lv : Nat} {P : Pl} {S : Nat → Int32} (hk : PlOK P) (hS : StOK P S) (h : MCore μ lv P S) : ∃ μ', m_mendOf μ = some (if mnN P S = 4 then -2 else nI (mnN P S), μ') ∧ (¬ mnN P S = 4 → mnN P S ≤ 3 ∧ ∀ i, i < mnN P S → mI μ' 97 0 i = nI (mnV P S (mnN P S) i)) := by
  refine fixN_up (fun n (self : Int32 → Mem → Option (Int32 × Mem)) => ∀ μ, MCore μ lv P S → (∀ k, k < n → ¬ ∃ v, MnP P S k v) → ∃ μ', self (nI n) μ = some (if mnN P S = 4 then -2 else nI (mnN P S), μ') ∧ (¬ mnN P S = 4 → mnN P S ≤ 3 ∧ ∀ i, i < mnN P S → mI μ' 97 0 i = nI (mnV P S (mnN P S) i))) 4 ?_ ?_ 60000 0 (by omega) (by omega) μ h (fun k hk => by omega)
  · intro n self hn ih μ h h0
    unfold m_mendOf_B2
    simp (disch := omega) only [nI_ltF, ↓reduceIte]
    refine fixN_up (fun j (self2 : Int32 → Mem → Option (Int32 × Mem)) => ∀ μ, MCore μ lv P S → (∀ i, i < j → mI μ 97 0 i = nI 0) → ∃ μ', self2 (nI j) μ = some (if mnN P S = 4 then -2 else nI (mnN P S), μ') ∧ (¬ mnN P S = 4 → mnN P S ≤ 3 ∧ ∀ i, i < mnN P S → mI μ' 97 0 i = nI (mnV P S (mnN P S) i))) 3 ?_ ?_ 60000 0 (by omega) (by omega) μ h (fun i hi => by omega)
    · intro j self2 hj ih2 μ h hz
      unfold m_mendOf_B9
      simp (disch := omega) only [nI_leF, inB_nI, cl_nI, nI_add, ↓reduceIte]
      have g : Fr [(97, none, none)] μ (stI μ 97 0 j (nI 0)) := Fr.stI (Fr.rf _ _) (iT 0 rfl inA_nn)
      refine ih2 _ (h.fr g rfl) (fun i hi => ?_)
      rw [mI_stI]
      by_cases e : i = j
      · rw [if_pos ⟨rfl, rfl, e⟩]
      · rw [if_neg (fun z => e z.2.2)]; exact hz i (by omega)
    · intro self2 μ h hz
      unfold m_mendOf_B9
      simp (disch := omega) only [nI_leT, ↓reduceIte]
      refine m_mendOf_in hk hS (show n ≤ 3 by omega) _ (fun o => ∃ μ', o = some (if mnN P S = 4 then -2 else nI (mnN P S), μ') ∧ (¬ mnN P S = 4 → mnN P S ≤ 3 ∧ ∀ i, i < mnN P S → mI μ' 97 0 i = nI (mnV P S (mnN P S) i))) (fun μ h hno => ?_) (fun μ v h hv q => ?_) h (fun i hi => hz i (by omega))
      · rw [nI_add]
        exact ih μ h (fun k hk => by
          by_cases e : k = n
          · subst e; exact hno
          · exact h0 k (by omega))
      · have en := mnN_at (show n ≤ 3 by omega) h0 ⟨v, hv⟩
        rw [en, if_neg (show ¬ n = 4 by omega)]
        exact ⟨μ, rfl, fun _ => ⟨by omega, fun i hi => by rw [q i hi, mnV_e hv hi]⟩⟩
  · intro self μ h h0
    unfold m_mendOf_B2
    rw [mnN_no h0, if_pos rfl]
    simp (disch := omega) only [nI_ltT, ↓reduceIte]
    exact ⟨μ, rfl, fun z => absurd trivial z⟩
theorem m_mend_e {μ : Mem} {lv : Nat} {P : Pl} {S : Nat → Int32} (hk : PlOK P) (hS : StOK P S) (h : MCore μ lv P S) (x : Int32) : ∃ μ', m_mend x μ = some (qMend P S x, μ') := by
  obtain ⟨μ1, e1, q⟩ := m_mendOf_e hk hS h
  unfold m_mend qMend
  by_cases c : (-1 : Int32) ≤ x
  · rw [if_pos c, if_pos c]
    refine ⟨μ1, ?_⟩
    by_cases c4 : mnN P S = 4
    · rw [if_pos c4] at e1
      rw [if_pos c4]
      simp only [↓ob_eq e1, show ((-2 : Int32) < nI 0) = True from eq_true (by decide), ↓reduceIte]
    · rw [if_neg c4] at e1
      rw [if_neg c4]
      obtain ⟨q1, q2⟩ := q c4
      generalize mnN P S = n at *
      simp (disch := omega) only [↓ob_eq e1, nI_ltF, ↓reduceIte]
      by_cases c2 : x = -1
      · rw [if_pos c2, if_pos c2]
      · rw [if_neg c2, if_neg c2]
        by_cases c3 : nI n ≤ x
        · rw [if_pos c3, if_pos c3]
        · rw [if_neg c3, if_neg c3]
          rcases inB_cases x (show n < 2147483648 by omega) with ⟨a, j, hj, e⟩ | ⟨a, b⟩
          · subst e
            have h1 := q2 j hj
            simp (disch := omega) only [inB_nI, cl_nI, h1, ↓reduceIte]
          · exfalso
            rcases b with b | b
            · have h1 := Int32.le_iff_toInt_le.mp c
              have h2 := Int32.lt_iff_toInt_lt.mp b
              have h3 : (-1 : Int32).toInt = -1 := by decide
              have h4 : (0 : Int32).toInt = 0 := by decide
              exact c2 (Int32.toInt_inj.mp (by omega))
            · exact c3 b
  · rw [if_neg c, if_neg c]
    exact ⟨μ, rfl⟩

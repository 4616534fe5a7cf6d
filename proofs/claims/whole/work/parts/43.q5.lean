/-! days tried: grownIn, wideIn, crop, year -/
theorem in60 (y : Int32) (μ : Mem) : m_isLong y μ = some (b01I (inR y (nI 0) (nI 60)), μ) := by
  unfold m_isLong
  simp only [↓ob_eq (m_in_r y (nI 0) (nI 60) μ), b01I_or, ↓reduceIte]
theorem s_wouldPass_e {μ : Mem} {p : Nat} {P : Pl} {S : Nat → Int32} (hk : PlOK P) (hS : StOK P S) (h : CCore μ p P S) {n : Nat} (hn : n < 1000) (seed : Int32) (si : Bool) : ∃ μ', s_wouldPassDays (nI n) seed (b01I si) μ = some ((), μ') ∧ CCore μ' p P S ∧ WoC μ' 1 p P (daysS P seed (!si) S n) ∧ WaC μ' 1 P (daysS P seed (!si) S n) := by
  have main : ∃ μ', s_wouldPassDays (nI n) seed (b01I si) μ = some ((), μ') ∧ WoC μ' 1 p P (daysS P seed (!si) S n) ∧ WaC μ' 1 P (daysS P seed (!si) S n) := by
    obtain ⟨μ1, e1, c1, a1⟩ := copy1_e hk h
    obtain ⟨μ2, e2, a2, b2⟩ := wo_settle_e hk hS a1
    obtain ⟨μ3, e3, a3, b3⟩ := wo_passDays_e (seed := seed) (si := si) hn hk hS a2 b2
    refine ⟨μ3, ?_, a3, b3⟩
    unfold s_wouldPassDays
    simp only [↓ob_eq e1, ↓ob_eq e2, ↓ob_eq e3]
  obtain ⟨μ', e, a, b⟩ := main
  exact ⟨μ', e, h.fr (f_s_wouldPassDays e) rfl, a, b⟩
/-- the reference's days, tried -/
theorem m_days_try {μ : Mem} {lv : Nat} {P : Pl} {S : Nat → Int32} (hk : PlOK P) (hS : StOK P S) (h : MCore μ lv P S) {n : Nat} (hn : n < 1000) : ∃ μ1 μ2, m_copies μ = some ((), μ1) ∧ m_goes (nI n) μ1 = some ((), μ2) ∧ MCore μ2 lv P S ∧ MoW μ2 lv P (daysS P (pSeed P) false S n) ∧ WaM μ2 P (daysS P (pSeed P) false S n) := by
  obtain ⟨μ1, e1, A1, W1, h52, h53, H1⟩ := m_copies_e hk hS h
  obtain ⟨μ2, e2, A2, W2⟩ := m_goes_e (lots := pSeed P) (still := false) hn hk hS A1 W1 h52 h53
  exact ⟨μ1, μ2, e1, e2, H1.fr (f_m_goes e2) rfl, A2, W2⟩
noncomputable def qGrownIn (P : Pl) (S : Nat → Int32) (x y : Int32) : Int32 := if inB x (pFd P) = true then (if inR y (nI 0) (nI 60) = true then daysS P (pSeed P) false S (cl y) (12 + cl x) else -1) else -1
noncomputable def qWideIn (P : Pl) (S : Nat → Int32) (x y : Int32) : Int32 := if inB x (pNo P) = true then (if inR y (nI 0) (nI 60) = true then daysS P (pSeed P) false S (cl y) (18 + cl x) else -1) else -1
theorem s_grownIn_e {μ : Mem} {p : Nat} {P : Pl} {S : Nat → Int32} (hk : PlOK P) (hS : StOK P S) (h : CCore μ p P S) (x y : Int32) : ∃ μ', s_grownIn x y μ = some (qGrownIn P S x y, μ') := by
  have k2 := hk.2.1
  have hp2 := h.p2
  have e0 := s_isField_e hk h x
  have e1 := s_isFrom_r y (nI 0) (nI 60) μ
  unfold s_grownIn qGrownIn
  rcases inB_cases x (show pFd P < 2147483648 by omega) with ⟨a, f, hf, e⟩ | ⟨a, -⟩
  · subst e
    rw [a] at e0
    cases a2 : inR y (nI 0) (nI 60) with
    | false =>
      rw [a2] at e1
      exact ⟨μ, by simp only [↓ob_eq e0, ↓ob_eq e1, a, b01I, nI_10, Bool.false_eq_true, ↓reduceIte]⟩
    | true =>
      rw [a2] at e1
      obtain ⟨n, -, hn, rfl⟩ := inR_t (by omega) (by omega) a2
      obtain ⟨μ2, e2, c2, a3, b3⟩ := s_wouldPass_e hk hS h (show n < 1000 by omega) (pSeed P) true
      have hg := a3.st.gr hf
      have e2' : s_wouldPassDays (nI n) (pSeed P) (nI 1) μ = some ((), μ2) := e2
      refine ⟨μ2, ?_⟩
      simp (disch := omega) only [↓ob_eq e0, ↓ob_eq e1, a, b01I, nI_10, h.pn, hp2, h.wo.pl.sd, ↓ob_eq e2', inB_nI, cl_nI, ↓reduceIte]
      exact congrArg (fun v => some (v, μ2)) hg
  · rw [a] at e0
    exact ⟨μ, by simp only [↓ob_eq e0, a, b01I, Bool.false_eq_true, ↓reduceIte]⟩
theorem m_grownIn_e {μ : Mem} {lv : Nat} {P : Pl} {S : Nat → Int32} (hk : PlOK P) (hS : StOK P S) (h : MCore μ lv P S) (x y : Int32) : ∃ μ', m_grownIn x y μ = some (qGrownIn P S x y, μ') := by
  have k2 := hk.2.1
  have e0 := m_isField_e hk h.pl x
  have e1 := in60 y μ
  unfold m_grownIn qGrownIn
  rcases inB_cases x (show pFd P < 2147483648 by omega) with ⟨a, f, hf, e⟩ | ⟨a, -⟩
  · subst e
    rw [a] at e0
    cases a2 : inR y (nI 0) (nI 60) with
    | false =>
      rw [a2] at e1
      exact ⟨μ, by simp only [↓ob_eq e0, ↓ob_eq e1, a, b01I, nI_10, Bool.false_eq_true, ↓reduceIte]⟩
    | true =>
      rw [a2] at e1
      obtain ⟨n, -, hn, rfl⟩ := inR_t (by omega) (by omega) a2
      obtain ⟨μ1, μ2, e2, e3, H2, A2, W2⟩ := m_days_try hk hS h (show n < 1000 by omega)
      refine ⟨μ2, ?_⟩
      simp (disch := omega) only [↓ob_eq e0, ↓ob_eq e1, a, b01I, nI_10, ↓ob_eq e2, ↓ob_eq e3, nI_add, inB_nI, cl_nI, A2.rw (12 + f) (by omega), ↓reduceIte]
  · rw [a] at e0
    exact ⟨μ, by simp only [↓ob_eq e0, a, b01I, Bool.false_eq_true, ↓reduceIte]⟩
theorem s_wideIn_e {μ : Mem} {p : Nat} {P : Pl} {S : Nat → Int32} (hk : PlOK P) (hS : StOK P S) (h : CCore μ p P S) (x y : Int32) : ∃ μ', s_wideIn x y μ = some (qWideIn P S x y, μ') := by
  have k3 := hk.2.2.1
  have hp2 := h.p2
  have e0 := s_isNotch_e hk h x
  have e1 := s_isFrom_r y (nI 0) (nI 60) μ
  unfold s_wideIn qWideIn
  rcases inB_cases x (show pNo P < 2147483648 by omega) with ⟨a, f, hf, e⟩ | ⟨a, -⟩
  · subst e
    rw [a] at e0
    cases a2 : inR y (nI 0) (nI 60) with
    | false =>
      rw [a2] at e1
      exact ⟨μ, by simp only [↓ob_eq e0, ↓ob_eq e1, a, b01I, nI_10, Bool.false_eq_true, ↓reduceIte]⟩
    | true =>
      rw [a2] at e1
      obtain ⟨n, -, hn, rfl⟩ := inR_t (by omega) (by omega) a2
      obtain ⟨μ2, e2, c2, a3, b3⟩ := s_wouldPass_e hk hS h (show n < 1000 by omega) (pSeed P) true
      have hg := a3.st.wi hf
      have e2' : s_wouldPassDays (nI n) (pSeed P) (nI 1) μ = some ((), μ2) := e2
      refine ⟨μ2, ?_⟩
      simp (disch := omega) only [↓ob_eq e0, ↓ob_eq e1, a, b01I, nI_10, h.pn, hp2, h.wo.pl.sd, ↓ob_eq e2', inB_nI, cl_nI, ↓reduceIte]
      exact congrArg (fun v => some (v, μ2)) hg
  · rw [a] at e0
    exact ⟨μ, by simp only [↓ob_eq e0, a, b01I, Bool.false_eq_true, ↓reduceIte]⟩
theorem m_wideIn_e {μ : Mem} {lv : Nat} {P : Pl} {S : Nat → Int32} (hk : PlOK P) (hS : StOK P S) (h : MCore μ lv P S) (x y : Int32) : ∃ μ', m_wideIn x y μ = some (qWideIn P S x y, μ') := by
  have k3 := hk.2.2.1
  have e0 := m_isNotch_e hk h.pl x
  have e1 := in60 y μ
  unfold m_wideIn qWideIn
  rcases inB_cases x (show pNo P < 2147483648 by omega) with ⟨a, f, hf, e⟩ | ⟨a, -⟩
  · subst e
    rw [a] at e0
    cases a2 : inR y (nI 0) (nI 60) with
    | false =>
      rw [a2] at e1
      exact ⟨μ, by simp only [↓ob_eq e0, ↓ob_eq e1, a, b01I, nI_10, Bool.false_eq_true, ↓reduceIte]⟩
    | true =>
      rw [a2] at e1
      obtain ⟨n, -, hn, rfl⟩ := inR_t (by omega) (by omega) a2
      obtain ⟨μ1, μ2, e2, e3, H2, A2, W2⟩ := m_days_try hk hS h (show n < 1000 by omega)
      have e4 := m_wideAt_e A2.rw (show f < 12 by omega)
      refine ⟨μ2, ?_⟩
      simp (disch := omega) only [↓ob_eq e0, ↓ob_eq e1, a, b01I, nI_10, ↓ob_eq e2, ↓ob_eq e3, ↓ob_eq e4, cl_nI, ↓reduceIte]
  · rw [a] at e0
    exact ⟨μ, by simp only [↓ob_eq e0, a, b01I, Bool.false_eq_true, ↓reduceIte]⟩

/-! days tried: grownIn, wideIn, crop, year -/
theorem in60 (y : Int32) (μ : Mem) : m_isLong y μ = some (b01I (inR y (nI 0) (nI 60)), μ) := by
  unfold m_isLong
  simp only [↓ob_eq (m_in_r y (nI 0) (nI 60) μ), b01I_or, ↓reduceIte]
theorem s_wouldPass_e {μ : Mem} {p : Nat} {P : Pl} {S : Nat → Int32} (hk : PlOK P) (hS : StOK P S) (h : CCore μ p P S) {n : Nat} (hn : n < 1000) (seed : Int32) (si : Bool) : ∃ μ', s_wouldPassDays (nI n) seed (b01I si) μ = some ((), μ') ∧ CCore μ' p P S ∧ WoC μ' 1 p P (daysS P seed (!si) S n) ∧ WaC μ' 1 P (daysS P seed (!si) S n) := by
  have main : ∃ μ', s_wouldPassDays (nI n) seed (b01I si) μ = some ((), μ') ∧ WoC μ' 1 p P (daysS P seed (!si) S n) ∧ WaC μ' 1 P (daysS P seed (!si) S n) := by
    obtain ⟨μ1, e1, c1, a1⟩ := copy1_e hk h
    obtain ⟨μ2, e2, a2, b2⟩ := wo_settle_e hk hS a1
    obtain ⟨μ3, e3, a3, b3⟩ := wo_passDays_e (seed := seed) (si := si) hn hk hS a2 b2
    refine ⟨μ3, ?_, a3, b3⟩
    unfold s_wouldPassDays
    simp only [↓ob_eq e1, ↓ob_eq e2, ↓ob_eq e3]
  obtain ⟨μ', e, a, b⟩ := main
  exact ⟨μ', e, h.fr (f_s_wouldPassDays e) rfl, a, b⟩
/-- the reference's days, tried -/
theorem m_days_try {μ : Mem} {lv : Nat} {P : Pl} {S : Nat → Int32} (hk : PlOK P) (hS : StOK P S) (h : MCore μ lv P S) {n : Nat} (hn : n < 1000) : ∃ μ1 μ2, m_copies μ = some ((), μ1) ∧ m_goes (nI n) μ1 = some ((), μ2) ∧ MCore μ2 lv P S ∧ MoW μ2 lv P (daysS P (pSeed P) false S n) ∧ WaM μ2 P (daysS P (pSeed P) false S n) := by
  obtain ⟨μ1, e1, A1, W1, h52, h53, H1⟩ := m_copies_e hk hS h
  obtain ⟨μ2, e2, A2, W2⟩ := m_goes_e (lots := pSeed P) (still := false) hn hk hS A1 W1 h52 h53
  exact ⟨μ1, μ2, e1, e2, H1.fr (f_m_goes e2) rfl, A2, W2⟩
noncomputable def qGrownIn (P : Pl) (S : Nat → Int32) (x y : Int32) : Int32 := if inB x (pFd P) = true then (if inR y (nI 0) (nI 60) = true then daysS P (pSeed P) false S (cl y) (12 + cl x) else -1) else -1
noncomputable def qWideIn (P : Pl) (S : Nat → Int32) (x y : Int32) : Int32 := if inB x (pNo P) = true then (if inR y (nI 0) (nI 60) = true then daysS P (pSeed P) false S (cl y) (18 + cl x) else -1) else -1
theorem s_grownIn_e {μ : Mem} {p : Nat} {P : Pl} {S : Nat → Int32} (hk : PlOK P) (hS : StOK P S) (h : CCore μ p P S) (x y : Int32) : ∃ μ', s_grownIn x y μ = some (qGrownIn P S x y, μ') := by
  have k2 := hk.2.1
  have hp2 := h.p2
  have e0 := s_isField_e hk h x
  have e1 := s_isFrom_r y (nI 0) (nI 60) μ
  unfold s_grownIn qGrownIn
  rcases inB_cases x (show pFd P < 2147483648 by omega) with ⟨a, f, hf, e⟩ | ⟨a, -⟩
  · subst e
    rw [a] at e0
    cases a2 : inR y (nI 0) (nI 60) with
    | false =>
      rw [a2] at e1
      exact ⟨μ, by simp only [↓ob_eq e0, ↓ob_eq e1, a, b01I, nI_10, Bool.false_eq_true, ↓reduceIte]⟩
    | true =>
      rw [a2] at e1
      obtain ⟨n, -, hn, rfl⟩ := inR_t (by omega) (by omega) a2
      obtain ⟨μ2, e2, c2, a3, b3⟩ := s_wouldPass_e hk hS h (show n < 1000 by omega) (pSeed P) true
      have hg := a3.st.gr hf
      have e2' : s_wouldPassDays (nI n) (pSeed P) (nI 1) μ = some ((), μ2) := e2
      refine ⟨μ2, ?_⟩
      simp (disch := omega) only [↓ob_eq e0, ↓ob_eq e1, a, b01I, nI_10, h.pn, hp2, h.wo.pl.sd, ↓ob_eq e2', inB_nI, cl_nI, ↓reduceIte]
      exact congrArg (fun v => some (v, μ2)) hg
  · rw [a] at e0
    exact ⟨μ, by simp only [↓ob_eq e0, a, b01I, Bool.false_eq_true, ↓reduceIte]⟩
theorem m_grownIn_e {μ : Mem} {lv : Nat} {P : Pl} {S : Nat → Int32} (hk : PlOK P) (hS : StOK P S) (h : MCore μ lv P S) (x y : Int32) : ∃ μ', m_grownIn x y μ = some (qGrownIn P S x y, μ') := by
  have k2 := hk.2.1
  have e0 := m_isField_e hk h.pl x
  have e1 := in60 y μ
  unfold m_grownIn qGrownIn
  rcases inB_cases x (show pFd P < 2147483648 by omega) with ⟨a, f, hf, e⟩ | ⟨a, -⟩
  · subst e
    rw [a] at e0
    cases a2 : inR y (nI 0) (nI 60) with
    | false =>
      rw [a2] at e1
      exact ⟨μ, by simp only [↓ob_eq e0, ↓ob_eq e1, a, b01I, nI_10, Bool.false_eq_true, ↓reduceIte]⟩
    | true =>
      rw [a2] at e1
      obtain ⟨n, -, hn, rfl⟩ := inR_t (by omega) (by omega) a2
      obtain ⟨μ1, μ2, e2, e3, H2, A2, W2⟩ := m_days_try hk hS h (show n < 1000 by omega)
      refine ⟨μ2, ?_⟩
      simp (disch := omega) only [↓ob_eq e0, ↓ob_eq e1, a, b01I, nI_10, ↓ob_eq e2, ↓ob_eq e3, nI_add, inB_nI, cl_nI, A2.rw (12 + f) (by omega), ↓reduceIte]
  · rw [a] at e0
    exact ⟨μ, by simp only [↓ob_eq e0, a, b01I, Bool.false_eq_true, ↓reduceIte]⟩
theorem s_wideIn_e {μ : Mem} {p : Nat} {P : Pl} {S : Nat → Int32} (hk : PlOK P) (hS : StOK P S) (h : CCore μ p P S) (x y : Int32) : ∃ μ', s_wideIn x y μ = some (qWideIn P S x y, μ') := by
  have k3 := hk.2.2.1
  have hp2 := h.p2
  have e0 := s_isNotch_e hk h x
  have e1 := s_isFrom_r y (nI 0) (nI 60) μ
  unfold s_wideIn qWideIn
  rcases inB_cases x (show pNo P < 2147483648 by omega) with ⟨a, f, hf, e⟩ | ⟨a, -⟩
  · subst e
    rw [a] at e0
    cases a2 : inR y (nI 0) (nI 60) with
    | false =>
      rw [a2] at e1
      exact ⟨μ, by simp only [↓ob_eq e0, ↓ob_eq e1, a, b01I, nI_10, Bool.false_eq_true, ↓reduceIte]⟩
    | true =>
      rw [a2] at e1
      obtain ⟨n, -, hn, rfl⟩ := inR_t (by omega) (by omega) a2
      obtain ⟨μ2, e2, c2, a3, b3⟩ := s_wouldPass_e hk hS h (show n < 1000 by omega) (pSeed P) true
      have hg := a3.st.wi hf
      have e2' : s_wouldPassDays (nI n) (pSeed P) (nI 1) μ = some ((), μ2) := e2
      refine ⟨μ2, ?_⟩
      simp (disch := omega) only [↓ob_eq e0, ↓ob_eq e1, a, b01I, nI_10, h.pn, hp2, h.wo.pl.sd, ↓ob_eq e2', inB_nI, cl_nI, ↓reduceIte]
      exact congrArg (fun v => some (v, μ2)) hg
  · rw [a] at e0
    exact ⟨μ, by simp only [↓ob_eq e0, a, b01I, Bool.false_eq_true, ↓reduceIte]⟩
theorem m_wideIn_e {μ : Mem} {lv : Nat} {P : Pl} {S : Nat → Int32} (hk : PlOK P) (hS : StOK P S) (h : MCore μ lv P S) (x y : Int32) : ∃ μ', m_wideIn x y μ = some (qWideIn P S x y, μ') := by
  have k3 := hk.2.2.1
  have e0 := m_isNotch_e hk h.pl x
  have e1 := in60 y μ
  unfold m_wideIn qWideIn
  rcases inB_cases x (show pNo P < 2147483648 by omega) with ⟨a, f, hf, e⟩ | ⟨a, -⟩
  · subst e
    rw [a] at e0
    cases a2 : inR y (nI 0) (nI 60) with
    | false =>
      rw [a2] at e1
      exact ⟨μ, by simp only [↓ob_eq e0, ↓ob_eq e1, a, b01I, nI_10, Bool.false_eq_true, ↓reduceIte]⟩
    | true =>
      rw [a2] at e1
      obtain ⟨n, -, hn, rfl⟩ := inR_t (by omega) (by omega) a2
      obtain ⟨μ1, μ2, e2, e3, H2, A2, W2⟩ := m_days_try hk hS h (show n < 1000 by omega)
      have e4 := m_wideAt_e A2.rw (show f < 12 by omega)
      refine ⟨μ2, ?_⟩
      simp (disch := omega) only [↓ob_eq e0, ↓ob_eq e1, a, b01I, nI_10, ↓ob_eq e2, ↓ob_eq e3, ↓ob_eq e4, cl_nI, ↓reduceIte]
  · rw [a] at e0
    exact ⟨μ, by simp only [↓ob_eq e0, a, b01I, Bool.false_eq_true, ↓reduceIte]⟩
/-! crop, year -/
theorem sumI_sub (n : Nat) (f g : Nat → Int32) : sumI n (fun i => f i - g i) = sumI n f - sumI n g := by
  induction n with
  | zero => exact (by decide : (nI 0 : Int32) = nI 0 - nI 0)
  | succ n ih =>
    rw [sumI_s, sumI_s, sumI_s, ih]
    grind
noncomputable def qCrop (P : Pl) (S : Nat → Int32) (y : Int32) : Int32 := if inR y (nI 0) (nI 60) = true then grAll P (daysS P (pSeed P) true S (cl y)) - grAll P S else -1
theorem s_crop_e {μ : Mem} {p : Nat} {P : Pl} {S : Nat → Int32} (hk : PlOK P) (hS : StOK P S) (h : CCore μ p P S) (y : Int32) : ∃ μ', s_crop y μ = some (qCrop P S y, μ') := by
  have hp2 := h.p2
  have e1 := s_isFrom_r y (nI 0) (nI 60) μ
  unfold s_crop qCrop
  cases a2 : inR y (nI 0) (nI 60) with
  | false =>
    rw [a2] at e1
    exact ⟨μ, by simp only [↓ob_eq e1, b01I, Bool.false_eq_true, ↓reduceIte]⟩
  | true =>
    rw [a2] at e1
    obtain ⟨n, -, hn, rfl⟩ := inR_t (by omega) (by omega) a2
    obtain ⟨μ2, e2, c2, a3, b3⟩ := s_wouldPass_e hk hS h (show n < 1000 by omega) (pSeed P) false
    have e2' : s_wouldPassDays (nI n) (pSeed P) (nI 0) μ = some ((), μ2) := e2
    have e3 := wo_grownOfAll_e hk a3
    have e4 := wo_grownOfAll_e hk c2.wo
    refine ⟨μ2, ?_⟩
    simp (disch := omega) only [↓ob_eq e1, b01I, nI_10, h.pn, hp2, h.wo.pl.sd, ↓ob_eq e2', ↓ob_eq e3, ↓ob_eq e4, cl_nI, Bool.not_false, ↓reduceIte]
theorem m_crop_e {μ : Mem} {lv : Nat} {P : Pl} {S : Nat → Int32} (hk : PlOK P) (hS : StOK P S) (h : MCore μ lv P S) (y : Int32) : ∃ μ', m_crop y μ = some (qCrop P S y, μ') := by
  have k2 := hk.2.1
  have e1 := in60 y μ
  unfold m_crop qCrop
  cases a2 : inR y (nI 0) (nI 60) with
  | false =>
    rw [a2] at e1
    exact ⟨μ, by simp only [↓ob_eq e1, b01I, Bool.false_eq_true, ↓reduceIte]⟩
  | true =>
    rw [a2] at e1
    obtain ⟨n, -, hn, rfl⟩ := inR_t (by omega) (by omega) a2
    obtain ⟨μ1, e2, A1, W1, h52, h53, H1⟩ := m_copies_e hk hS h
    have g1 : Fr [(55, none, some 53)] μ1 (stI μ1 55 0 53 (nI 1)) := Fr.stI (Fr.rf _ _) (iT 0 rfl inA_ns)
    have h53' : mI (stI μ1 55 0 53 (nI 1)) 55 0 53 = b01I true := by simp [mI_stI, b01I]
    have h52' : mI (stI μ1 55 0 53 (nI 1)) 55 0 52 = pSeed P := (g1.I rfl).trans h52
    obtain ⟨μ3, e3, A3, W3⟩ := m_goes_e (lots := pSeed P) (still := true) (show n < 1000 by omega) hk hS (A1.fo g1 rfl rfl) (W1.fo g1 rfl rfl rfl) h52' h53'
    have H3 : MCore μ3 lv P S := (H1.fr g1 rfl).fr (f_m_goes e3) rfl
    have hl2 := H3.pl.l2
    refine ⟨μ3, ?_⟩
    simp (disch := omega) only [↓ob_eq e1, b01I, nI_10, ↓ob_eq e2, ↓ob_eq e3, cl_nI, ↓reduceIte]
    unfold grAll
    rw [← sumI_sub]
    refine fixN_up (fun i (self : Int32 → Int32 → Mem → Option (Int32 × Mem)) => self (sumI i (fun f => daysS P (pSeed P) true S n (12 + f) - S (12 + f))) (nI i) μ3 = some (sumI (pFd P) (fun f => daysS P (pSeed P) true S n (12 + f) - S (12 + f)), μ3)) (pFd P) ?_ ?_ 60000 0 (by omega) (by omega)
    · intro i self hi ih
      rw [sumI_s] at ih
      unfold m_crop_B27
      simp (disch := omega) only [H3.pl.lv, H3.pl.fd, inB_nI, cl_nI, nI_leF, nI_add, ↓vb_e, A3.rw (12 + i) (by omega), H3.nw (12 + i) (by omega), ↓reduceIte]
      exact ih
    · intro self
      unfold m_crop_B27
      simp (disch := omega) only [H3.pl.lv, H3.pl.fd, inB_nI, cl_nI, nI_leT, ↓reduceIte]
noncomputable def yrN (P : Pl) (S : Nat → Int32) (f n : Nat) : Nat → Nat
  | 0 => 0
  | i + 1 => yrN P S f n i + if lack P (daysS P (pSeed P + nI i) false S n) f = true then 1 else 0
theorem yrN_le (P : Pl) (S : Nat → Int32) (f n : Nat) : ∀ i, yrN P S f n i ≤ i
  | 0 => Nat.le_refl _
  | i + 1 => by
    have := yrN_le P S f n i
    show yrN P S f n i + (if _ then 1 else 0) ≤ i + 1
    split <;> omega
noncomputable def qYear (P : Pl) (S : Nat → Int32) (x y z : Int32) : Int32 := if inB x (pFd P) = true then (if inR y (nI 0) (nI 60) = true then (if inR z (nI 1) (nI 20) = true then nI (yrN P S (cl x) (cl y) (cl z)) else -1) else -1) else -1
theorem s_year_e {μ : Mem} {p : Nat} {P : Pl} {S : Nat → Int32} (hk : PlOK P) (hS : StOK P S) (h : CCore μ p P S) (x y z : Int32) : ∃ μ', s_year x y z μ = some (qYear P S x y z, μ') := by
  have k2 := hk.2.1
  have e0 := s_isField_e hk h x
  have e1 := s_isFrom_r y (nI 0) (nI 60) μ
  have e2 := s_isFrom_r z (nI 1) (nI 20) μ
  unfold s_year qYear
  rcases inB_cases x (show pFd P < 2147483648 by omega) with ⟨a, f, hf, e⟩ | ⟨a, -⟩
  · subst e
    rw [a] at e0
    cases a2 : inR y (nI 0) (nI 60) with
    | false =>
      rw [a2] at e1
      exact ⟨μ, by simp only [↓ob_eq e0, ↓ob_eq e1, a, b01I, nI_10, Bool.false_eq_true, ↓reduceIte]⟩
    | true =>
      rw [a2] at e1
      obtain ⟨n, -, hn, rfl⟩ := inR_t (by omega) (by omega) a2
      cases a3 : inR z (nI 1) (nI 20) with
      | false =>
        rw [a3] at e2
        exact ⟨μ, by simp only [↓ob_eq e0, ↓ob_eq e1, ↓ob_eq e2, a, b01I, nI_10, Bool.false_eq_true, ↓reduceIte]⟩
      | true =>
        rw [a3] at e2
        obtain ⟨m, -, hm, rfl⟩ := inR_t (by omega) (by omega) a3
        simp (disch := omega) only [↓ob_eq e0, ↓ob_eq e1, ↓ob_eq e2, a, b01I, nI_10, cl_nI, ↓reduceIte]
        refine fixN_up (fun i (self : Int32 → Int32 → Mem → Option (Int32 × Mem)) => ∀ μ, CCore μ p P S → ∃ μ', self (nI (yrN P S f n i)) (nI i) μ = some (nI (yrN P S f n m), μ')) m ?_ ?_ 60000 0 (by omega) (by omega) μ h
        · intro i self hi ih μ h
          have hp2 := h.p2
          obtain ⟨μ2, e2, c2, a3, b3⟩ := s_wouldPass_e hk hS h (show n < 1000 by omega) (pSeed P + nI i) true
          have e2' : s_wouldPassDays (nI n) (pSeed P + nI i) (nI 1) μ = some ((), μ2) := e2
          obtain ⟨μ4, e4⟩ := wo_lacks_e hk a3 b3 hf
          have c4 := c2.fr (f_wo_lacks e4) rfl
          have hy := yrN_le P S f n i
          unfold s_year_B36
          have ey : yrN P S f n (i + 1) = yrN P S f n i + if lack P (daysS P (pSeed P + nI i) false S n) f = true then 1 else 0 := rfl
          cases c : lack P (daysS P (pSeed P + nI i) false S n) f with
          | false =>
            rw [show lack P (daysS P (pSeed P + nI i) (!true) S n) f = false from c] at e4
            rw [c, if_neg (by decide), Nat.add_zero] at ey
            rw [ey] at ih
            simp (disch := omega) only [nI_leF, h.pn, hp2, h.wo.pl.sd, ↓ob_eq e2', ↓ob_eq e4, b01I, nI_add, Bool.false_eq_true, ↓reduceIte]
            exact ih _ c4
          | true =>
            rw [show lack P (daysS P (pSeed P + nI i) (!true) S n) f = true from c] at e4
            rw [c, if_pos rfl] at ey
            rw [ey] at ih
            simp (disch := omega) only [nI_leF, h.pn, hp2, h.wo.pl.sd, ↓ob_eq e2', ↓ob_eq e4, b01I, nI_10, nI_add, ↓reduceIte]
            exact ih _ c4
        · intro self μ h
          unfold s_year_B36
          simp (disch := omega) only [nI_leT, ↓reduceIte]
          exact ⟨μ, rfl⟩
  · rw [a] at e0
    exact ⟨μ, by simp only [↓ob_eq e0, a, b01I, Bool.false_eq_true, ↓reduceIte]⟩
theorem m_year_e {μ : Mem} {lv : Nat} {P : Pl} {S : Nat → Int32} (hk : PlOK P) (hS : StOK P S) (h : MCore μ lv P S) (x y z : Int32) : ∃ μ', m_year x y z μ = some (qYear P S x y z, μ') := by
  have k2 := hk.2.1
  have e0 := m_isField_e hk h.pl x
  have e1 := in60 y μ
  have e2 := m_in_r z (nI 1) (nI 20) μ
  unfold m_year qYear
  rcases inB_cases x (show pFd P < 2147483648 by omega) with ⟨a, f, hf, e⟩ | ⟨a, -⟩
  · subst e
    rw [a] at e0
    cases a2 : inR y (nI 0) (nI 60) with
    | false =>
      rw [a2] at e1
      exact ⟨μ, by simp only [↓ob_eq e0, ↓ob_eq e1, a, b01I, nI_10, Bool.false_eq_true, ↓reduceIte]⟩
    | true =>
      rw [a2] at e1
      obtain ⟨n, -, hn, rfl⟩ := inR_t (by omega) (by omega) a2
      cases a3 : inR z (nI 1) (nI 20) with
      | false =>
        rw [a3] at e2
        exact ⟨μ, by simp only [↓ob_eq e0, ↓ob_eq e1, ↓ob_eq e2, a, b01I, nI_10, Bool.false_eq_true, ↓reduceIte]⟩
      | true =>
        rw [a3] at e2
        obtain ⟨m, -, hm, rfl⟩ := inR_t (by omega) (by omega) a3
        simp (disch := omega) only [↓ob_eq e0, ↓ob_eq e1, ↓ob_eq e2, a, b01I, nI_10, cl_nI, ↓reduceIte]
        refine fixN_up (fun i (self : Int32 → Int32 → Mem → Option (Int32 × Mem)) => ∀ μ, MCore μ lv P S → ∃ μ', self (nI (yrN P S f n i)) (nI i) μ = some (nI (yrN P S f n m), μ')) m ?_ ?_ 60000 0 (by omega) (by omega) μ h
        · intro i self hi ih μ h
          obtain ⟨μ1, e2, A1, W1, h52, h53, H1⟩ := m_copies_e hk hS h
          have g1 : Fr [(55, none, some 52)] μ1 (stI μ1 55 0 52 (pSeed P + nI i)) := Fr.stI (Fr.rf _ _) (iT 0 rfl inA_ns)
          have h52' : mI (stI μ1 55 0 52 (pSeed P + nI i)) 55 0 52 = pSeed P + nI i := by simp [mI_stI]
          have h53' : mI (stI μ1 55 0 52 (pSeed P + nI i)) 55 0 53 = b01I false := (g1.I rfl).trans h53
          obtain ⟨μ3, e3, A3, W3⟩ := m_goes_e (lots := pSeed P + nI i) (still := false) (show n < 1000 by omega) hk hS (A1.fo g1 rfl rfl) (W1.fo g1 rfl rfl rfl) h52' h53'
          have H3 : MCore μ3 lv P S := (H1.fr g1 rfl).fr (f_m_goes e3) rfl
          obtain ⟨μ4, e4⟩ := m_isLacking_e hk (daysS_ok hk hS n) A3 W3 hf
          have H4 := H3.fr (f_m_isLacking e4) rfl
          have hy := yrN_le P S f n i
          unfold m_year_B33
          have ey : yrN P S f n (i + 1) = yrN P S f n i + if lack P (daysS P (pSeed P + nI i) false S n) f = true then 1 else 0 := rfl
          cases c : lack P (daysS P (pSeed P + nI i) false S n) f with
          | false =>
            rw [c] at e4
            rw [c, if_neg (by decide), Nat.add_zero] at ey
            rw [ey] at ih
            simp (disch := omega) only [nI_leF, ↓ob_eq e2, h52, ↓ob_eq e3, ↓ob_eq e4, b01I, nI_add, Bool.false_eq_true, ↓reduceIte]
            exact ih _ H4
          | true =>
            rw [c] at e4
            rw [c, if_pos rfl] at ey
            rw [ey] at ih
            simp (disch := omega) only [nI_leF, ↓ob_eq e2, h52, ↓ob_eq e3, ↓ob_eq e4, b01I, nI_10, nI_add, ↓reduceIte]
            exact ih _ H4
        · intro self μ h
          unfold m_year_B33
          simp (disch := omega) only [nI_leT, ↓reduceIte]
          exact ⟨μ, rfl⟩
  · rw [a] at e0
    exact ⟨μ, by simp only [↓ob_eq e0, a, b01I, Bool.false_eq_true, ↓reduceIte]⟩

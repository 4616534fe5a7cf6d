/-! tempted -/
noncomputable def mor (P : Pl) (S : Nat → Int32) (l f : Nat) : Bool := anyB (2 * pNo P) (fun s => decide (pLog P (s / 2) = l) && decide (feA P S s f = nI 1))
noncomputable def tmN (P : Pl) (S : Nat → Int32) (f n : Nat) : Bool := decide (pTo P n = 10 + f) && (decide (0 < sW S n) && mor P S (pLog P n) f)
noncomputable def tmB (P : Pl) (S : Nat → Int32) (f : Nat) : Bool := anyB (pNo P) (tmN P S f)
noncomputable def qTempted (P : Pl) (S : Nat → Int32) : Int32 := bitI 6 (tmB P S)
theorem s_more_e {μ : Mem} {p : Nat} {P : Pl} {S : Nat → Int32} (hk : PlOK P) (h : CCore μ p P S) (ha : ∀ s f, s < 24 → f < pFd P → mI μ 53 s f = feA P S s f) {l f : Nat} (hl : l < 4) (hf : f < pFd P) : s_wouldHaveMoreAt (nI l) (nI f) μ = some (b01I (mor P S l f), μ) := by
  obtain ⟨k1, k2, k3, k4, k5, -⟩ := hk
  have hp2 := h.p2
  refine fixN_up (fun i (self : Int32 → Mem → Option (Int32 × Mem)) => (∀ s, s < i → (decide (pLog P (s / 2) = l) && decide (feA P S s f = nI 1)) = false) → self (nI i) μ = some (b01I (mor P S l f), μ)) (2 * pNo P) ?_ ?_ 60000 0 (by omega) (by omega) (fun f hf => by omega)
  · intro i self hi ih hq
    have h4 := k4 (i / 2) (by omega)
    have hlo := h.wo.pl.lo (show i / 2 < pNo P by omega)
    have ha1 := ha i f (by omega) hf
    unfold s_wouldHaveMoreAt_B2
    by_cases c : pLog P (i / 2) = l
    · by_cases c2 : feA P S i f = nI 1
      · simp (disch := omega) only [h.pn, hp2, h.wo.pl.no, pk_mul, nI_leF, nI_div2, inB_nI, cl_nI, hlo, c, ha1, c2, ↓reduceIte]
        have : mor P S l f = true := anyB_iff.mpr ⟨i, hi, by rw [decide_eq_true c, decide_eq_true c2]; rfl⟩
        rw [this]; rfl
      · simp (disch := omega) only [h.pn, hp2, h.wo.pl.no, pk_mul, nI_leF, nI_div2, inB_nI, cl_nI, hlo, c, ha1, c2, nI_add, ↓reduceIte]
        exact ih (fun s hs => by
          by_cases e : s = i
          · subst e; rw [decide_eq_false c2, Bool.and_false]
          · exact hq s (by omega))
    · simp (disch := omega) only [h.pn, hp2, h.wo.pl.no, pk_mul, nI_leF, nI_div2, inB_nI, cl_nI, hlo, nI_eqF, nI_add, ↓reduceIte]
      exact ih (fun s hs => by
        by_cases e : s = i
        · subst e; rw [decide_eq_false c, Bool.false_and]
        · exact hq s (by omega))
  · intro self hq
    unfold s_wouldHaveMoreAt_B2
    simp (disch := omega) only [h.pn, hp2, h.wo.pl.no, pk_mul, nI_leT, ↓reduceIte]
    have : mor P S l f = false := anyB_f hq
    rw [this]; rfl
theorem inB_low {t n : Nat} (h : t < 4) : inB (nI t - nI 10) n = false := by
  rcases (show t = 0 ∨ t = 1 ∨ t = 2 ∨ t = 3 by omega) with rfl | rfl | rfl | rfl <;> rfl
theorem s_tempted_e {μ : Mem} {p : Nat} {P : Pl} {S : Nat → Int32} (hk : PlOK P) (hS : StOK P S) (h : CCore μ p P S) : ∃ μ', s_tempted μ = some (qTempted P S, μ') := by
  have hk0 := hk
  obtain ⟨k1, k2, k3, k4, k5, -⟩ := hk
  obtain ⟨μ1, e1, c1, a1⟩ := s_feelAll_e hk0 hS h
  have hp2 := c1.p2
  unfold s_tempted
  simp only [↓ob_eq e1]
  refine ⟨μ1, ?_⟩
  refine fixN_up (fun i (self : Int32 → Int32 → Mem → Option (Int32 × Mem)) => self (bitI 6 (fun f => anyB i (tmN P S f))) (nI i) μ1 = some (qTempted P S, μ1)) (pNo P) ?_ ?_ 60000 0 (by omega) (by omega)
  · intro i self hi ih
    have h4 := k4 i hi
    have h5 := k5 i hi
    obtain ⟨w1, w2⟩ := hS.1 i hi
    have hlo := c1.wo.pl.lo hi
    have hto := c1.wo.pl.to hi
    have hwi := c1.wo.st.wi hi
    rw [w1] at hwi
    -- nothing is added
    have no : (∀ f, f < 6 → tmN P S f i = false) → self (bitI 6 (fun f => anyB i (tmN P S f))) (nI (i + 1)) μ1 = some (qTempted P S, μ1) := fun z => by
      rw [← ih]
      exact congrArg (fun q => self q (nI (i + 1)) μ1) (bitI_c (fun f hf => by rw [anyB_s, z f hf, Bool.or_false]))
    unfold s_tempted_B8
    by_cases c : 10 ≤ pTo P i ∧ pTo P i < 10 + pFd P
    · have hv : nI (pTo P i) - nI 10 = nI (pTo P i - 10) := pk_sub c.1
      have e2 := s_isField_e hk0 c1 (nI (pTo P i - 10))
      rw [inB_nI (show pTo P i - 10 < pFd P by omega) (by omega)] at e2
      by_cases z : sW S i = 0
      · simp (disch := omega) only [c1.pn, hp2, c1.wo.pl.no, nI_leF, nI_leT, inB_nI, cl_nI, hto, ↓vb_e, hv, ↓ob_eq e2, b01I, nI_10, hwi, z, nI_add, ↓reduceIte]
        exact no (fun f _ => by unfold tmN; rw [z]; simp)
      · have e3 := s_more_e hk0 c1 a1 (l := pLog P i) (by omega) (show pTo P i - 10 < pFd P by omega)
        cases m : mor P S (pLog P i) (pTo P i - 10) with
        | false =>
          rw [m] at e3
          simp (disch := omega) only [c1.pn, hp2, c1.wo.pl.no, nI_leF, inB_nI, cl_nI, hto, ↓vb_e, hv, ↓ob_eq e2, b01I, nI_10, hwi, hlo, ↓ob_eq e3, nI_add, Bool.false_eq_true, ↓reduceIte]
          exact no (fun f _ => by
            unfold tmN
            by_cases q : pTo P i = 10 + f
            · rw [show f = pTo P i - 10 by omega, m]; simp
            · rw [decide_eq_false q, Bool.false_and])
        | true =>
          rw [m] at e3
          simp (disch := omega) only [c1.pn, hp2, c1.wo.pl.no, nI_leF, inB_nI, cl_nI, hto, ↓vb_e, hv, ↓ob_eq e2, b01I, nI_10, hwi, hlo, ↓ob_eq e3, nI_add, orN, ↓reduceIte]
          rw [← ih]
          refine congrArg (fun q => self q (nI (i + 1)) μ1) (bitI_c (fun f hf => ?_))
          show (anyB i (tmN P S f) || f == pTo P i - 10) = anyB (i + 1) (tmN P S f)
          have ez : (f == pTo P i - 10) = tmN P S f i := by
            unfold tmN
            by_cases q : pTo P i = 10 + f
            · rw [show pTo P i - 10 = f by omega] at m
              rw [m, decide_eq_true q, decide_eq_true (show 0 < sW S i by omega), beq_iff_eq.mpr (show f = pTo P i - 10 by omega)]
              rfl
            · rw [decide_eq_false q, Bool.false_and]
              exact beq_eq_false_iff_ne.mpr (by omega)
          rw [anyB_s, ez]
    · have e2 := s_isField_e hk0 c1 (nI (pTo P i) - nI 10)
      have hin : inB (nI (pTo P i) - nI 10) (pFd P) = false := by
        rcases h5 with z | z | z
        · exact inB_low (by omega)
        · exact absurd z c
        · rw [z]; exact inB_nIF (i := 10) (by omega) (by omega)
      rw [hin] at e2
      simp (disch := omega) only [c1.pn, hp2, c1.wo.pl.no, nI_leF, inB_nI, cl_nI, hto, ↓vb_e, ↓ob_eq e2, b01I, nI_add, Bool.false_eq_true, ↓reduceIte]
      exact no (fun f hf => by
        unfold tmN
        rw [decide_eq_false (show ¬ pTo P i = 10 + f from fun q => ?_), Bool.false_and]
        rcases h5 with z | z | z
        · omega
        · exact c z
        · omega)
  · intro self
    unfold s_tempted_B8
    simp (disch := omega) only [c1.pn, hp2, c1.wo.pl.no, nI_leT, ↓reduceIte]
    rfl
/-! the reference's tempted -/
def led (P : Pl) (S : Nat → Int32) (l f : Nat) : Bool := anyB (pNo P) (fun n => decide (pLog P n = l) && (decide (pTo P n = 10 + f) && decide (0 < sW S n)))
theorem m_isLed_e {μ : Mem} {lv : Nat} {P : Pl} {S : Nat → Int32} (hk : PlOK P) (hS : StOK P S) (h : MCore μ lv P S) {l f : Nat} (hl : l < 4) (hf : f < 6) : m_isLed (nI l) (nI f) μ = some (b01I (led P S l f), μ) := by
  have hk0 := hk
  obtain ⟨k1, k2, k3, k4, k5, -⟩ := hk
  have hl2 := h.pl.l2
  refine fixN_up (fun i (self : Int32 → Mem → Option (Int32 × Mem)) => (∀ n, n < i → (decide (pLog P n = l) && (decide (pTo P n = 10 + f) && decide (0 < sW S n))) = false) → self (nI i) μ = some (b01I (led P S l f), μ)) (pNo P) ?_ ?_ 60000 0 (by omega) (by omega) (fun f hf => by omega)
  · intro i self hi ih hq
    have h4 := k4 i hi
    have h5 := k5 i hi
    obtain ⟨w1, w2⟩ := hS.1 i hi
    have e1 := m_fromLog_e hk0 h.pl hi
    have e2 := m_toWhere_e hk0 h.pl hi
    have nw := h.nw (18 + i) (by omega)
    rw [w1] at nw
    have go : (decide (pLog P i = l) && (decide (pTo P i = 10 + f) && decide (0 < sW S i))) = false → self (nI (i + 1)) μ = some (b01I (led P S l f), μ) := fun z => ih (fun n hn => by
      by_cases e : n = i
      · subst e; exact z
      · exact hq n (by omega))
    unfold m_isLed_B2
    by_cases c : pLog P i = l
    · rw [c] at e1
      by_cases c2 : pTo P i = 10 + f
      · rw [c2] at e2
        by_cases z : sW S i = 0
        · simp (disch := omega) only [h.pl.lv, h.pl.no, inB_nI, cl_nI, nI_leF, nI_leT, ↓ob_eq e1, ↓ob_eq e2, nI_add, nw, z, ↓reduceIte]
          exact go (by rw [z]; simp)
        · simp (disch := omega) only [h.pl.lv, h.pl.no, inB_nI, cl_nI, nI_leF, ↓ob_eq e1, ↓ob_eq e2, nI_add, nw, ↓reduceIte]
          have : led P S l f = true := anyB_iff.mpr ⟨i, hi, by rw [decide_eq_true c, decide_eq_true c2, decide_eq_true (show 0 < sW S i by omega)]; rfl⟩
          rw [this]; rfl
      · simp (disch := omega) only [h.pl.lv, h.pl.no, inB_nI, cl_nI, nI_leF, ↓ob_eq e1, ↓ob_eq e2, nI_add, nI_eqF, ↓reduceIte]
        exact go (by rw [decide_eq_false c2]; simp)
    · simp (disch := omega) only [h.pl.lv, h.pl.no, inB_nI, cl_nI, nI_leF, ↓ob_eq e1, nI_add, nI_eqF, ↓reduceIte]
      exact go (by rw [decide_eq_false c]; simp)
  · intro self hq
    unfold m_isLed_B2
    simp (disch := omega) only [h.pl.lv, h.pl.no, inB_nI, cl_nI, nI_leT, ↓reduceIte]
    have : led P S l f = false := anyB_f hq
    rw [this]; rfl
noncomputable def tmS (P : Pl) (S : Nat → Int32) (f s : Nat) : Bool := decide (f < pFd P) && (canS P S s && (decide (fe P S (stS S s) f = nI 1) && led P S (pLog P (s / 2)) f))
theorem tm_same {P : Pl} {S : Nat → Int32} (hk : PlOK P) {f : Nat} (hf6 : f < 6) : anyB 24 (tmS P S f) = tmB P S f := by
  obtain ⟨k1, k2, k3, k4, k5, -⟩ := hk
  apply Bool.eq_iff_iff.mpr
  unfold tmB
  rw [anyB_iff, anyB_iff]
  unfold tmS tmN led mor
  simp only [Bool.and_eq_true, decide_eq_true_eq, anyB_iff]
  constructor
  · rintro ⟨s, hs, hf, c, d, n, hn, e1, e2, e3⟩
    refine ⟨n, hn, e2, e3, s, (canS_t c).1, e1.symm, ?_⟩
    unfold feA
    rw [if_pos c, d]
  · rintro ⟨n, hn, e2, e3, s, hs, e1, d⟩
    unfold feA at d
    by_cases c : canS P S s = true
    · rw [if_pos c] at d
      refine ⟨s, by omega, ?_, c, d, n, hn, e1.symm, e2, e3⟩
      have := k5 n hn
      have := k4 n hn
      omega
    · rw [if_neg c] at d
      exact absurd d (by decide)
theorem m_tempted_e {μ : Mem} {lv : Nat} {P : Pl} {S : Nat → Int32} (hk : PlOK P) (hS : StOK P S) (h : MCore μ lv P S) : ∃ μ', m_tempted μ = some (qTempted P S, μ') := by
  have k1 := hk.1
  have k2 := hk.2.1
  have k3 := hk.2.2.1
  obtain ⟨μ1, e1, A1, W1, -, -, H1⟩ := m_copies_e hk hS h
  have e2 := m_canBits_e hk hS A1.pl A1.rw
  unfold m_tempted
  simp only [↓ob_eq e1, ↓ob_eq e2]
  refine fixN_up (fun i (self : Int32 → Int32 → Mem → Option (Int32 × Mem)) => ∀ μ, MCore μ lv P S → ∃ μ', self (bitI 6 (fun f => anyB i (tmS P S f))) (nI i) μ = some (qTempted P S, μ')) 24 ?_ ?_ 60000 0 (by omega) (by omega) μ1 H1
  · intro i self hi ih μ h
    have t0 := tst0 (canS P S) (n := 24) (l := i) (by omega) hi
    unfold m_tempted_B13
    cases c : canS P S i with
    | false =>
      simp (disch := omega) only [nI_leF, t0, eq_true c, nI_add, ↓reduceIte]
      obtain ⟨μ', e⟩ := ih μ h
      refine ⟨μ', ?_⟩
      rw [← e]
      exact congrArg (fun q => self q (nI (i + 1)) μ) (bitI_c (fun f hf => by rw [anyB_s, show tmS P S f i = false by unfold tmS; rw [c]; simp, Bool.or_false]))
    | true =>
      have hi2 := (canS_t c).1
      have h4 := hk.2.2.2.1 (i / 2) (by omega)
      obtain ⟨μ5, e5, H5, A5, W5, K5⟩ := m_triesFromNow_e hk hS h c
      have hl2 := H5.pl.l2
      simp (disch := omega) only [nI_leF, t0, c, ↓ob_eq e5, Bool.true_eq_false, nI_add, ↓reduceIte]
      refine fixN_up (fun j (self2 : Int32 → Int32 → Mem → Option (Int32 × Mem)) => ∃ μ', self2 (bitI 6 (fun f => anyB i (tmS P S f) || (decide (f < j) && tmS P S f i))) (nI j) μ5 = some (qTempted P S, μ')) (pFd P) ?_ ?_ 60000 0 (by omega) (by omega) |> (fun q => by
        have ez : bitI 6 (fun f => anyB i (tmS P S f) || (decide (f < 0) && tmS P S f i)) = bitI 6 (fun f => anyB i (tmS P S f)) := bitI_c (fun f hf => by rw [decide_eq_false (Nat.not_lt_zero f), Bool.false_and, Bool.or_false])
        rw [ez] at q; exact q)
      · intro j self2 hj ih2
        have e6 := m_feelsOf_e hk (stS_ok hk hS c) A5 W5 K5 hj
        have e7 := m_fromLog_e hk H5.pl (show i / 2 < pNo P by omega)
        have e8 := m_isLed_e hk hS H5 (l := pLog P (i / 2)) (f := j) (by omega) (by omega)
        have stay : tmS P S j i = false → ∃ μ', self2 (bitI 6 (fun f => anyB i (tmS P S f) || (decide (f < j) && tmS P S f i))) (nI (j + 1)) μ5 = some (qTempted P S, μ') := fun z => by
          have ez : bitI 6 (fun f => anyB i (tmS P S f) || (decide (f < j + 1) && tmS P S f i)) = bitI 6 (fun f => anyB i (tmS P S f) || (decide (f < j) && tmS P S f i)) := bitI_c (fun f hf => by
            by_cases e : f = j
            · subst e; rw [z]; simp
            · rw [show decide (f < j + 1) = decide (f < j) from decide_eq_decide.mpr (by omega)])
          rw [ez] at ih2
          exact ih2
        unfold m_tempted_B38
        by_cases c2 : fe P S (stS S i) j = nI 1
        · rw [c2] at e6
          cases m : led P S (pLog P (i / 2)) j with
          | false =>
            rw [m] at e8
            simp (disch := omega) only [H5.pl.lv, H5.pl.fd, inB_nI, cl_nI, nI_leF, ↓ob_eq e6, nI_div2, ↓ob_eq e7, ↓ob_eq e8, b01I, nI_add, Bool.false_eq_true, ↓reduceIte]
            exact stay (by unfold tmS; rw [m]; simp)
          | true =>
            rw [m] at e8
            simp (disch := omega) only [H5.pl.lv, H5.pl.fd, inB_nI, cl_nI, nI_leF, ↓ob_eq e6, nI_div2, ↓ob_eq e7, ↓ob_eq e8, b01I, nI_10, nI_add, orN, ↓reduceIte]
            have et : tmS P S j i = true := by unfold tmS; rw [m, c, decide_eq_true hj, decide_eq_true c2]; rfl
            have ez : bitI 6 (fun f => (anyB i (tmS P S f) || (decide (f < j) && tmS P S f i)) || f == j) = bitI 6 (fun f => anyB i (tmS P S f) || (decide (f < j + 1) && tmS P S f i)) := bitI_c (fun f hf => by
              by_cases e : f = j
              · subst e; rw [et]; simp
              · rw [show decide (f < j + 1) = decide (f < j) from decide_eq_decide.mpr (by omega), show (f == j) = false from beq_eq_false_iff_ne.mpr e, Bool.or_false])
            rw [ez]
            exact ih2
        · simp (disch := omega) only [H5.pl.lv, H5.pl.fd, inB_nI, cl_nI, nI_leF, ↓ob_eq e6, c2, nI_add, ↓reduceIte]
          exact stay (by unfold tmS; rw [decide_eq_false c2]; simp)
      · intro self2
        unfold m_tempted_B38
        simp (disch := omega) only [H5.pl.lv, H5.pl.fd, inB_nI, cl_nI, nI_leT, nI_add, ↓reduceIte]
        obtain ⟨μ', e⟩ := ih μ5 H5
        refine ⟨μ', ?_⟩
        rw [← e]
        exact congrArg (fun q => self q (nI (i + 1)) μ5) (bitI_c (fun f hf => by
          have ez : (decide (f < pFd P) && tmS P S f i) = tmS P S f i := by
            by_cases q : f < pFd P
            · rw [decide_eq_true q, Bool.true_and]
            · unfold tmS; rw [decide_eq_false q, Bool.false_and, Bool.false_and]
          rw [anyB_s, ez]))
  · intro self μ h
    unfold m_tempted_B13
    simp (disch := omega) only [nI_leT, ↓reduceIte]
    refine ⟨μ, ?_⟩
    unfold qTempted
    rw [bitI_c (fun f hf => tm_same hk hf)]

/-! parts of count -/
theorem s_canBe_e {μ : Mem} {p : Nat} {P : Pl} {S : Nat → Int32} (hk : PlOK P) (hS : StOK P S) (h : CCore μ p P S) : s_stepsThatCanBe μ = some (bitI 24 (canS P S), μ) := by
  refine fixN_up (fun i (self : Int32 → Int32 → Mem → Option (Int32 × Mem)) => self (bitI i (canS P S)) (nI i) μ = some (bitI 24 (canS P S), μ)) 24 ?_ ?_ 60000 0 (by omega) (by omega)
  · intro i self hi ih
    have e2 := wo_canStep_e hk hS h.wo (show i < 1000 by omega)
    rw [bitI_s] at ih
    unfold s_stepsThatCanBe_B4
    cases c : canS P S i with
    | false =>
      rw [c] at e2 ih
      rw [if_neg (by decide)] at ih
      simp (disch := omega) only [nI_leF, ↓ob_eq e2, b01I, nI_add, Bool.false_eq_true, ↓reduceIte]
      exact ih
    | true =>
      rw [c] at e2 ih
      rw [if_pos rfl] at ih
      simp (disch := omega) only [nI_leF, ↓ob_eq e2, b01I, nI_10, nI_add, ↓reduceIte]
      exact ih
  · intro self
    unfold s_stepsThatCanBe_B4
    simp (disch := omega) only [nI_leT, ↓reduceIte]
theorem s_flowAll_e {μ : Mem} {p : Nat} {P : Pl} {S : Nat → Int32} (hk : PlOK P) (h : CCore μ p P S) : s_flowOfAll μ = some (sumI (pFd P) (flow P S), μ) := by
  have k2 := hk.2.1
  have hp2 := h.p2
  refine fixN_up (fun i (self : Int32 → Int32 → Mem → Option (Int32 × Mem)) => self (sumI i (flow P S)) (nI i) μ = some (sumI (pFd P) (flow P S), μ)) (pFd P) ?_ ?_ 60000 0 (by omega) (by omega)
  · intro i self hi ih
    rw [sumI_s] at ih
    unfold s_flowOfAll_B4
    simp (disch := omega) only [h.pn, hp2, h.wo.pl.fd, nI_leF, inB_nI, cl_nI, h.wa.fw hi, nI_add, ↓reduceIte]
    exact ih
  · intro self
    unfold s_flowOfAll_B4
    simp (disch := omega) only [h.pn, hp2, h.wo.pl.fd, nI_leT, ↓reduceIte]
theorem m_cntFlow_e {μ : Mem} {lv : Nat} {P : Pl} {S : Nat → Int32} (hk : PlOK P) (hS : StOK P S) (A : MoW μ lv P S) (W : WaM μ P S) : m_count_L145 (nI 0) (nI 0) μ = some (sumI (pFd P) (flow P S), μ) := by
  have k2 := hk.2.1
  have hl2 := A.pl.l2
  refine fixN_up (fun i (self : Int32 → Int32 → Mem → Option (Int32 × Mem)) => self (sumI i (flow P S)) (nI i) μ = some (sumI (pFd P) (flow P S), μ)) (pFd P) ?_ ?_ 60000 0 (by omega) (by omega)
  · intro i self hi ih
    have e2 := m_flowOf_e hk hS A.pl A.rw W (show i < 6 by omega)
    rw [sumI_s] at ih
    unfold m_count_B145
    simp (disch := omega) only [A.pl.lv, A.pl.fd, nI_leF, inB_nI, cl_nI, ↓ob_eq e2, nI_add, ↓reduceIte]
    exact ih
  · intro self
    unfold m_count_B145
    simp (disch := omega) only [A.pl.lv, A.pl.fd, inB_nI, cl_nI, nI_leT, ↓reduceIte]
theorem m_cntGr_e {μ : Mem} {lv : Nat} {P : Pl} {S : Nat → Int32} (hk : PlOK P) (A : MoW μ lv P S) : m_count_L236 (nI 0) (nI 0) μ = some (grAll P S, μ) := by
  have k2 := hk.2.1
  have hl2 := A.pl.l2
  refine fixN_up (fun i (self : Int32 → Int32 → Mem → Option (Int32 × Mem)) => self (sumI i (fun f => S (12 + f))) (nI i) μ = some (grAll P S, μ)) (pFd P) ?_ ?_ 60000 0 (by omega) (by omega)
  · intro i self hi ih
    rw [sumI_s] at ih
    unfold m_count_B236
    simp (disch := omega) only [A.pl.lv, A.pl.fd, nI_leF, inB_nI, cl_nI, A.rw (12 + i) (by omega), nI_add, ↓reduceIte]
    exact ih
  · intro self
    unfold m_count_B236
    simp (disch := omega) only [A.pl.lv, A.pl.fd, inB_nI, cl_nI, nI_leT, ↓reduceIte]
    rfl

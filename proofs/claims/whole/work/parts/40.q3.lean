/-! what a step would do: feels, unfelt, best, tempted -/
noncomputable def feL (P : Pl) (S S' : Nat → Int32) (f : Nat) : Int32 := lg_cmp (oL (fldO P S' f) * oL (wUn P S)) (oL (fldO P S f) * oL (wUn P S'))
noncomputable def fe (P : Pl) (S S' : Nat → Int32) (f : Nat) : Int32 := ifP (wFl P S ∨ wFl P S') (nI 0) (if feL P S S' f ≤ nI 0 then (if nI 0 ≤ feL P S S' f then nI 0 else nI 2) else nI 1)
theorem flI_f {P : Pl} {S : Nat → Int32} (c : ¬ wFl P S) : flI P S = nI 0 := ifP_f c
theorem flI_t {P : Pl} {S : Nat → Int32} (c : wFl P S) : flI P S = nI 1 := ifP_t c
/-- world 1 as a step would make it -/
def C1 (μ : Mem) (p : Nat) (P : Pl) (S' : Nat → Int32) : Prop := WoC μ 1 p P S' ∧ WaC μ 1 P S'
theorem s_wouldStep_e {μ : Mem} {p : Nat} {P : Pl} {S : Nat → Int32} (hk : PlOK P) (hS : StOK P S) (h : CCore μ p P S) {s : Nat} (hs : s < 1000) : ∃ μ', s_wouldStep (nI s) μ = some (b01I (canS P S s), μ') ∧ CCore μ' p P S ∧ (canS P S s = true → C1 μ' p P (stS S s)) := by
  have e0 := wo_canStep_e hk hS h.wo hs
  have main : ∃ μ', s_wouldStep (nI s) μ = some (b01I (canS P S s), μ') ∧ (canS P S s = true → C1 μ' p P (stS S s)) := by
    unfold s_wouldStep
    cases c : canS P S s with
    | false =>
      rw [c] at e0
      exact ⟨μ, by simp only [↓ob_eq e0, b01I, Bool.false_eq_true, ↓reduceIte], fun z => by cases z⟩
    | true =>
      rw [c] at e0
      obtain ⟨μ1, e1, a1⟩ := st_become_e hk h.wo.st (show 3 ≠ 2 by decide)
      have c1 := h.fr (f_st_become e1) rfl
      have w1 : WoC μ1 1 p P S := ⟨c1.p2, c1.2.2.1, c1.wo.pl, c1.wo.la, a1⟩
      obtain ⟨μ2, e2, w2⟩ := wo_doStep_e hk hS w1 c
      obtain ⟨μ3, e3, w3, a3⟩ := wo_settle_e hk (stS_ok hk hS c) w2
      refine ⟨μ3, ?_, fun _ => ⟨w3, a3⟩⟩
      simp (disch := omega) only [↓ob_eq e0, b01I, nI_10, ↓ob_eq e1, ↓ob_eq e2, ↓ob_eq e3, ↓reduceIte]
  obtain ⟨μ', e, a⟩ := main
  exact ⟨μ', e, h.fr (f_s_wouldStep e) rfl, a⟩
theorem s_feelsWhat_e {μ : Mem} {p : Nat} {P : Pl} {S S' : Nat → Int32} (hk : PlOK P) (h : CCore μ p P S) (h1 : C1 μ p P S') {f : Nat} (hf : f < pFd P) : s_feelsWhatWould (nI f) μ = some (fe P S S' f, μ) := by
  have k2 := hk.2.1
  have f0 := h.wa.fl
  have f1 := h1.2.fl
  have u0 := h.wa.un
  have u1 := h1.2.un
  unfold s_feelsWhatWould fe
  by_cases c0 : wFl P S
  · rw [flI_t c0] at f0
    rw [ifP_t (Or.inl c0)]
    simp only [f0, nI_10, ↓reduceIte]
  · rw [flI_f c0] at f0
    by_cases c1 : wFl P S'
    · rw [flI_t c1] at f1
      rw [ifP_t (Or.inr c1)]
      simp only [f0, f1, nI_10, ↓reduceIte]
    · rw [flI_f c1] at f1
      rw [ifP_f c0] at u0
      rw [ifP_f c1] at u1
      rw [ifP_f (fun z => z.elim c0 c1)]
      simp (disch := omega) only [f0, f1, inB_nI, cl_nI, u0, u1, h.wa.fo hf, h1.2.fo hf, ↓reduceIte]
      unfold feL
      repeat' split
      all_goals rfl
theorem s_stepNumber_e {n : Nat} (hn : n < 12) (y : Int32) (μ : Mem) : s_stepNumber (nI n) y μ = some (nI (if y = nI 0 then 2 * n else 2 * n + 1), μ) := by
  unfold s_stepNumber
  split
  · simp (disch := omega) only [pk_mul, nI_add, Nat.add_zero]
  · simp (disch := omega) only [pk_mul, nI_add]
theorem m_stepOf_e {n : Nat} (hn : n < 12) (y : Int32) (μ : Mem) : m_stepOf (nI n) y μ = some (nI (if y = nI 0 then 2 * n else 2 * n + 1), μ) := by
  unfold m_stepOf
  split
  · simp (disch := omega) only [pk_mul, nI_add, Nat.add_zero]
  · simp (disch := omega) only [pk_mul, nI_add]
noncomputable def qFeels (P : Pl) (S : Nat → Int32) (x y z : Int32) : Int32 := if inB x (pNo P) = true then (if inB z (pFd P) = true then (if canS P S (if y = nI 0 then 2 * cl x else 2 * cl x + 1) = true then fe P S (stS S (if y = nI 0 then 2 * cl x else 2 * cl x + 1)) (cl z) else -1) else -1) else -1
theorem s_feels_e {μ : Mem} {p : Nat} {P : Pl} {S : Nat → Int32} (hk : PlOK P) (hS : StOK P S) (h : CCore μ p P S) (x y z : Int32) : ∃ μ', s_feels x y z μ = some (qFeels P S x y z, μ') := by
  have k2 := hk.2.1
  have k3 := hk.2.2.1
  have e0 := s_isNotch_e hk h x
  have e1 := s_isField_e hk h z
  unfold s_feels qFeels
  rcases inB_cases x (show pNo P < 2147483648 by omega) with ⟨a, n, hn, e⟩ | ⟨a, -⟩
  · subst e
    rcases inB_cases z (show pFd P < 2147483648 by omega) with ⟨a2, f, hf, e⟩ | ⟨a2, -⟩
    · subst e
      rw [a] at e0
      rw [a2] at e1
      have e2 := s_stepNumber_e (show n < 12 by omega) y μ
      rw [if_pos a, if_pos a2, cl_nI (by omega), cl_nI (by omega)]
      generalize hs : (if y = nI 0 then 2 * n else 2 * n + 1) = s at e2 ⊢
      have hs2 : s < 1000 := by rw [← hs]; split <;> omega
      obtain ⟨μ3, e3, c3, d3⟩ := s_wouldStep_e hk hS h hs2
      cases c : canS P S s with
      | false =>
        rw [c] at e3
        exact ⟨μ3, by simp only [↓ob_eq e0, ↓ob_eq e1, ↓ob_eq e2, ↓ob_eq e3, b01I, nI_10, Bool.false_eq_true, ↓reduceIte]⟩
      | true =>
        rw [c] at e3
        have e4 := s_feelsWhat_e hk c3 (d3 c) hf
        exact ⟨μ3, by simp only [↓ob_eq e0, ↓ob_eq e1, ↓ob_eq e2, ↓ob_eq e3, ↓ob_eq e4, b01I, nI_10, ↓reduceIte]⟩
    · rw [a] at e0
      rw [a2] at e1
      exact ⟨μ, by simp only [↓ob_eq e0, ↓ob_eq e1, a, a2, b01I, nI_10, Bool.false_eq_true, ↓reduceIte]⟩
  · rw [a] at e0
    exact ⟨μ, by simp only [↓ob_eq e0, a, b01I, Bool.false_eq_true, ↓reduceIte]⟩
/-! the reference's trial -/
def KpM (μ : Mem) (P : Pl) (S : Nat → Int32) : Prop := mI μ 55 0 65 = flI P S ∧ mL μ 55 0 64 = oL (wUn P S) ∧ ∀ f, f < pFd P → mL μ 96 0 f = oL (fldO P S f)
theorem m_keepsOvers_e {μ : Mem} {lv : Nat} {P : Pl} {S : Nat → Int32} (hk : PlOK P) (hS : StOK P S) (h : PlM μ lv P) (hr : RwM μ S) (hw : WaM μ P S) : ∃ μ', m_keepsOvers μ = some ((), μ') ∧ KpM μ' P S := by
  have k2 := hk.2.1
  have h56 : (mI μ 55 0 56 = nI 0 ∨ mI μ 55 0 56 = nI 1) := by
    rw [hw.fl]
    by_cases c : wFl P S
    · exact Or.inr (flI_t c)
    · exact Or.inl (flI_f c)
  unfold m_keepsOvers
  simp only [h56, ↓mb_e, ↓reduceIte]
  have g0 : Fr [(55, none, some 65), (55, none, some 64)] μ (stL (stI μ 55 0 65 (mI μ 55 0 56)) 55 0 64 (mL (stI μ 55 0 65 (mI μ 55 0 56)) 55 0 57)) := Fr.stL (Fr.stI (Fr.rf _ _) (iT 0 rfl inA_ns)) (iT 1 rfl inA_ns)
  refine fixN_up (fun i (self : Int32 → Mem → Option (Unit × Mem)) => ∀ μ, PlM μ lv P → RwM μ S → WaM μ P S → mI μ 55 0 65 = flI P S → mL μ 55 0 64 = oL (wUn P S) → (∀ f, f < i → mL μ 96 0 f = oL (fldO P S f)) → ∃ μ', self (nI i) μ = some ((), μ') ∧ KpM μ' P S) (pFd P) ?_ ?_ 60000 0 (by omega) (by omega) _ (h.fr g0 rfl rfl) (hr.fr g0 rfl) (hw.fo g0 rfl rfl rfl) ?_ ?_ (fun f hf => by omega)
  · intro i self hi ih μ h hr hw a65 a64 hq
    have hl2 := h.l2
    have e1 := m_fieldOver_e hk hS h hr hw (show i < 6 by omega)
    unfold m_keepsOvers_B18
    simp (disch := omega) only [h.lv, h.fd, inB_nI, cl_nI, nI_leF, ↓ob_eq e1, nI_add, ↓reduceIte]
    refine ih _ h hr hw a65 a64 (fun f hf => ?_)
    rw [mL_stL]
    by_cases e : f = i
    · subst e; rw [if_pos ⟨rfl, rfl, rfl⟩]
    · rw [if_neg (fun z => e z.2.2)]; exact hq f (by omega)
  · intro self μ h hr hw a65 a64 hq
    have hl2 := h.l2
    unfold m_keepsOvers_B18
    simp (disch := omega) only [h.lv, h.fd, inB_nI, cl_nI, nI_leT, ↓reduceIte]
    exact ⟨μ, rfl, a65, a64, hq⟩
  · exact hw.fl
  · exact hw.un
theorem m_triesFromNow_e {μ : Mem} {lv : Nat} {P : Pl} {S : Nat → Int32} (hk : PlOK P) (hS : StOK P S) (h : MCore μ lv P S) {s : Nat} (hc : canS P S s = true) : ∃ μ', m_triesFromNow (nI s) μ = some ((), μ') ∧ MCore μ' lv P S ∧ MoW μ' lv P (stS S s) ∧ WaM μ' P (stS S s) ∧ KpM μ' P S := by
  have main : ∃ μ', m_triesFromNow (nI s) μ = some ((), μ') ∧ MoW μ' lv P (stS S s) ∧ WaM μ' P (stS S s) ∧ KpM μ' P S := by
    obtain ⟨μ1, e1, A1, W1, -⟩ := m_copies_e hk hS h
    obtain ⟨μ2, e2, K2⟩ := m_keepsOvers_e hk hS A1.pl A1.rw W1
    have g2 := f_m_keepsOvers e2
    have A2 : MoW μ2 lv P S := A1.fo g2 rfl rfl
    obtain ⟨μ3, e3, A3⟩ := m_steps_e hk hS A2 hc
    have g3 := f_m_steps e3
    obtain ⟨μ4, e4, W4⟩ := m_parts_e hk (stS_ok hk hS hc) A3.pl A3.rw
    have g4 := f_m_parts e4
    refine ⟨μ4, ?_, A3.fo g4 rfl rfl, W4, (g4.I rfl).trans ((g3.I rfl).trans K2.1), (g4.L rfl).trans ((g3.L rfl).trans K2.2.1), fun f hf => (g4.L rfl).trans ((g3.L rfl).trans (K2.2.2 f hf))⟩
    unfold m_triesFromNow m_tries
    simp only [↓ob_eq e1, ↓ob_eq e2]
    simp only [↓ob_eq e3, ↓ob_eq e4, ob]
  obtain ⟨μ', e, a, b, c⟩ := main
  exact ⟨μ', e, h.fr (f_m_triesFromNow e) rfl, a, b, c⟩
theorem m_feelsOf_e {μ : Mem} {lv : Nat} {P : Pl} {S S' : Nat → Int32} (hk : PlOK P) (hS' : StOK P S') (h : MoW μ lv P S') (hw : WaM μ P S') (K : KpM μ P S) {f : Nat} (hf : f < pFd P) : m_feelsOf (nI f) μ = some (fe P S S' f, μ) := by
  have k2 := hk.2.1
  obtain ⟨a65, a64, a96⟩ := K
  have e1 := m_fieldOver_e hk hS' h.pl h.rw hw (show f < 6 by omega)
  have f1 := hw.fl
  unfold m_feelsOf fe
  by_cases c1 : wFl P S'
  · rw [flI_t c1] at f1
    rw [ifP_t (Or.inr c1)]
    simp only [f1, nI_10, ↓reduceIte]
  · rw [flI_f c1] at f1
    by_cases c0 : wFl P S
    · rw [flI_t c0] at a65
      rw [ifP_t (Or.inl c0)]
      simp only [f1, a65, nI_10, ↓reduceIte]
    · rw [flI_f c0] at a65
      rw [ifP_f (fun z => z.elim c0 c1)]
      simp (disch := omega) only [f1, a65, inB_nI, cl_nI, ↓ob_eq e1, a64, a96 f hf, hw.un, ↓vb_e, ↓reduceIte]
      unfold feL
      repeat' split
      all_goals rfl
theorem m_feels_e {μ : Mem} {lv : Nat} {P : Pl} {S : Nat → Int32} (hk : PlOK P) (hS : StOK P S) (h : MCore μ lv P S) (x y z : Int32) : ∃ μ', m_feels x y z μ = some (qFeels P S x y z, μ') := by
  have k2 := hk.2.1
  have k3 := hk.2.2.1
  obtain ⟨μ1, e1, A1, W1, -, -, H1⟩ := m_copies_e hk hS h
  have e0 := m_isNotch_e hk A1.pl x
  have e2 := m_isField_e hk A1.pl z
  unfold m_feels qFeels
  rcases inB_cases x (show pNo P < 2147483648 by omega) with ⟨a, n, hn, e⟩ | ⟨a, -⟩
  · subst e
    rcases inB_cases z (show pFd P < 2147483648 by omega) with ⟨a2, f, hf, e⟩ | ⟨a2, -⟩
    · subst e
      rw [a] at e0
      rw [a2] at e2
      have e3 := m_stepOf_e (show n < 12 by omega) y μ1
      rw [if_pos a, if_pos a2, cl_nI (by omega), cl_nI (by omega)]
      generalize hs : (if y = nI 0 then 2 * n else 2 * n + 1) = s at e3 ⊢
      have hs2 : s < 1000 := by rw [← hs]; split <;> omega
      have e4 := m_canStep_e hk hS A1.pl A1.rw hs2
      cases c : canS P S s with
      | false =>
        rw [c] at e4
        exact ⟨μ1, by simp only [↓ob_eq e1, ↓ob_eq e0, ↓ob_eq e2, ↓ob_eq e3, ↓ob_eq e4, b01I, nI_10, Bool.false_eq_true, ↓reduceIte]⟩
      | true =>
        rw [c] at e4
        obtain ⟨μ5, e5, -, A5, W5, K5⟩ := m_triesFromNow_e hk hS H1 c
        have e6 := m_feelsOf_e hk (stS_ok hk hS c) A5 W5 K5 hf
        exact ⟨μ5, by simp only [↓ob_eq e1, ↓ob_eq e0, ↓ob_eq e2, ↓ob_eq e3, ↓ob_eq e4, ↓ob_eq e5, ↓ob_eq e6, b01I, nI_10, ↓reduceIte]⟩
    · rw [a] at e0
      rw [a2] at e2
      exact ⟨μ1, by simp only [↓ob_eq e1, ↓ob_eq e0, ↓ob_eq e2, a, a2, b01I, nI_10, Bool.false_eq_true, ↓reduceIte]⟩
  · rw [a] at e0
    exact ⟨μ1, by simp only [↓ob_eq e1, ↓ob_eq e0, a, b01I, Bool.false_eq_true, ↓reduceIte]⟩
/-! unfelt -/
def allF (n : Nat) (p : Nat → Bool) : Bool := !anyB n (fun i => !p i)
noncomputable def unf (P : Pl) (S : Nat → Int32) (s : Nat) : Bool := canS P S s && !anyB (pFd P) (fun f => !decide (fe P S (stS S s) f = nI 0))
noncomputable def qUnfelt (P : Pl) (S : Nat → Int32) : Int32 := bitI 24 (unf P S)
noncomputable def feA (P : Pl) (S : Nat → Int32) (s f : Nat) : Int32 := if canS P S s = true then fe P S (stS S s) f else -1
theorem fe_3 (P : Pl) (S S' : Nat → Int32) (f : Nat) : fe P S S' f = nI 0 ∨ fe P S S' f = nI 1 ∨ fe P S S' f = nI 2 := by
  unfold fe
  by_cases c : wFl P S ∨ wFl P S'
  · exact Or.inl (ifP_t c)
  · rw [ifP_f c]
    repeat' split
    all_goals simp
theorem s_feelAll_e {μ : Mem} {p : Nat} {P : Pl} {S : Nat → Int32} (hk : PlOK P) (hS : StOK P S) (h : CCore μ p P S) : ∃ μ', s_feelAllSteps μ = some ((), μ') ∧ CCore μ' p P S ∧ ∀ s f, s < 24 → f < pFd P → mI μ' 53 s f = feA P S s f := by
  have k2 := hk.2.1
  have main : ∃ μ', s_feelAllSteps μ = some ((), μ') ∧ ∀ s f, s < 24 → f < pFd P → mI μ' 53 s f = feA P S s f := by
    refine fixN_up (fun i (self : Int32 → Mem → Option (Unit × Mem)) => ∀ μ, CCore μ p P S → (∀ s f, s < i → f < pFd P → mI μ 53 s f = feA P S s f) → ∃ μ', self (nI i) μ = some ((), μ') ∧ ∀ s f, s < 24 → f < pFd P → mI μ' 53 s f = feA P S s f) 24 ?_ ?_ 60000 0 (by omega) (by omega) μ h (fun s f hs => by omega)
    · intro i self hi ih μ h hq
      obtain ⟨μ1, e1, c1, d1⟩ := s_wouldStep_e hk hS h (show i < 1000 by omega)
      have g1 := f_s_wouldStep e1
      have q1 : ∀ s f, s < i → f < pFd P → mI μ1 53 s f = feA P S s f := fun s f a b => (g1.I rfl).trans (hq s f a b)
      unfold s_feelAllSteps_B2
      simp (disch := omega) only [nI_leF, ↓ob_eq e1, ↓reduceIte]
      -- the inner loop
      have L : ∀ μ, CCore μ p P S → (canS P S i = true → C1 μ p P (stS S i)) → (∀ s f, s < i → f < pFd P → mI μ 53 s f = feA P S s f) → ∃ μ', s_feelAllSteps_L16 (nI i) (b01I (canS P S i)) (fun (μ27 : Mem) => self (nI i + (nI 1)) μ27) (nI 0) μ = some ((), μ') ∧ ∀ s f, s < 24 → f < pFd P → mI μ' 53 s f = feA P S s f := by
        intro μ h hd hq
        refine fixN_up (fun j (self2 : Int32 → Mem → Option (Unit × Mem)) => ∀ μ, CCore μ p P S → (canS P S i = true → C1 μ p P (stS S i)) → (∀ s f, s < i → f < pFd P → mI μ 53 s f = feA P S s f) → (∀ f, f < j → f < pFd P → mI μ 53 i f = feA P S i f) → ∃ μ', self2 (nI j) μ = some ((), μ') ∧ ∀ s f, s < 24 → f < pFd P → mI μ' 53 s f = feA P S s f) 6 ?_ ?_ 60000 0 (by omega) (by omega) μ h hd hq (fun f hf => by omega)
        · intro j self2 hj ih2 μ h hd hq hr
          have put : ∀ v : Int32, (j < pFd P → v = feA P S i j) → ∃ μ', self2 (nI (j + 1)) (stI μ 53 i j v) = some ((), μ') ∧ ∀ s f, s < 24 → f < pFd P → mI μ' 53 s f = feA P S s f := by
            intro v hv
            have g : Fr [(53, none, none)] μ (stI μ 53 i j v) := Fr.stI (Fr.rf _ _) (iT 0 rfl inA_nn)
            refine ih2 _ (h.fr g rfl) (fun c => ⟨(hd c).1.fo g rfl, (hd c).2.fr g rfl⟩) (fun s f a b => ?_) (fun f a b => ?_)
            · rw [mI_stI, if_neg (fun z => by omega)]; exact hq s f a b
            · rw [mI_stI]
              by_cases e : f = j
              · subst e; rw [if_pos ⟨rfl, rfl, rfl⟩]; exact hv b
              · rw [if_neg (fun z => e z.2.2)]; exact hr f (by omega) b
          unfold s_feelAllSteps_B16
          cases c : canS P S i with
          | false =>
            simp (disch := omega) only [nI_leF, inB_nI, cl_nI, b01I, nI_add, Bool.false_eq_true, ↓reduceIte]
            exact put _ (fun _ => by unfold feA; rw [c]; rfl)
          | true =>
            by_cases hjf : j < pFd P
            · have e2 := s_feelsWhat_e hk h (hd c) hjf
              simp (disch := omega) only [nI_leF, inB_nI, cl_nI, b01I, nI_10, ↓ob_eq e2, nI_add, ↓reduceIte]
              exact put _ (fun _ => by unfold feA; rw [if_pos c])
            · -- a field that the plan has not
              have e2 : ∃ v, s_feelsWhatWould (nI j) μ = some (v, μ) := by
                unfold s_feelsWhatWould
                simp (disch := omega) only [inB_nI, cl_nI, ↓reduceIte]
                repeat' split
                all_goals exact ⟨_, rfl⟩
              obtain ⟨v, e2⟩ := e2
              simp (disch := omega) only [nI_leF, inB_nI, cl_nI, b01I, nI_10, ↓ob_eq e2, nI_add, ↓reduceIte]
              exact put _ (fun z => absurd z hjf)
        · intro self2 μ h hd hq hr
          unfold s_feelAllSteps_B16
          simp (disch := omega) only [nI_leT, nI_add, ↓reduceIte]
          refine ih _ h (fun s f a b => ?_)
          by_cases e : s = i
          · subst e; exact hr f (by omega) b
          · exact hq s f (by omega) b
      exact L μ1 c1 d1 q1
    · intro self μ h hq
      unfold s_feelAllSteps_B2
      simp (disch := omega) only [nI_leT, ↓reduceIte]
      exact ⟨μ, rfl, hq⟩
  obtain ⟨μ', e, a⟩ := main
  exact ⟨μ', e, h.fr (f_s_feelAllSteps e) rfl, a⟩
theorem anyB_s (n : Nat) (p : Nat → Bool) : anyB (n + 1) p = (anyB n p || p n) := rfl
theorem anyB_f {n : Nat} {p : Nat → Bool} (h : ∀ i, i < n → p i = false) : anyB n p = false := by
  cases c : anyB n p with
  | false => rfl
  | true =>
    obtain ⟨i, a, b⟩ := anyB_iff.mp c
    rw [h i a] at b
    cases b
theorem s_isUnfelt_e {μ : Mem} {p : Nat} {P : Pl} {S : Nat → Int32} (hk : PlOK P) (h : CCore μ p P S) (ha : ∀ s f, s < 24 → f < pFd P → mI μ 53 s f = feA P S s f) {s : Nat} (hs : s < 24) : s_isUnfelt (nI s) μ = some (b01I (!anyB (pFd P) (fun f => !decide (feA P S s f = nI 0))), μ) := by
  have k2 := hk.2.1
  have hp2 := h.p2
  refine fixN_up (fun i (self : Int32 → Mem → Option (Int32 × Mem)) => (∀ f, f < i → feA P S s f = nI 0) → self (nI i) μ = some (b01I (!anyB (pFd P) (fun f => !decide (feA P S s f = nI 0))), μ)) (pFd P) ?_ ?_ 60000 0 (by omega) (by omega) (fun f hf => by omega)
  · intro i self hi ih hq
    unfold s_isUnfelt_B2
    by_cases c : feA P S s i = nI 0
    · simp (disch := omega) only [h.pn, hp2, h.wo.pl.fd, nI_leF, inB_nI, cl_nI, ha s i hs hi, c, nI_add, ↓reduceIte]
      exact ih (fun f hf => by
        by_cases e : f = i
        · subst e; exact c
        · exact hq f (by omega))
    · simp (disch := omega) only [h.pn, hp2, h.wo.pl.fd, nI_leF, inB_nI, cl_nI, ha s i hs hi, c, ↓reduceIte]
      rw [anyB_iff.mpr ⟨i, hi, by simpa using c⟩]
      rfl
  · intro self hq
    unfold s_isUnfelt_B2
    simp (disch := omega) only [h.pn, hp2, h.wo.pl.fd, nI_leT, ↓reduceIte]
    rw [anyB_f (fun i hi => by simpa using hq i hi)]
    rfl
theorem s_unfelt_e {μ : Mem} {p : Nat} {P : Pl} {S : Nat → Int32} (hk : PlOK P) (hS : StOK P S) (h : CCore μ p P S) : ∃ μ', s_unfelt μ = some (qUnfelt P S, μ') := by
  obtain ⟨μ1, e1, c1, a1⟩ := s_feelAll_e hk hS h
  unfold s_unfelt
  simp only [↓ob_eq e1]
  refine ⟨μ1, ?_⟩
  refine fixN_up (fun i (self : Int32 → Int32 → Mem → Option (Int32 × Mem)) => self (bitI i (unf P S)) (nI i) μ1 = some (qUnfelt P S, μ1)) 24 ?_ ?_ 60000 0 (by omega) (by omega)
  · intro i self hi ih
    have e2 := wo_canStep_e hk hS c1.wo (show i < 1000 by omega)
    have e3 := s_isUnfelt_e hk c1 a1 hi
    rw [bitI_s] at ih
    unfold s_unfelt_B8
    cases c : canS P S i with
    | false =>
      rw [c] at e2
      rw [if_neg (by unfold unf; rw [c]; simp)] at ih
      simp (disch := omega) only [nI_leF, ↓ob_eq e2, b01I, nI_add, Bool.false_eq_true, ↓reduceIte]
      exact ih
    | true =>
      rw [c] at e2
      have eu : (!anyB (pFd P) (fun f => !decide (feA P S i f = nI 0))) = unf P S i := by unfold unf feA; rw [c]; rfl
      rw [eu] at e3
      cases c2 : unf P S i with
      | false =>
        rw [c2] at e3 ih
        rw [if_neg (by simp)] at ih
        simp (disch := omega) only [nI_leF, ↓ob_eq e2, ↓ob_eq e3, b01I, nI_10, nI_add, Bool.false_eq_true, ↓reduceIte]
        exact ih
      | true =>
        rw [c2] at e3 ih
        rw [if_pos rfl] at ih
        simp (disch := omega) only [nI_leF, ↓ob_eq e2, ↓ob_eq e3, b01I, nI_10, nI_add, ↓reduceIte]
        exact ih
  · intro self
    unfold s_unfelt_B8
    simp (disch := omega) only [nI_leT, ↓reduceIte]
    rfl
theorem m_isFelt_e {μ : Mem} {lv : Nat} {P : Pl} {S S' : Nat → Int32} (hk : PlOK P) (hS' : StOK P S') (h : MoW μ lv P S') (hw : WaM μ P S') (K : KpM μ P S) : m_isFelt μ = some (b01I (anyB (pFd P) (fun f => !decide (fe P S S' f = nI 0))), μ) := by
  have k2 := hk.2.1
  have hl2 := h.pl.l2
  refine fixN_up (fun i (self : Int32 → Mem → Option (Int32 × Mem)) => (∀ f, f < i → fe P S S' f = nI 0) → self (nI i) μ = some (b01I (anyB (pFd P) (fun f => !decide (fe P S S' f = nI 0))), μ)) (pFd P) ?_ ?_ 60000 0 (by omega) (by omega) (fun f hf => by omega)
  · intro i self hi ih hq
    have e1 := m_feelsOf_e hk hS' h hw K hi
    unfold m_isFelt_B2
    rcases fe_3 P S S' i with c | c | c
    · rw [c] at e1
      simp (disch := omega) only [h.pl.lv, h.pl.fd, inB_nI, cl_nI, nI_leF, nI_leT, ↓ob_eq e1, nI_add, ↓reduceIte]
      exact ih (fun f hf => by
        by_cases e : f = i
        · subst e; exact c
        · exact hq f (by omega))
    all_goals
      rw [c] at e1
      simp (disch := omega) only [h.pl.lv, h.pl.fd, inB_nI, cl_nI, nI_leF, ↓ob_eq e1, ↓reduceIte]
      rw [anyB_iff.mpr ⟨i, hi, by rw [c]; decide⟩]
      rfl
  · intro self hq
    unfold m_isFelt_B2
    simp (disch := omega) only [h.pl.lv, h.pl.fd, inB_nI, cl_nI, nI_leT, ↓reduceIte]
    rw [anyB_f (fun i hi => by simpa using hq i hi)]
    rfl
theorem m_unfelt_e {μ : Mem} {lv : Nat} {P : Pl} {S : Nat → Int32} (hk : PlOK P) (hS : StOK P S) (h : MCore μ lv P S) : ∃ μ', m_unfelt μ = some (qUnfelt P S, μ') := by
  obtain ⟨μ1, e1, A1, W1, -, -, H1⟩ := m_copies_e hk hS h
  have e2 := m_canBits_e hk hS A1.pl A1.rw
  unfold m_unfelt
  simp only [↓ob_eq e1, ↓ob_eq e2]
  refine fixN_up (fun i (self : Int32 → Int32 → Mem → Option (Int32 × Mem)) => ∀ μ, MCore μ lv P S → ∃ μ', self (bitI i (unf P S)) (nI i) μ = some (qUnfelt P S, μ')) 24 ?_ ?_ 60000 0 (by omega) (by omega) μ1 H1
  · intro i self hi ih μ h
    rw [bitI_s] at ih
    have t0 := tst0 (canS P S) (n := 24) (l := i) (by omega) hi
    unfold m_unfelt_B13
    cases c : canS P S i with
    | false =>
      rw [if_neg (by unfold unf; rw [c]; simp)] at ih
      simp (disch := omega) only [nI_leF, t0, eq_true c, nI_add, ↓reduceIte]
      exact ih μ h
    | true =>
      obtain ⟨μ5, e5, H5, A5, W5, K5⟩ := m_triesFromNow_e hk hS h c
      have e6 := m_isFelt_e hk (stS_ok hk hS c) A5 W5 K5
      have eu : unf P S i = !anyB (pFd P) (fun f => !decide (fe P S (stS S i) f = nI 0)) := by unfold unf; rw [c]; rfl
      cases c2 : anyB (pFd P) (fun f => !decide (fe P S (stS S i) f = nI 0)) with
      | false =>
        rw [c2] at e6 eu
        rw [if_pos (show unf P S i = true from eu)] at ih
        simp (disch := omega) only [nI_leF, t0, c, ↓ob_eq e5, ↓ob_eq e6, b01I, nI_add, Bool.true_eq_false, Bool.false_eq_true, ↓reduceIte]
        exact ih μ5 H5
      | true =>
        rw [c2] at e6 eu
        rw [if_neg (by rw [eu]; decide)] at ih
        simp (disch := omega) only [nI_leF, t0, c, ↓ob_eq e5, ↓ob_eq e6, b01I, nI_10, nI_add, Bool.true_eq_false, ↓reduceIte]
        exact ih μ5 H5
  · intro self μ h
    unfold m_unfelt_B13
    simp (disch := omega) only [nI_leT, ↓reduceIte]
    exact ⟨μ, rfl⟩
/-! best -/
/-- the best so far: step (or none), its over and under -/
noncomputable def bst (P : Pl) (S : Nat → Int32) (f : Nat) : Nat → Option Nat
  | 0 => none
  | i + 1 => if canS P S i = true ∧ fe P S (stS S i) f = nI 1 then (match bst P S f i with
      | none => some i
      | some b => if lg_cmp (oL (fldO P (stS S i) f) * oL (wUn P (stS S b))) (oL (fldO P (stS S b) f) * oL (wUn P (stS S i))) ≤ nI 0 then some b else some i)
    else bst P S f i
noncomputable def bsA (P : Pl) (S : Nat → Int32) (f : Nat) (y : Int32) : Option Nat → Int32
  | none => -2
  | some b => if y = nI 0 then nI b else flow P (stS S b) f
noncomputable def qBest (P : Pl) (S : Nat → Int32) (x y : Int32) : Int32 := if inB x (pFd P) = true then (if inB y 2 = true then bsA P S (cl x) y (bst P S (cl x) 24) else -1) else -1
theorem fe_1 {P : Pl} {S S' : Nat → Int32} {f : Nat} (h : fe P S S' f = nI 1) : ¬ wFl P S ∧ ¬ wFl P S' ∧ ¬ feL P S S' f ≤ nI 0 := by
  unfold fe at h
  by_cases c : wFl P S ∨ wFl P S'
  · rw [ifP_t c] at h; cases h
  · rw [ifP_f c] at h
    refine ⟨fun z => c (Or.inl z), fun z => c (Or.inr z), fun z => ?_⟩
    rw [if_pos z] at h
    split at h <;> cases h
/-- what the class keeps of the best: step, flow, over, under -/
def bq4 (P : Pl) (S : Nat → Int32) (f : Nat) (b : Option Nat) (a3 a4 : Int32) (a5 a7 : Int64) : Prop := match b with
  | none => a3 = -2 ∧ a4 = -2 ∧ a5 = oL (fldO P S f) ∧ (¬ wFl P S → a7 = oL (wUn P S))
  | some b => b < 24 ∧ a3 = nI b ∧ a4 = flow P (stS S b) f ∧ a5 = oL (fldO P (stS S b) f) ∧ a7 = oL (wUn P (stS S b))
theorem bq4_end {P : Pl} {S : Nat → Int32} {f : Nat} {b : Option Nat} {a3 a4 : Int32} {a5 a7 : Int64} (h : bq4 P S f b a3 a4 a5 a7) (y : Int32) : (if y = nI 0 then a3 else a4) = bsA P S f y b := by
  cases b with
  | none => obtain ⟨rfl, rfl, -⟩ := h; unfold bsA; split <;> rfl
  | some b => obtain ⟨-, rfl, rfl, -⟩ := h; rfl
theorem s_best_e {μ : Mem} {p : Nat} {P : Pl} {S : Nat → Int32} (hk : PlOK P) (hS : StOK P S) (h : CCore μ p P S) (x y : Int32) : ∃ μ', s_best x y μ = some (qBest P S x y, μ') := by
  have k2 := hk.2.1
  have e0 := s_isField_e hk h x
  have e1 := s_isFrom_r y (nI 0) (nI 1) μ
  have ey : inR y (nI 0) (nI 1) = inB y 2 := by
    have a := m_in_e y (n := 2) (by omega) μ
    have b := m_in_r y (nI 0) (nI 1) μ
    have c : (nI 2 - nI 1 : Int32) = nI 1 := by decide
    rw [c, b] at a
    have a2 : b01I (inR y (nI 0) (nI 1)) = b01I (inB y 2) := by
      have := congrArg (fun o => Option.map Prod.fst o) a
      simpa using this
    cases q : inR y (nI 0) (nI 1) <;> cases w : inB y 2 <;> rw [q, w] at a2 <;> first | rfl | cases a2
  rw [ey] at e1
  unfold s_best qBest
  rcases inB_cases x (show pFd P < 2147483648 by omega) with ⟨a, f, hf, e⟩ | ⟨a, -⟩
  · subst e
    rw [a] at e0
    cases a2 : inB y 2 with
    | false =>
      rw [a2] at e1
      exact ⟨μ, by simp only [↓ob_eq e0, ↓ob_eq e1, a, b01I, nI_10, Bool.false_eq_true, ↓reduceIte]⟩
    | true =>
      rw [a2] at e1
      have hb6 : inB (nI f) 6 = true := inB_nI (by omega) (by omega)
      simp only [↓ob_eq e0, ↓ob_eq e1, a, b01I, nI_10, hb6, cl_nI (show f < 2147483648 by omega), h.wa.fo hf, ↓reduceIte]
      refine fixN_up (fun i (self : Int32 → Int32 → Int64 → Int64 → Int32 → Mem → Option (Int32 × Mem)) => ∀ μ a3 a4 a5 a7, CCore μ p P S → bq4 P S f (bst P S f i) a3 a4 a5 a7 → ∃ μ', self a3 a4 a5 a7 (nI i) μ = some (bsA P S f y (bst P S f 24), μ')) 24 ?_ ?_ 60000 0 (by omega) (by omega) μ _ _ _ _ h ⟨rfl, rfl, rfl, fun z => by rw [h.wa.un, ifP_f z]⟩
      · intro i self hi ih μ a3 a4 a5 a7 h hq
        obtain ⟨μ1, e1, c1, d1⟩ := s_wouldStep_e hk hS h (show i < 1000 by omega)
        unfold s_best_B55
        cases c : canS P S i with
        | false =>
          have eb : bst P S f (i + 1) = bst P S f i := if_neg (fun z => by rw [c] at z; cases z.1)
          rw [c] at e1
          rw [eb] at ih
          simp (disch := omega) only [nI_leF, ↓ob_eq e1, b01I, nI_add, Bool.false_eq_true, ↓reduceIte]
          exact ih _ _ _ _ _ c1 hq
        | true =>
          rw [c] at e1
          have e2 := s_feelsWhat_e hk c1 (d1 c) hf
          by_cases c2 : fe P S (stS S i) f = nI 1
          · obtain ⟨z1, z2, z3⟩ := fe_1 c2
            rw [c2] at e2
            have u1 : mL μ1 32 1 1 = oL (wUn P (stS S i)) := by rw [(d1 c).2.un, ifP_f z2]
            have o1 := (d1 c).2.fo hf
            have w1 := (d1 c).2.fw hf
            have eb : bst P S f (i + 1) = (match bst P S f i with
              | none => some i
              | some b => if lg_cmp (oL (fldO P (stS S i) f) * oL (wUn P (stS S b))) (oL (fldO P (stS S b) f) * oL (wUn P (stS S i))) ≤ nI 0 then some b else some i) := if_pos ⟨c, c2⟩
            simp (disch := omega) only [nI_leF, ↓ob_eq e1, ↓ob_eq e2, b01I, nI_10, hb6, cl_nI, u1, o1, w1, nI_add, ↓reduceIte]
            cases eo : bst P S f i with
            | none =>
              rw [eo] at hq eb
              obtain ⟨rfl, rfl, rfl, hu⟩ := hq
              rw [hu z1]
              unfold feL at z3
              rw [if_neg z3]
              exact ih _ _ _ _ _ c1 (by rw [eb]; exact ⟨hi, rfl, rfl, rfl, rfl⟩)
            | some b =>
              rw [eo] at hq eb
              obtain ⟨hb, rfl, rfl, rfl, rfl⟩ := hq
              by_cases c3 : lg_cmp (oL (fldO P (stS S i) f) * oL (wUn P (stS S b))) (oL (fldO P (stS S b) f) * oL (wUn P (stS S i))) ≤ nI 0
              · simp only [c3, ↓reduceIte] at eb ⊢
                exact ih _ _ _ _ _ c1 (by rw [eb]; exact ⟨hb, rfl, rfl, rfl, rfl⟩)
              · simp only [c3, ↓reduceIte] at eb ⊢
                exact ih _ _ _ _ _ c1 (by rw [eb]; exact ⟨hi, rfl, rfl, rfl, rfl⟩)
          · have eb : bst P S f (i + 1) = bst P S f i := if_neg (fun z => c2 z.2)
            rw [eb] at ih
            simp (disch := omega) only [nI_leF, ↓ob_eq e1, ↓ob_eq e2, b01I, nI_10, c2, nI_add, ↓reduceIte]
            exact ih _ _ _ _ _ c1 hq
      · intro self μ a3 a4 a5 a7 h hq
        unfold s_best_B55
        simp (disch := omega) only [nI_leT, ↓reduceIte]
        have := bq4_end hq y
        by_cases c : y = nI 0
        · rw [if_pos c] at this
          exact ⟨μ, by rw [if_pos c, this]⟩
        · rw [if_neg c] at this
          exact ⟨μ, by rw [if_neg c, this]⟩
  · rw [a] at e0
    exact ⟨μ, by simp only [↓ob_eq e0, a, b01I, Bool.false_eq_true, ↓reduceIte]⟩
def bqM (P : Pl) (S : Nat → Int32) (f : Nat) (b : Option Nat) (a3 a4 : Int32) (a5 a7 : Int64) : Prop := match b with
  | none => a3 = -2 ∧ a4 = -2
  | some b => b < 24 ∧ a3 = nI b ∧ a4 = flow P (stS S b) f ∧ a5 = oL (fldO P (stS S b) f) ∧ a7 = oL (wUn P (stS S b))
theorem bqM_end {P : Pl} {S : Nat → Int32} {f : Nat} {b : Option Nat} {a3 a4 : Int32} {a5 a7 : Int64} (h : bqM P S f b a3 a4 a5 a7) (y : Int32) : (if y = nI 0 then a3 else a4) = bsA P S f y b := by
  cases b with
  | none => obtain ⟨rfl, rfl⟩ := h; unfold bsA; split <;> rfl
  | some b => obtain ⟨-, rfl, rfl, -⟩ := h; rfl
theorem m_best_e {μ : Mem} {lv : Nat} {P : Pl} {S : Nat → Int32} (hk : PlOK P) (hS : StOK P S) (h : MCore μ lv P S) (x y : Int32) : ∃ μ', m_best x y μ = some (qBest P S x y, μ') := by
  have k2 := hk.2.1
  have e0 := m_isField_e hk h.pl x
  have e1 : m_in y (nI 0) (nI 1) μ = some (b01I (inB y 2), μ) := m_in_e y (n := 2) (by omega) μ
  unfold m_best qBest
  rcases inB_cases x (show pFd P < 2147483648 by omega) with ⟨a, f, hf, e⟩ | ⟨a, -⟩
  · subst e
    rw [a] at e0
    cases a2 : inB y 2 with
    | false =>
      rw [a2] at e1
      exact ⟨μ, by simp only [↓ob_eq e0, ↓ob_eq e1, a, b01I, nI_10, Bool.false_eq_true, ↓reduceIte]⟩
    | true =>
      rw [a2] at e1
      obtain ⟨μ1, e2, A1, W1, -, -, H1⟩ := m_copies_e hk hS h
      have e3 := m_canBits_e hk hS A1.pl A1.rw
      simp only [↓ob_eq e0, ↓ob_eq e1, ↓ob_eq e2, ↓ob_eq e3, a, b01I, nI_10, cl_nI (show f < 2147483648 by omega), ↓reduceIte]
      refine fixN_up (fun i (self : Int32 → Int32 → Int64 → Int64 → Int32 → Mem → Option (Int32 × Mem)) => ∀ μ a3 a4 a5 a7, MCore μ lv P S → bqM P S f (bst P S f i) a3 a4 a5 a7 → ∃ μ', self a3 a4 a5 a7 (nI i) μ = some (bsA P S f y (bst P S f 24), μ')) 24 ?_ ?_ 60000 0 (by omega) (by omega) μ1 _ _ _ _ H1 ⟨rfl, rfl⟩
      · intro i self hi ih μ a3 a4 a5 a7 h hq
        have t0 := tst0 (canS P S) (n := 24) (l := i) (by omega) hi
        unfold m_best_B45
        cases c : canS P S i with
        | false =>
          have eb : bst P S f (i + 1) = bst P S f i := if_neg (fun z => by rw [c] at z; cases z.1)
          rw [eb] at ih
          simp (disch := omega) only [nI_leF, t0, eq_true c, nI_add, ↓reduceIte]
          exact ih _ _ _ _ _ h hq
        | true =>
          obtain ⟨μ5, e5, H5, A5, W5, K5⟩ := m_triesFromNow_e hk hS h c
          have e6 := m_feelsOf_e hk (stS_ok hk hS c) A5 W5 K5 hf
          have e7 := m_flowOf_e hk (stS_ok hk hS c) A5.pl A5.rw W5 (show f < 6 by omega)
          have e8 := m_fieldOver_e hk (stS_ok hk hS c) A5.pl A5.rw W5 (show f < 6 by omega)
          by_cases c2 : fe P S (stS S i) f = nI 1
          · rw [c2] at e6
            have eb : bst P S f (i + 1) = (match bst P S f i with
              | none => some i
              | some b => if lg_cmp (oL (fldO P (stS S i) f) * oL (wUn P (stS S b))) (oL (fldO P (stS S b) f) * oL (wUn P (stS S i))) ≤ nI 0 then some b else some i) := if_pos ⟨c, c2⟩
            simp (disch := omega) only [nI_leF, t0, c, ↓ob_eq e5, ↓ob_eq e6, ↓ob_eq e7, ↓ob_eq e8, W5.un, Bool.true_eq_false, nI_add, ↓reduceIte]
            cases eo : bst P S f i with
            | none =>
              rw [eo] at hq eb
              obtain ⟨rfl, rfl⟩ := hq
              rw [if_pos (show (-2 : Int32) < nI 0 by decide)]
              exact ih _ _ _ _ _ H5 (by rw [eb]; exact ⟨hi, rfl, rfl, rfl, rfl⟩)
            | some b =>
              rw [eo] at hq eb
              obtain ⟨hb, rfl, rfl, rfl, rfl⟩ := hq
              rw [if_neg (show ¬ nI b < nI 0 by rw [nI_ltF (Nat.zero_le _) (by omega)]; exact id)]
              by_cases c3 : lg_cmp (oL (fldO P (stS S i) f) * oL (wUn P (stS S b))) (oL (fldO P (stS S b) f) * oL (wUn P (stS S i))) ≤ nI 0
              · rw [if_neg (Int32.not_lt.mpr c3)]
                simp only [c3, ↓reduceIte] at eb
                exact ih _ _ _ _ _ H5 (by rw [eb]; exact ⟨hb, rfl, rfl, rfl, rfl⟩)
              · rw [if_pos (Int32.not_le.mp c3)]
                simp only [c3, ↓reduceIte] at eb
                exact ih _ _ _ _ _ H5 (by rw [eb]; exact ⟨hi, rfl, rfl, rfl, rfl⟩)
          · have eb : bst P S f (i + 1) = bst P S f i := if_neg (fun z => c2 z.2)
            rw [eb] at ih
            simp (disch := omega) only [nI_leF, t0, c, ↓ob_eq e5, ↓ob_eq e6, c2, Bool.true_eq_false, nI_add, ↓reduceIte]
            exact ih _ _ _ _ _ H5 hq
      · intro self μ a3 a4 a5 a7 h hq
        unfold m_best_B45
        simp (disch := omega) only [nI_leT, ↓reduceIte]
        have := bqM_end hq y
        by_cases c : y = nI 0
        · rw [if_pos c] at this
          exact ⟨μ, by rw [if_pos c, this]⟩
        · rw [if_neg c] at this
          exact ⟨μ, by rw [if_neg c, this]⟩
  · rw [a] at e0
    exact ⟨μ, by simp only [↓ob_eq e0, a, b01I, Bool.false_eq_true, ↓reduceIte]⟩

/-! what was told; fits, ask -/
def Tk : Type := Nat × (Nat → Nat) × (Nat → Nat) × (Nat → Bool)
def tN (T : Tk) : Nat := T.1
def tF (T : Tk) : Nat → Nat := T.2.1
def tH (T : Tk) : Nat → Nat := T.2.2.1
def tB (T : Tk) : Nat → Bool := T.2.2.2
def TkOK (P : Pl) (T : Tk) : Prop := tN T ≤ 20 ∧ ∀ i, i < tN T → tF T i < pFd P ∧ tH T i ≤ 2
def TkC (μ : Mem) (T : Tk) : Prop := mI μ 48 0 3 = nI (tN T) ∧ ∀ i, i < tN T → mI μ 49 0 i = nI (tF T i) ∧ mI μ 50 0 i = nI (tH T i) ∧ mI μ 51 0 i = b01I (tB T i)
def TkM (μ : Mem) (T : Tk) : Prop := mI μ 55 0 67 = nI (tN T) ∧ ∀ i, i < tN T → mI μ 98 0 i = nI (tF T i) ∧ mI μ 99 0 i = nI (tH T i) ∧ mI μ 100 0 i = b01I (tB T i)
theorem TkC.fr {μ μ' : Mem} {T : Tk} {A : List At} (h : TkC μ T) (g : Fr A μ μ') (o : okQ A = true) : TkC μ' T := by
  have z : ∀ {r i k : Nat}, ¬ (36 ≤ r ∧ r ≤ 43) → ¬ (52 ≤ r ∧ r ≤ 54) → ¬ ((26 ≤ r ∧ r ≤ 30) ∧ i = 3) → ¬ ((32 ≤ r ∧ r ≤ 35) ∧ i = 1) → inT A r i k = false := fun a b c d => okQ_f o a b c d
  exact ⟨(g.I (z (by omega) (by omega) (by omega) (by omega))).trans h.1, fun i hi => ⟨(g.I (z (by omega) (by omega) (by omega) (by omega))).trans (h.2 i hi).1, (g.I (z (by omega) (by omega) (by omega) (by omega))).trans (h.2 i hi).2.1, (g.I (z (by omega) (by omega) (by omega) (by omega))).trans (h.2 i hi).2.2⟩⟩
theorem TkM.fr {μ μ' : Mem} {T : Tk} {A : List At} (h : TkM μ T) (g : Fr A μ μ') (o : okM A = true) : TkM μ' T := by
  have z : ∀ {r i k : Nat}, ¬ (86 ≤ r ∧ r ≤ 87) → ¬ (89 ≤ r ∧ r ≤ 94) → r ≠ 96 → r ≠ 97 → r ≠ 101 → (r = 55 → k ≠ 49 ∧ k ≠ 52 ∧ k ≠ 53 ∧ k ≠ 56 ∧ k ≠ 57 ∧ k ≠ 64 ∧ k ≠ 65) → inT A r i k = false := fun a b c d e f => okM_f o a b c d e f
  exact ⟨(g.I (z (by omega) (by omega) (by omega) (by omega) (by omega) (by omega))).trans h.1, fun i hi => ⟨(g.I (z (by omega) (by omega) (by omega) (by omega) (by omega) (by omega))).trans (h.2 i hi).1, (g.I (z (by omega) (by omega) (by omega) (by omega) (by omega) (by omega))).trans (h.2 i hi).2.1, (g.I (z (by omega) (by omega) (by omega) (by omega) (by omega) (by omega))).trans (h.2 i hi).2.2⟩⟩
/-- whether a step answers to the i-th thing told -/
noncomputable def an1 (P : Pl) (S : Nat → Int32) (T : Tk) (s i : Nat) : Bool := decide (fe P S (stS S s) (tF T i) = nI (tH T i)) == tB T i
noncomputable def anK (P : Pl) (S : Nat → Int32) (T : Tk) (s k : Nat) : Bool := !anyB k (fun i => !an1 P S T s i)
noncomputable def ftB (P : Pl) (S : Nat → Int32) (T : Tk) (k s : Nat) : Bool := canS P S s && anK P S T s k
theorem anK_s (P : Pl) (S : Nat → Int32) (T : Tk) (s k : Nat) : anK P S T s (k + 1) = (anK P S T s k && an1 P S T s k) := by
  unfold anK
  simp only [anyB]
  rw [Bool.not_or, Bool.not_not]
theorem anK_f {P : Pl} {S : Nat → Int32} {T : Tk} {s k i : Nat} (hi : i < k) (h : an1 P S T s i = false) : anK P S T s k = false := by
  unfold anK
  rw [anyB_iff.mpr ⟨i, hi, by rw [h]; rfl⟩]
  rfl
noncomputable def qFits (P : Pl) (S : Nat → Int32) (T : Tk) (x y : Int32) : Int32 := if inR x (nI 0) (nI (tN T)) = true then (if inR y (nI 0) (nI 1) = true then (if y = nI 0 then nI (cntB 24 (ftB P S T (cl x))) else bitI 24 (ftB P S T (cl x))) else -1) else -1
theorem b01_eq1 (b : Bool) : (nI 1 = b01I b) = (b = true) := by cases b <;> simp [b01I, nI_10, nI_01] <;> decide
theorem b01_eq0 (b : Bool) : (nI 0 = b01I b) = (b = false) := by cases b <;> simp [b01I, nI_10, nI_01] <;> decide
theorem tk_fits_e {μ : Mem} {P : Pl} {S : Nat → Int32} {T : Tk} (hk : PlOK P) (hT : TkOK P T) (h : TkC μ T) {s k : Nat} (hkt : k ≤ tN T) (hs : s < 24) (hc : canS P S s = true) (ha : ∀ s f, s < 24 → f < pFd P → mI μ 53 s f = feA P S s f) : tk_fitsKnown_r53 s (nI k) μ = some (b01I (anK P S T s k), μ) := by
  have k2 := hk.2.1
  have t1 := hT.1
  refine fixN_up (fun i (self : Int32 → Mem → Option (Int32 × Mem)) => anK P S T s i = true → self (nI i) μ = some (b01I (anK P S T s k), μ)) k ?_ ?_ 60000 0 (by omega) (by omega) rfl
  · intro i self hi ih hq
    obtain ⟨f1, f2⟩ := hT.2 i (by omega)
    obtain ⟨c1, c2, c3⟩ := h.2 i (by omega)
    have e1 := ha s (tF T i) hs f1
    have e2 : feA P S s (tF T i) = fe P S (stS S s) (tF T i) := if_pos hc
    rw [e2] at e1
    have an : an1 P S T s i = (decide (fe P S (stS S s) (tF T i) = nI (tH T i)) == tB T i) := rfl
    rw [anK_s, hq, Bool.true_and] at ih
    unfold tk_fitsKnown_r53_B2
    by_cases c : fe P S (stS S s) (tF T i) = nI (tH T i)
    · rw [decide_eq_true c] at an
      cases b : tB T i with
      | true =>
        rw [b] at an c3
        simp (disch := omega) only [nI_leF, inB_nI, cl_nI, c1, c2, c3, e1, c, b01I, nI_add, ↓reduceIte]
        exact ih an
      | false =>
        rw [b] at an c3
        rw [anK_f hi an]
        simp (disch := omega) only [nI_leF, inB_nI, cl_nI, c1, c2, c3, e1, c, b01I, nI_10, Bool.false_eq_true, ↓reduceIte]
    · rw [decide_eq_false c] at an
      cases b : tB T i with
      | true =>
        rw [b] at an c3
        rw [anK_f hi an]
        simp (disch := omega) only [nI_leF, inB_nI, cl_nI, c1, c2, c3, e1, c, b01I, nI_01, Bool.false_eq_true, ↓reduceIte]
      | false =>
        rw [b] at an c3
        simp (disch := omega) only [nI_leF, inB_nI, cl_nI, c1, c2, c3, e1, c, b01I, Bool.false_eq_true, nI_add, ↓reduceIte]
        exact ih an
  · intro self hq
    unfold tk_fitsKnown_r53_B2
    rw [hq]
    simp (disch := omega) only [nI_leT, b01I, ↓reduceIte]
theorem s_thatFit_e {μ : Mem} {p : Nat} {P : Pl} {S : Nat → Int32} {T : Tk} (hk : PlOK P) (hS : StOK P S) (h : CCore μ p P S) (hT : TkOK P T) (ht : TkC μ T) {k : Nat} (hkt : k ≤ tN T) (ha : ∀ s f, s < 24 → f < pFd P → mI μ 53 s f = feA P S s f) : s_stepsThatFit (nI k) μ = some (bitI 24 (ftB P S T k), μ) := by
  refine fixN_up (fun i (self : Int32 → Int32 → Mem → Option (Int32 × Mem)) => self (bitI i (ftB P S T k)) (nI i) μ = some (bitI 24 (ftB P S T k), μ)) 24 ?_ ?_ 60000 0 (by omega) (by omega)
  · intro i self hi ih
    have e1 := wo_canStep_e hk hS h.wo (show i < 1000 by omega)
    rw [bitI_s] at ih
    have ef : ftB P S T k i = (canS P S i && anK P S T i k) := rfl
    unfold s_stepsThatFit_B4
    cases c : canS P S i with
    | false =>
      rw [c] at e1
      rw [ef, c, Bool.false_and, if_neg (by decide)] at ih
      simp (disch := omega) only [nI_leF, ↓ob_eq e1, b01I, nI_add, Bool.false_eq_true, ↓reduceIte]
      exact ih
    | true =>
      rw [c] at e1
      have e2 := tk_fits_e hk hT ht hkt hi c ha
      rw [ef, c, Bool.true_and] at ih
      cases c2 : anK P S T i k with
      | false =>
        rw [c2] at e2
        rw [c2, if_neg (by decide)] at ih
        simp (disch := omega) only [nI_leF, inB_nI, cl_nI, ↓ob_eq e1, ↓ob_eq e2, b01I, nI_10, nI_add, Bool.false_eq_true, ↓reduceIte]
        exact ih
      | true =>
        rw [c2] at e2
        rw [c2, if_pos rfl] at ih
        simp (disch := omega) only [nI_leF, inB_nI, cl_nI, ↓ob_eq e1, ↓ob_eq e2, b01I, nI_10, nI_add, ↓reduceIte]
        exact ih
  · intro self
    unfold s_stepsThatFit_B4
    simp (disch := omega) only [nI_leT, ↓reduceIte]
theorem s_fits_e {μ : Mem} {p : Nat} {P : Pl} {S : Nat → Int32} {T : Tk} (hk : PlOK P) (hS : StOK P S) (h : CCore μ p P S) (hT : TkOK P T) (ht : TkC μ T) (x y : Int32) : ∃ μ', s_fits x y μ = some (qFits P S T x y, μ') := by
  have t1 := hT.1
  have e1 := s_isFrom_r x (nI 0) (nI (tN T)) μ
  have e2 := s_isFrom_r y (nI 0) (nI 1) μ
  unfold s_fits qFits
  rw [ht.1]
  cases c1 : inR x (nI 0) (nI (tN T)) with
  | false =>
    rw [c1] at e1
    refine ⟨μ, ?_⟩
    simp only [↓ob_eq e1, b01I, Bool.false_eq_true, ↓reduceIte]
  | true =>
    rw [c1] at e1
    obtain ⟨k, -, hkt, rfl⟩ := inR_t (by omega) (by omega) c1
    cases c2 : inR y (nI 0) (nI 1) with
    | false =>
      rw [c2] at e2
      refine ⟨μ, ?_⟩
      simp only [↓ob_eq e1, ↓ob_eq e2, b01I, nI_10, Bool.false_eq_true, ↓reduceIte]
    | true =>
      rw [c2] at e2
      obtain ⟨μ3, e3, h3, a3⟩ := s_feelAll_e hk hS h
      have t3 := ht.fr (f_s_feelAllSteps e3) rfl
      have e4 := s_thatFit_e hk hS h3 hT t3 hkt a3
      have e5 := j_bits_24 (ftB P S T k) μ3
      refine ⟨μ3, ?_⟩
      rw [cl_nI (by omega)]
      simp only [↓ob_eq e1, ↓ob_eq e2, ↓ob_eq e3, ↓ob_eq e4, ↓ob_eq e5, b01I, nI_10, ↓reduceIte]
      split <;> rfl
/-! the reference's fits -/
theorem m_fitBits_e {μ : Mem} {lv : Nat} {P : Pl} {S : Nat → Int32} {T : Tk} (hk : PlOK P) (hS : StOK P S) (h : MCore μ lv P S) (hT : TkOK P T) (ht : TkM μ T) {k : Nat} (hkt : k ≤ tN T) : ∃ μ', m_fitBits (nI k) μ = some (bitI 24 (ftB P S T k), μ') ∧ MCore μ' lv P S ∧ ∀ s f, s < 24 → f < pFd P → canS P S s = true → mI μ' 101 0 (6 * s + f) = fe P S (stS S s) f := by
  have k2 := hk.2.1
  have t1 := hT.1
  have main : ∃ μ', m_fitBits (nI k) μ = some (bitI 24 (ftB P S T k), μ') ∧ ∀ s f, s < 24 → f < pFd P → canS P S s = true → mI μ' 101 0 (6 * s + f) = fe P S (stS S s) f := by
    obtain ⟨μ1, e1, A1, W1, -, -, H1⟩ := m_copies_e hk hS h
    have T1 := ht.fr (f_m_copies e1) rfl
    have e2 := m_canBits_e hk hS A1.pl A1.rw
    unfold m_fitBits
    simp only [↓ob_eq e1, ↓ob_eq e2]
    refine fixN_up (fun i (self : Int32 → Int32 → Mem → Option (Int32 × Mem)) => ∀ μ, MCore μ lv P S → TkM μ T → (∀ s f, s < i → f < pFd P → canS P S s = true → mI μ 101 0 (6 * s + f) = fe P S (stS S s) f) → ∃ μ', self (bitI i (ftB P S T k)) (nI i) μ = some (bitI 24 (ftB P S T k), μ') ∧ ∀ s f, s < 24 → f < pFd P → canS P S s = true → mI μ' 101 0 (6 * s + f) = fe P S (stS S s) f) 24 ?_ ?_ 60000 0 (by omega) (by omega) μ1 H1 T1 (fun s f hs => by omega)
    · intro i self hi ih μ h ht hq
      rw [bitI_s] at ih
      have t0 := tst0 (canS P S) (n := 24) (l := i) (by omega) hi
      have ef : ftB P S T k i = (canS P S i && anK P S T i k) := rfl
      unfold m_fitBits_B14
      cases c : canS P S i with
      | false =>
        rw [ef, c, Bool.false_and, if_neg (by decide)] at ih
        simp (disch := omega) only [nI_leF, t0, eq_true c, nI_add, ↓reduceIte]
        exact ih μ h ht (fun s f a b d => by
          by_cases e : s = i
          · subst e; rw [c] at d; cases d
          · exact hq s f (by omega) b d)
      | true =>
        rw [ef, c, Bool.true_and] at ih
        obtain ⟨μ5, e5, H5, A5, W5, K5⟩ := m_triesFromNow_e hk hS h c
        have g5 := f_m_triesFromNow e5
        have T5 := ht.fr g5 rfl
        simp (disch := omega) only [nI_leF, t0, c, ↓ob_eq e5, Bool.true_eq_false, ↓reduceIte]
        have q5 : ∀ s f, s < i → f < pFd P → canS P S s = true → mI μ5 101 0 (6 * s + f) = fe P S (stS S s) f := fun s f a b d => (g5.I rfl).trans (hq s f a b d)
        refine fixN_up (fun j (self2 : Int32 → Mem → Option (Int32 × Mem)) => ∀ μ, MCore μ lv P S → TkM μ T → MoW μ lv P (stS S i) → WaM μ P (stS S i) → KpM μ P S → (∀ s f, s < i → f < pFd P → canS P S s = true → mI μ 101 0 (6 * s + f) = fe P S (stS S s) f) → (∀ f, f < j → mI μ 101 0 (6 * i + f) = fe P S (stS S i) f) → ∃ μ', self2 (nI j) μ = some (bitI 24 (ftB P S T k), μ') ∧ ∀ s f, s < 24 → f < pFd P → canS P S s = true → mI μ' 101 0 (6 * s + f) = fe P S (stS S s) f) (pFd P) ?_ ?_ 60000 0 (by omega) (by omega) μ5 H5 T5 A5 W5 K5 q5 (fun f hf => by omega)
        · intro j self2 hj ih2 μ h ht A W K q r
          have l2 := A.pl.l2
          have e6 := m_feelsOf_e hk (stS_ok hk hS c) A W K hj
          unfold m_fitBits_B42
          simp (disch := omega) only [A.pl.lv, A.pl.fd, inB_nI, cl_nI, nI_leF, ↓ob_eq e6, pk_mul, nI_add, ↓mb_e, ↓reduceIte]
          have g : Fr [(101, none, none)] μ (stI μ 101 0 (6 * i + j) (fe P S (stS S i) j)) := Fr.stI (Fr.rf _ _) (iT 0 rfl inA_nn)
          refine ih2 _ (h.fr g rfl) (ht.fr g rfl) (A.fo g rfl rfl) (W.fo g rfl rfl rfl) K (fun s f a b d => ?_) (fun f a => ?_)
          · rw [mI_stI, if_neg (fun z => by omega)]; exact q s f a b d
          · rw [mI_stI]
            by_cases e : f = j
            · subst e; rw [if_pos ⟨rfl, rfl, rfl⟩]
            · rw [if_neg (fun z => by omega)]; exact r f (by omega)
        · intro self2 μ h ht A W K q r
          have l2 := A.pl.l2
          unfold m_fitBits_B42
          simp (disch := omega) only [A.pl.lv, A.pl.fd, inB_nI, cl_nI, nI_leT, ↓reduceIte]
          have q2 : ∀ s f, s < i + 1 → f < pFd P → canS P S s = true → mI μ 101 0 (6 * s + f) = fe P S (stS S s) f := fun s f a b d => by
            by_cases e : s = i
            · subst e; exact r f b
            · exact q s f (by omega) b d
          refine fixN_up (fun j (self3 : Int32 → Int32 → Mem → Option (Int32 × Mem)) => ∃ μ', self3 (b01I (anK P S T i j)) (nI j) μ = some (bitI 24 (ftB P S T k), μ') ∧ ∀ s f, s < 24 → f < pFd P → canS P S s = true → mI μ' 101 0 (6 * s + f) = fe P S (stS S s) f) k ?_ ?_ 60000 0 (by omega) (by omega)
          · intro j self3 hj ih3
            obtain ⟨f1, f2⟩ := hT.2 j (by omega)
            obtain ⟨c1, c2, c3⟩ := ht.2 j (by omega)
            have e1 := r (tF T j) f1
            have an : an1 P S T i j = (decide (fe P S (stS S i) (tF T j) = nI (tH T j)) == tB T j) := rfl
            rw [anK_s] at ih3
            unfold m_fitBits_B87
            by_cases cc : fe P S (stS S i) (tF T j) = nI (tH T j)
            · rw [decide_eq_true cc] at an
              cases b : tB T j with
              | true =>
                rw [b] at an c3
                rw [an, show (true == true) = true from rfl, Bool.and_true] at ih3
                simp (disch := omega) only [nI_leF, inB_nI, cl_nI, c1, c2, c3, pk_mul, nI_add, e1, cc, show b01I true = nI 1 from rfl, ↓reduceIte]
                exact ih3
              | false =>
                rw [b] at an c3
                rw [an] at ih3
                simp (disch := omega) only [nI_leF, inB_nI, cl_nI, c1, c2, c3, pk_mul, nI_add, e1, cc, show b01I false = nI 0 from rfl, nI_10, Bool.false_eq_true, ↓reduceIte]
                rw [show (anK P S T i j && (true == false)) = false by simp] at ih3
                exact ih3
            · rw [decide_eq_false cc] at an
              cases b : tB T j with
              | true =>
                rw [b] at an c3
                rw [an] at ih3
                simp (disch := omega) only [nI_leF, inB_nI, cl_nI, c1, c2, c3, pk_mul, nI_add, e1, cc, show b01I true = nI 1 from rfl, nI_01, Bool.false_eq_true, ↓reduceIte]
                rw [show (anK P S T i j && (false == true)) = false by simp] at ih3
                exact ih3
              | false =>
                rw [b] at an c3
                rw [an, show (false == false) = true from rfl, Bool.and_true] at ih3
                simp (disch := omega) only [nI_leF, inB_nI, cl_nI, c1, c2, c3, pk_mul, nI_add, e1, cc, show b01I false = nI 0 from rfl, Bool.false_eq_true, ↓reduceIte]
                exact ih3
          · intro self3
            unfold m_fitBits_B87
            cases c2 : anK P S T i k with
            | false =>
              rw [c2, if_neg (by decide)] at ih
              simp (disch := omega) only [nI_leT, show b01I false = nI 0 from rfl, nI_add, ↓reduceIte]
              exact ih μ h ht q2
            | true =>
              rw [c2, if_pos rfl] at ih
              simp (disch := omega) only [nI_leT, show b01I true = nI 1 from rfl, nI_10, nI_add, ↓reduceIte]
              exact ih μ h ht q2
    · intro self μ h ht hq
      unfold m_fitBits_B14
      simp (disch := omega) only [nI_leT, ↓reduceIte]
      exact ⟨μ, rfl, hq⟩
  obtain ⟨μ', e, a⟩ := main
  exact ⟨μ', e, h.fr (f_m_fitBits e) rfl, a⟩
theorem m_fits_e {μ : Mem} {lv : Nat} {P : Pl} {S : Nat → Int32} {T : Tk} (hk : PlOK P) (hS : StOK P S) (h : MCore μ lv P S) (hT : TkOK P T) (ht : TkM μ T) (x y : Int32) : ∃ μ', m_fits x y μ = some (qFits P S T x y, μ') := by
  have t1 := hT.1
  have e1 := m_in_r x (nI 0) (nI (tN T)) μ
  have e2 := m_in_r y (nI 0) (nI 1) μ
  unfold m_fits qFits
  rw [ht.1]
  cases c1 : inR x (nI 0) (nI (tN T)) with
  | false =>
    rw [c1] at e1
    refine ⟨μ, ?_⟩
    simp only [↓ob_eq e1, b01I, Bool.false_eq_true, ↓reduceIte]
  | true =>
    rw [c1] at e1
    obtain ⟨k, -, hkt, rfl⟩ := inR_t (by omega) (by omega) c1
    cases c2 : inR y (nI 0) (nI 1) with
    | false =>
      rw [c2] at e2
      refine ⟨μ, ?_⟩
      simp only [↓ob_eq e1, ↓ob_eq e2, b01I, nI_10, Bool.false_eq_true, ↓reduceIte]
    | true =>
      rw [c2] at e2
      obtain ⟨μ3, e3, h3, a3⟩ := m_fitBits_e hk hS h hT ht hkt
      have e5 := m_bits_24 (ftB P S T k) μ3
      refine ⟨μ3, ?_⟩
      rw [cl_nI (by omega)]
      simp only [↓ob_eq e1, ↓ob_eq e2, ↓ob_eq e3, ↓ob_eq e5, b01I, nI_10, ↓reduceIte]
      split <;> rfl
/-! ask -/
noncomputable def cwN (P : Pl) (S : Nat → Int32) (T : Tk) (k f h n : Nat) : Nat := cntB n (fun s => ftB P S T k s && decide (fe P S (stS S s) f = nI h))
theorem cwN_le (P : Pl) (S : Nat → Int32) (T : Tk) (k f h n : Nat) : cwN P S T k f h n ≤ n := cntB_le _ n
noncomputable def wsN (P : Pl) (S : Nat → Int32) (T : Tk) (k f : Nat) : Nat → Nat
  | 0 => 0
  | h + 1 => if wsN P S T k f h < cwN P S T k f h 24 then cwN P S T k f h 24 else wsN P S T k f h
theorem wsN_le (P : Pl) (S : Nat → Int32) (T : Tk) (k f : Nat) : ∀ h, wsN P S T k f h ≤ 24
  | 0 => by unfold wsN; omega
  | h + 1 => by
    have := wsN_le P S T k f h
    have := cwN_le P S T k f h 24
    unfold wsN
    split <;> assumption
theorem wsN_s (P : Pl) (S : Nat → Int32) (T : Tk) (k f h : Nat) : wsN P S T k f (h + 1) = if wsN P S T k f h < cwN P S T k f h 24 then cwN P S T k f h 24 else wsN P S T k f h := rfl
noncomputable def akB (P : Pl) (S : Nat → Int32) (T : Tk) (k : Nat) : Nat → Option Nat
  | 0 => none
  | i + 1 => match akB P S T k i with
    | none => some i
    | some b => if wsN P S T k i 3 < wsN P S T k b 3 then some i else some b
theorem akB_s (P : Pl) (S : Nat → Int32) (T : Tk) (k i : Nat) : akB P S T k (i + 1) = (match akB P S T k i with
    | none => some i
    | some b => if wsN P S T k i 3 < wsN P S T k b 3 then some i else some b) := rfl
def onI (o : Option Nat) : Int32 := match o with
  | none => -2
  | some b => nI b
noncomputable def qAsk (P : Pl) (S : Nat → Int32) (T : Tk) (x : Int32) : Int32 := if inR x (nI 0) (nI (tN T)) = true then (if bitI 24 (ftB P S T (cl x)) = nI 0 then -2 else onI (akB P S T (cl x) (pFd P))) else -1
theorem s_left_e {μ : Mem} {P : Pl} {S : Nat → Int32} {T : Tk} (hk : PlOK P) (ha : ∀ s f, s < 24 → f < pFd P → mI μ 53 s f = feA P S s f) {k f : Nat} (hf : f < pFd P) : s_leftAtWorst (bitI 24 (ftB P S T k)) (nI f) μ = some (nI (wsN P S T k f 3), μ) := by
  have k2 := hk.2.1
  refine fixN_up (fun h (self : Int32 → Int32 → Mem → Option (Int32 × Mem)) => self (nI (wsN P S T k f h)) (nI h) μ = some (nI (wsN P S T k f 3), μ)) 3 ?_ ?_ 60000 0 (by omega) (by omega)
  · intro h self hh ih
    unfold s_leftAtWorst_B5
    simp (disch := omega) only [nI_ltF, ↓reduceIte]
    refine fixN_up (fun s (self2 : Int32 → Int32 → Mem → Option (Int32 × Mem)) => self2 (nI (cwN P S T k f h s)) (nI s) μ = some (nI (wsN P S T k f 3), μ)) 24 ?_ ?_ 60000 0 (by omega) (by omega)
    · intro s self2 hs ih2
      have t := tst1 (ftB P S T k) (n := 24) (l := s) (by omega) hs
      have es : cwN P S T k f h (s + 1) = cwN P S T k f h s + (if (ftB P S T k s && decide (fe P S (stS S s) f = nI h)) = true then 1 else 0) := cntB_s _ _
      unfold s_leftAtWorst_B17
      cases c : ftB P S T k s with
      | false =>
        rw [c] at es t
        rw [es, Bool.false_and, if_neg (by decide), Nat.add_zero] at ih2
        simp (disch := omega) only [nI_leF, t, Bool.false_eq_true, nI_add, ↓reduceIte]
        exact ih2
      | true =>
        have hc : canS P S s = true := by
          have : (canS P S s && anK P S T s k) = true := c
          rw [Bool.and_eq_true] at this
          exact this.1
        rw [c] at es t
        rw [es, Bool.true_and] at ih2
        have e1 := ha s f hs hf
        unfold feA at e1
        rw [if_pos hc] at e1
        by_cases cc : fe P S (stS S s) f = nI h
        · rw [if_pos (by rw [decide_eq_true cc])] at ih2
          simp (disch := omega) only [nI_leF, t, inB_nI, cl_nI, e1, cc, nI_add, ↓reduceIte]
          exact ih2
        · rw [if_neg (by rw [decide_eq_false cc]; decide), Nat.add_zero] at ih2
          simp (disch := omega) only [nI_leF, t, inB_nI, cl_nI, e1, cc, nI_add, ↓reduceIte]
          exact ih2
    · intro self2
      unfold s_leftAtWorst_B17
      have hc := cwN_le P S T k f h 24
      have hw := wsN_le P S T k f h
      rw [wsN_s] at ih
      simp (disch := omega) only [nI_leT, ↓reduceIte]
      unfold j_max
      by_cases c : wsN P S T k f h < cwN P S T k f h 24
      · rw [if_pos c] at ih
        simp (disch := omega) only [nI_ltT, ob_some, nI_add, ↓reduceIte]
        exact ih
      · rw [if_neg c] at ih
        simp (disch := omega) only [nI_ltF, ob_some, nI_add, ↓reduceIte]
        exact ih
  · intro self
    unfold s_leftAtWorst_B5
    simp (disch := omega) only [nI_ltT, ↓reduceIte]
theorem s_ask_e {μ : Mem} {p : Nat} {P : Pl} {S : Nat → Int32} {T : Tk} (hk : PlOK P) (hS : StOK P S) (h : CCore μ p P S) (hT : TkOK P T) (ht : TkC μ T) (x : Int32) : ∃ μ', s_ask x μ = some (qAsk P S T x, μ') := by
  have k2 := hk.2.1
  have t1 := hT.1
  have e1 := s_isFrom_r x (nI 0) (nI (tN T)) μ
  unfold s_ask qAsk
  rw [ht.1]
  cases c1 : inR x (nI 0) (nI (tN T)) with
  | false =>
    rw [c1] at e1
    refine ⟨μ, ?_⟩
    simp only [↓ob_eq e1, b01I, Bool.false_eq_true, ↓reduceIte]
  | true =>
    rw [c1] at e1
    obtain ⟨k, -, hkt, rfl⟩ := inR_t (by omega) (by omega) c1
    obtain ⟨μ3, e3, h3, a3⟩ := s_feelAll_e hk hS h
    have t3 := ht.fr (f_s_feelAllSteps e3) rfl
    have e4 := s_thatFit_e hk hS h3 hT t3 hkt a3
    have hp2 := h3.p2
    refine ⟨μ3, ?_⟩
    rw [cl_nI (by omega)]
    by_cases c2 : bitI 24 (ftB P S T k) = nI 0
    · rw [if_pos rfl, if_pos c2]
      rw [c2] at e4
      simp only [↓ob_eq e1, ↓ob_eq e3, ↓ob_eq e4, b01I, nI_10, ↓reduceIte]
    · rw [if_pos rfl, if_neg c2]
      simp only [↓ob_eq e1, ↓ob_eq e3, ↓ob_eq e4, b01I, nI_10, c2, ↓reduceIte]
      refine fixN_up (fun i (self : Int32 → Int32 → Int32 → Mem → Option (Int32 × Mem)) => self (onI (akB P S T k i)) (nI (match akB P S T k i with | none => 25 | some b => wsN P S T k b 3)) (nI i) μ3 = some (onI (akB P S T k (pFd P)), μ3)) (pFd P) ?_ ?_ 60000 0 (by omega) (by omega)
      · intro i self hi ih
        have e5 := s_left_e (T := T) hk a3 (k := k) hi
        have hw := wsN_le P S T k i 3
        rw [akB_s] at ih
        unfold s_ask_B44
        cases eo : akB P S T k i with
        | none =>
          rw [eo] at ih
          simp (disch := omega) only [h3.pn, hp2, h3.wo.pl.fd, nI_leF, ↓ob_eq e5, nI_add, ↓reduceIte]
          exact ih
        | some b =>
          have hb := wsN_le P S T k b 3
          rw [eo] at ih
          by_cases c : wsN P S T k i 3 < wsN P S T k b 3
          · simp only [if_pos c] at ih
            simp (disch := omega) only [h3.pn, hp2, h3.wo.pl.fd, nI_leF, ↓ob_eq e5, nI_add, ↓reduceIte]
            exact ih
          · simp only [if_neg c] at ih
            simp (disch := omega) only [h3.pn, hp2, h3.wo.pl.fd, nI_leF, nI_leT, ↓ob_eq e5, nI_add, ↓reduceIte]
            exact ih
      · intro self
        unfold s_ask_B44
        simp (disch := omega) only [h3.pn, hp2, h3.wo.pl.fd, nI_leT, ↓reduceIte]
theorem m_worst_e {μ : Mem} {P : Pl} {S : Nat → Int32} {T : Tk} (hk : PlOK P) (ha : ∀ s f, s < 24 → f < pFd P → canS P S s = true → mI μ 101 0 (6 * s + f) = fe P S (stS S s) f) {k f : Nat} (hf : f < pFd P) : m_worstBy (bitI 24 (ftB P S T k)) (nI f) μ = some (nI (wsN P S T k f 3), μ) := by
  have k2 := hk.2.1
  refine fixN_up (fun h (self : Int32 → Int32 → Mem → Option (Int32 × Mem)) => self (nI (wsN P S T k f h)) (nI h) μ = some (nI (wsN P S T k f 3), μ)) 3 ?_ ?_ 60000 0 (by omega) (by omega)
  · intro h self hh ih
    unfold m_worstBy_B5
    simp (disch := omega) only [nI_leF, ↓reduceIte]
    refine fixN_up (fun s (self2 : Int32 → Int32 → Mem → Option (Int32 × Mem)) => self2 (nI (cwN P S T k f h s)) (nI s) μ = some (nI (wsN P S T k f 3), μ)) 24 ?_ ?_ 60000 0 (by omega) (by omega)
    · intro s self2 hs ih2
      have t := tst1 (ftB P S T k) (n := 24) (l := s) (by omega) hs
      have es : cwN P S T k f h (s + 1) = cwN P S T k f h s + (if (ftB P S T k s && decide (fe P S (stS S s) f = nI h)) = true then 1 else 0) := cntB_s _ _
      unfold m_worstBy_B17
      cases c : ftB P S T k s with
      | false =>
        rw [c] at es t
        rw [es, Bool.false_and, if_neg (by decide), Nat.add_zero] at ih2
        simp (disch := omega) only [nI_leF, t, Bool.false_eq_true, nI_add, ↓reduceIte]
        exact ih2
      | true =>
        have hc : canS P S s = true := by
          have : (canS P S s && anK P S T s k) = true := c
          rw [Bool.and_eq_true] at this
          exact this.1
        rw [c] at es t
        rw [es, Bool.true_and] at ih2
        have e1 := ha s f hs hf hc
        by_cases cc : fe P S (stS S s) f = nI h
        · rw [if_pos (by rw [decide_eq_true cc])] at ih2
          simp (disch := omega) only [nI_leF, t, inB_nI, cl_nI, pk_mul, nI_add, e1, cc, ↓reduceIte]
          exact ih2
        · rw [if_neg (by rw [decide_eq_false cc]; decide), Nat.add_zero] at ih2
          simp (disch := omega) only [nI_leF, t, inB_nI, cl_nI, pk_mul, nI_add, e1, cc, ↓reduceIte]
          exact ih2
    · intro self2
      unfold m_worstBy_B17
      have hc := cwN_le P S T k f h 24
      have hw := wsN_le P S T k f h
      rw [wsN_s] at ih
      simp (disch := omega) only [nI_leT, ↓reduceIte]
      by_cases c : wsN P S T k f h < cwN P S T k f h 24
      · rw [if_pos c] at ih
        simp (disch := omega) only [nI_leF, nI_add, ↓reduceIte]
        exact ih
      · rw [if_neg c] at ih
        simp (disch := omega) only [nI_leT, nI_add, ↓reduceIte]
        exact ih
  · intro self
    unfold m_worstBy_B5
    simp (disch := omega) only [nI_leT, ↓reduceIte]
theorem m_ask_e {μ : Mem} {lv : Nat} {P : Pl} {S : Nat → Int32} {T : Tk} (hk : PlOK P) (hS : StOK P S) (h : MCore μ lv P S) (hT : TkOK P T) (ht : TkM μ T) (x : Int32) : ∃ μ', m_ask x μ = some (qAsk P S T x, μ') := by
  have k2 := hk.2.1
  have t1 := hT.1
  have e1 := m_in_r x (nI 0) (nI (tN T)) μ
  unfold m_ask qAsk
  rw [ht.1]
  cases c1 : inR x (nI 0) (nI (tN T)) with
  | false =>
    rw [c1] at e1
    refine ⟨μ, ?_⟩
    simp only [↓ob_eq e1, b01I, Bool.false_eq_true, ↓reduceIte]
  | true =>
    rw [c1] at e1
    obtain ⟨k, -, hkt, rfl⟩ := inR_t (by omega) (by omega) c1
    obtain ⟨μ3, e3, h3, a3⟩ := m_fitBits_e hk hS h hT ht hkt
    have l2 := h3.pl.l2
    refine ⟨μ3, ?_⟩
    rw [cl_nI (by omega), if_pos rfl]
    simp only [↓ob_eq e1, ↓ob_eq e3, b01I, nI_10, ↓reduceIte]
    by_cases c2 : bitI 24 (ftB P S T k) = nI 0
    · rw [if_pos c2, c2]
      unfold m_ask_L29
      rw [show 60000 = 59999 + 1 from rfl, fixN_s]
      unfold m_ask_B29
      simp (disch := omega) only [h3.pl.lv, h3.pl.fd, inB_nI, cl_nI, ↓reduceIte]
      split <;> rfl
    · rw [if_neg c2]
      refine fixN_up (fun i (self : Int32 → Int32 → Int32 → Mem → Option (Int32 × Mem)) => self (onI (akB P S T k i)) (nI (match akB P S T k i with | none => 0 | some b => wsN P S T k b 3)) (nI i) μ3 = some (onI (akB P S T k (pFd P)), μ3)) (pFd P) ?_ ?_ 60000 0 (by omega) (by omega)
      · intro i self hi ih
        have e5 := m_worst_e (T := T) hk a3 (k := k) hi
        have hw := wsN_le P S T k i 3
        have hbi : ∀ n b, akB P S T k n = some b → b < n := fun n => by
          induction n with
          | zero => intro b z; cases z
          | succ n ihn =>
            intro b z
            rw [akB_s] at z
            cases eo : akB P S T k n with
            | none => rw [eo] at z; simp at z; omega
            | some a =>
              rw [eo] at z
              have := ihn a eo
              simp only at z
              split at z <;> (simp at z; omega)
        rw [akB_s] at ih
        unfold m_ask_B29
        cases eo : akB P S T k i with
        | none =>
          rw [eo] at ih
          simp (disch := omega) only [h3.pl.lv, h3.pl.fd, inB_nI, cl_nI, nI_leF, c2, ↓ob_eq e5, show (onI none < nI 0) = True from eq_true (by decide), nI_add, ↓reduceIte]
          exact ih
        | some b =>
          have hb := wsN_le P S T k b 3
          have hbi := hbi i b eo
          rw [eo] at ih
          by_cases c : wsN P S T k i 3 < wsN P S T k b 3
          · simp only [if_pos c] at ih
            simp (disch := omega) only [h3.pl.lv, h3.pl.fd, inB_nI, cl_nI, nI_leF, c2, ↓ob_eq e5, onI, nI_ltF, nI_ltT, nI_add, ↓reduceIte]
            exact ih
          · simp only [if_neg c] at ih
            simp (disch := omega) only [h3.pl.lv, h3.pl.fd, inB_nI, cl_nI, nI_leF, c2, ↓ob_eq e5, onI, nI_ltF, nI_add, ↓reduceIte]
            exact ih
      · intro self
        unfold m_ask_B29
        simp (disch := omega) only [h3.pl.lv, h3.pl.fd, inB_nI, cl_nI, nI_leT, ↓reduceIte]

/-! the reference reads: the cursor -/
def CuM (Z : Tks) (μ : Mem) (s : Sg) : Prop := TokM μ Z ∧ mI μ 55 0 11 = nI (yT s) ∧ mI μ 55 0 13 = nI 0 ∧ mI μ 55 0 15 = nI (yL s).1 ∧ ((yL s).1 ≠ 0 → mI μ 55 0 16 = (yL s).2)
def ErM (φ : Nat × Int32) (μ : Mem) : Prop := mI μ 55 0 13 = nI φ.1 ∧ (φ.1 = 1 ∨ φ.1 = 2) ∧ mI μ 55 0 14 = φ.2
def RM (Z : Tks) (e : Rs) (μ : Mem) : Prop := match e with
  | .ok s => CuM Z μ s ∧ SgI Z s
  | .error φ => ErM φ μ
def TM : List At := [(55, none, some 11), (55, none, some 13), (55, none, some 14), (55, none, some 15), (55, none, some 16)]
theorem TokM.fr {Z : Tks} {μ μ' : Mem} {T : List At} (h : TokM μ Z) (g : Fr T μ μ') (o : offR [58, 59, 60, 61] T = true) : TokM μ' Z := fun i h1 h2 => by
  obtain ⟨a, b, c, d⟩ := h i h1 h2
  exact ⟨(g.I (offR_f o rfl _ _)).trans a, (g.I (offR_f o rfl _ _)).trans b, fun z => (g.I (offR_f o rfl _ _)).trans (c z), fun z => (g.L (offR_f o rfl _ _)).trans (d z)⟩
theorem CuM.fr {Z : Tks} {μ μ' : Mem} {s : Sg} {T : List At} (h : CuM Z μ s) (g : Fr T μ μ') (o : offR [58, 59, 60, 61] T = true) (k1 : inT T 55 0 11 = false) (k3 : inT T 55 0 13 = false) (k5 : inT T 55 0 15 = false) (k6 : inT T 55 0 16 = false) : CuM Z μ' s := by
  obtain ⟨a, b, c, d, e⟩ := h
  exact ⟨a.fr g o, (g.I k1).trans b, (g.I k3).trans c, (g.I k5).trans d, fun z => (g.I k6).trans (e z)⟩
theorem ErM.fr {φ : Nat × Int32} {μ μ' : Mem} {T : List At} (h : ErM φ μ) (g : Fr T μ μ') (k3 : inT T 55 0 13 = false) (k4 : inT T 55 0 14 = false) : ErM φ μ' := ⟨(g.I k3).trans h.1, h.2.1, (g.I k4).trans h.2.2⟩
theorem RM.fr {Z : Tks} {e : Rs} {μ μ' : Mem} {T : List At} (h : RM Z e μ) (g : Fr T μ μ') (o : offR [58, 59, 60, 61] T = true) (k1 : inT T 55 0 11 = false) (k3 : inT T 55 0 13 = false) (k4 : inT T 55 0 14 = false) (k5 : inT T 55 0 15 = false) (k6 : inT T 55 0 16 = false) : RM Z e μ' := by
  unfold RM at h ⊢
  cases e with
  | ok s => exact ⟨h.1.fr g o k1 k3 k5 k6, h.2⟩
  | error φ => exact h.fr g k3 k4
theorem RM.k {Z : Tks} {e : Rs} {μ : Mem} (h : RM Z e μ) : (∃ s, e = .ok s ∧ CuM Z μ s ∧ SgI Z s) ∨ ∃ φ, e = .error φ ∧ ErM φ μ := by
  unfold RM at h
  cases e with
  | ok s => exact Or.inl ⟨s, rfl, h⟩
  | error φ => exact Or.inr ⟨φ, rfl, h⟩
theorem m_is_ok {Z : Tks} {μ : Mem} {s : Sg} (h : CuM Z μ s) (hs : SgI Z s) (hz : ZOK Z) {k x : Nat} (hk : k < 44) (hx : x = kM k) : m_is (nI x) μ = some (b01I (decide (tkd Z (yT s) = k)), μ) := by
  obtain ⟨a, b, c, d, e⟩ := h
  obtain ⟨-, -, -, -, -, -, -, s1, s2⟩ := hs
  have k2 := hz.2.1 (yT s)
  have l1 := kM_lt _ k2
  have l2 := kM_lt _ hk
  unfold m_is
  rw [c, if_pos rfl, b, if_pos (inB_nI (by omega) (by omega)), cl_nI (by omega), (a _ s2 s1).1, hx]
  by_cases z : tkd Z (yT s) = k
  · rw [if_pos (by rw [z]), decide_eq_true z]; rfl
  · rw [if_neg (nI_ne (fun y => z (kM_inj _ k2 _ hk y)) (by omega) (by omega)), decide_eq_false z]; rfl
theorem ErM.nz {φ : Nat × Int32} {μ : Mem} (h : ErM φ μ) : ¬ mI μ 55 0 13 = nI 0 := by
  rw [h.1]
  exact nI_ne (by have := h.2.1; omega) (by have := h.2.1; omega) (by omega)
theorem ErM.nle {φ : Nat × Int32} {μ : Mem} (h : ErM φ μ) : ¬ mI μ 55 0 13 ≤ nI 0 := by
  rw [h.1]
  exact nI_ge (by have := h.2.1; omega) (by have := h.2.1; omega)
theorem ErM.lt {φ : Nat × Int32} {μ : Mem} (h : ErM φ μ) : nI 0 < mI μ 55 0 13 := by
  rw [h.1]
  exact nI_lt (by have := h.2.1; omega) (by have := h.2.1; omega)
theorem m_is_er {φ : Nat × Int32} {μ : Mem} (h : ErM φ μ) (x : Int32) : m_is x μ = some (nI 0, μ) := by
  unfold m_is
  rw [if_neg h.nz]
theorem m_fail_er {φ : Nat × Int32} {μ : Mem} (h : ErM φ μ) (x : Int32) : m_fail x μ = some ((), μ) := by
  unfold m_fail
  rw [if_neg h.nle]
theorem m_fail_ok {Z : Tks} {μ : Mem} {s : Sg} (h : CuM Z μ s) (hs : SgI Z s) {c : Nat} (hc : c = 1 ∨ c = 2) : ∃ μ', m_fail (nI c) μ = some ((), μ') ∧ ErM (c, nI (tpl Z (yT s))) μ' ∧ Fr TM μ μ' := by
  obtain ⟨a, b, c1, d, e⟩ := h
  obtain ⟨-, -, -, -, -, -, -, s1, s2⟩ := hs
  have f1 : mI (stI μ 55 0 13 (nI c)) 55 0 11 = nI (yT s) := by rw [mI_stI, if_neg (by omega)]; exact b
  have f2 : mI (stI μ 55 0 13 (nI c)) 59 0 (yT s) = nI (tpl Z (yT s)) := by rw [mI_stI, if_neg (by omega)]; exact (a _ s2 s1).2.1
  refine ⟨stI (stI μ 55 0 13 (nI c)) 55 0 14 (nI (tpl Z (yT s))), ?_, ⟨?_, hc, ?_⟩, Fr.stI (Fr.stI (Fr.rf _ _) (iT 1 rfl inA_ns)) (iT 2 rfl inA_ns)⟩
  · unfold m_fail
    rw [c1, if_pos (Int32.le_refl _), f1, if_pos (inB_nI (by omega) (by omega)), cl_nI (by omega), f2, mb_e]
  · rw [mI_stI, if_neg (by omega), mI_stI, if_pos ⟨rfl, rfl, rfl⟩]
  · rw [mI_stI, if_pos ⟨rfl, rfl, rfl⟩]
theorem m_fail_e {Z : Tks} {μ : Mem} {e : Rs} (h : RM Z e μ) {c : Nat} (hc : c = 1 ∨ c = 2) : ∃ μ', m_fail (nI c) μ = some ((), μ') ∧ RM Z (bG e (gFl Z c)) μ' ∧ Fr TM μ μ' := by
  rcases h.k with ⟨s, rfl, h, hs⟩ | ⟨φ, rfl, h⟩
  · exact m_fail_ok h hs hc
  · exact ⟨μ, m_fail_er h _, h, Fr.rf _ _⟩
theorem m_goesOn_e {Z : Tks} {μ : Mem} {e : Rs} (h : RM Z e μ) (hk : ∀ s, e = .ok s → tkd Z (yT s) ≠ 43) : ∃ μ', m_goesOn μ = some ((), μ') ∧ RM Z (bG e (gPass Z)) μ' ∧ Fr TM μ μ' := by
  rcases h.k with ⟨s, rfl, h, hs⟩ | ⟨φ, rfl, h⟩
  · have s1 := hs.2.2.2.2.2.2.2.1
    have k := hk s rfl
    show ∃ μ', _ ∧ RM Z (gPass Z s) μ' ∧ _
    unfold m_goesOn gPass
    rw [h.2.1]
    by_cases z : yT s = 400
    · obtain ⟨μ', e1, e2, e3⟩ := m_fail_ok h hs (c := 2) (Or.inr rfl)
      rw [if_pos z, if_pos (congrArg nI z), ob_eq e1]
      exact ⟨μ', rfl, e2, e3⟩
    · rw [if_neg z, if_neg (nI_ne z (by omega) (by omega)), nI_add]
      have g : Fr TM μ (stI μ 55 0 11 (nI (yT s + 1))) := Fr.stI (Fr.rf _ _) (iT 0 rfl inA_ns)
      obtain ⟨a, b, c, d, e⟩ := h
      refine ⟨_, rfl, ⟨⟨a.fr g rfl, by rw [mI_stI, if_pos ⟨rfl, rfl, rfl⟩]; rfl, ?_, ?_, fun y => ?_⟩, hs.wyT z k⟩, g⟩
      · rw [mI_stI, if_neg (by omega)]; exact c
      · rw [mI_stI, if_neg (by omega)]; exact d
      · rw [mI_stI, if_neg (by omega)]; exact e y
  · show ∃ μ', _ ∧ ErM φ μ' ∧ _
    unfold m_goesOn
    by_cases z : mI μ 55 0 11 = nI 400
    · rw [if_pos z, ob_eq (m_fail_er h _)]
      exact ⟨μ, rfl, h, Fr.rf _ _⟩
    · rw [if_neg z]
      refine ⟨_, rfl, ⟨?_, h.2.1, ?_⟩, Fr.stI (Fr.rf _ _) (iT 0 rfl inA_ns)⟩
      · rw [mI_stI, if_neg (by omega)]; exact h.1
      · rw [mI_stI, if_neg (by omega)]; exact h.2.2
theorem m_must_e {Z : Tks} {μ : Mem} {e : Rs} (hz : ZOK Z) (h : RM Z e μ) {k x : Nat} (hk : k < 43) (hx : x = kM k) : ∃ μ', m_must (nI x) μ = some ((), μ') ∧ RM Z (bG e (gTake Z k)) μ' ∧ Fr TM μ μ' := by
  have h0 := h
  unfold m_must
  rcases h.k with ⟨s, rfl, h, hs⟩ | ⟨φ, rfl, h⟩
  · show ∃ μ', _ ∧ RM Z (gTake Z k s) μ' ∧ _
    unfold gTake
    rw [ob_eq (m_is_ok h hs hz (show k < 44 by omega) hx)]
    by_cases z : tkd Z (yT s) = k
    · rw [if_pos z, decide_eq_true z, if_neg (show ¬ b01I true = nI 0 by decide)]
      obtain ⟨μ', e1, e2, e3⟩ := m_goesOn_e h0 (fun r hr => by cases hr; omega)
      rw [ob_eq e1]
      exact ⟨μ', rfl, e2, e3⟩
    · rw [if_neg z, decide_eq_false z, if_pos (show b01I false = nI 0 from rfl)]
      obtain ⟨μ', e1, e2, e3⟩ := m_fail_ok h hs (c := 1) (Or.inl rfl)
      rw [ob_eq e1]
      exact ⟨μ', rfl, e2, e3⟩
  · rw [ob_eq (m_is_er h _), if_pos rfl, ob_eq (m_fail_er h _)]
    exact ⟨μ, rfl, h, Fr.rf _ _⟩
theorem m_wrong_e {Z : Tks} {μ : Mem} {s : Sg} (hz : ZOK Z) (h : CuM Z μ s) (h6 : (yL s).1 ≤ 6) {c i : Nat} (hc : c ≤ 6) (hi : i ≤ 400) (hl : i ≤ Z.1.length) (hj : (yL s).1 ≠ 0 → ∃ j, (yL s).2 = nI (tpl Z j) ∧ (j < i ∨ (j = i ∧ (yL s).1 ≤ c))) : ∃ μ', m_wrong (nI c) (nI i) μ = some ((), μ') ∧ CuM Z μ' (lat Z c i s) ∧ Fr TM μ μ' := by
  have h0 := h
  obtain ⟨a, b, c1, d, e⟩ := h
  have p2 := (a i hl hi).2.1
  unfold m_wrong lat
  rw [if_pos (inB_nI (by omega) (by omega)), c1, if_neg (nI_nlt (Nat.le_refl 0) (by omega)), d, cl_nI (by omega), p2]
  by_cases z : (yL s).1 = 0
  · have g : Fr TM μ (stI (stI μ 55 0 15 (nI c)) 55 0 16 (nI (tpl Z i))) := Fr.stI (Fr.stI (Fr.rf _ _) (iT 3 rfl inA_ns)) (iT 4 rfl inA_ns)
    rw [if_pos z, if_pos (congrArg nI z), mb_e]
    refine ⟨_, rfl, ⟨a.fr g rfl, ?_, ?_, ?_, fun _ => ?_⟩, g⟩
    · rw [mI_stI, if_neg (by omega), mI_stI, if_neg (by omega)]; exact b
    · rw [mI_stI, if_neg (by omega), mI_stI, if_neg (by omega)]; exact c1
    · rw [mI_stI, if_neg (by omega), mI_stI, if_pos ⟨rfl, rfl, rfl⟩]; rfl
    · rw [mI_stI, if_pos ⟨rfl, rfl, rfl⟩]; rfl
  · obtain ⟨j, j1, j2⟩ := hj z
    have pj := hz.2.2.2.2.2 j
    have pi := hz.2.2.2.2.2 i
    rw [if_neg z, if_neg (nI_ne z (by omega) (by omega)), e z, j1]
    rcases j2 with j2 | ⟨j2, j3⟩
    · have lt := hz.1 j i j2 hl
      rw [if_pos (nI_lt lt (by omega))]
      exact ⟨μ, rfl, h0, Fr.rf _ _⟩
    · subst j2
      rw [if_neg (nI_nlt (Nat.le_refl _) (by omega)), if_pos rfl, if_neg (nI_nlt j3 (by omega))]
      exact ⟨μ, rfl, h0, Fr.rf _ _⟩
theorem SgI.jl {Z : Tks} {s : Sg} (h : SgI Z s) {c : Nat} : (yL s).1 ≠ 0 → ∃ j, (yL s).2 = nI (tpl Z j) ∧ (j < yT s ∨ (j = yT s ∧ (yL s).1 ≤ c)) := fun z => by
  obtain ⟨j, a, b⟩ := h.2.2.2.2.2.2.1 z
  exact ⟨j, b, Or.inl a⟩
theorem m_bounded_e {Z : Tks} {μ : Mem} {e : Rs} (hz : ZOK Z) (h : RM Z e μ) {a b : Nat} (ha : a < 10000) (hb : b < 10000) : ∃ r μ', m_bounded (nI a) (nI b) μ = some (r, μ') ∧ RM Z (bG e (gNum Z a b)) μ' ∧ Fr TM μ μ' ∧ ∀ s q, e = .ok s → gNum Z a b s = .ok q → r = nI (tvl Z (yT s)) := by
  have h0 := h
  unfold m_bounded
  rcases h.k with ⟨s, rfl, h, hs⟩ | ⟨φ, rfl, h⟩
  · obtain ⟨-, -, -, -, -, s6, -, s1, s2⟩ := id hs
    show ∃ r μ', _ ∧ RM Z (gNum Z a b s) μ' ∧ _
    rw [h.2.2.1, if_neg (nI_nlt (Nat.le_refl 0) (by omega)), ob_eq (m_is_ok h hs hz (show 41 < 44 by omega) (show 2 = kM 41 from rfl))]
    by_cases z : tkd Z (yT s) = 41
    · have v4 := hz.2.2.2.1 _ z
      have hv := (h.1 _ s2 s1).2.2.1 z
      rw [decide_eq_true z, if_neg (show ¬ b01I true = nI 0 by decide), h.2.1, if_pos (inB_nI (by omega) (by omega)), cl_nI (by omega), hv]
      have gp : gTake Z 41 s = gPass Z s := by unfold gTake; rw [if_pos z]
      have vr : ∀ (s' q : Sg), Except.ok s = (Except.ok s' : Rs) → gNum Z a b s' = .ok q → nI (tvl Z (yT s)) = nI (tvl Z (yT s')) := fun s' q e1 _ => by cases e1; rfl
      have bad : (tvl Z (yT s) < a ∨ b < tvl Z (yT s)) → ∃ ν μ', m_wrong (nI 5) (nI (yT s)) μ = some ((), ν) ∧ m_goesOn ν = some ((), μ') ∧ RM Z (gNum Z a b s) μ' ∧ Fr TM μ μ' := fun hbad => by
        obtain ⟨ν, e1, c1, g1⟩ := m_wrong_e hz h s6 (c := 5) (i := yT s) (by omega) s1 s2 hs.jl
        -- the later fault is put in before the token is passed
        have lT := lat_T Z 5 (yT s) s
        refine ⟨ν, ?_⟩
        unfold m_goesOn gNum
        rw [gp]
        unfold gPass
        rw [c1.2.1, lT.1]
        by_cases y : yT s = 400
        · rw [if_pos y, if_pos (congrArg nI y)]
          have f1 : mI (stI ν 55 0 13 (nI 2)) 55 0 11 = nI (yT s) := by rw [mI_stI, if_neg (by omega), c1.2.1, lT.1]
          have f2 : mI (stI ν 55 0 13 (nI 2)) 59 0 (yT s) = nI (tpl Z (yT s)) := by rw [mI_stI, if_neg (by omega)]; exact (c1.1 _ s2 s1).2.1
          refine ⟨stI (stI ν 55 0 13 (nI 2)) 55 0 14 (nI (tpl Z (yT s))), e1, ?_, ⟨?_, Or.inr rfl, ?_⟩, Fr.tr (Fr.stI (Fr.stI (Fr.rf _ _) (iT 1 rfl inA_ns)) (iT 2 rfl inA_ns)) g1⟩
          · unfold m_fail
            rw [c1.2.2.1, if_pos (Int32.le_refl _), f1, if_pos (inB_nI (by omega) (by omega)), cl_nI (by omega), f2, mb_e]
            rfl
          · rw [mI_stI, if_neg (by omega), mI_stI, if_pos ⟨rfl, rfl, rfl⟩]
          · rw [mI_stI, if_pos ⟨rfl, rfl, rfl⟩]
        · rw [if_neg y, if_neg (nI_ne y (by omega) (by omega)), nI_add]
          have g : Fr TM ν (stI ν 55 0 11 (nI (yT s + 1))) := Fr.stI (Fr.rf _ _) (iT 0 rfl inA_ns)
          have le : (yL (lat Z 5 (yT s) (wyT s (yT s + 1)))) = yL (lat Z 5 (yT s) s) := by
            unfold lat
            show yL (if (yL s).1 = 0 then _ else _) = yL (if (yL s).1 = 0 then _ else _)
            split <;> rfl
          obtain ⟨a1, a2, a3, a4, a5⟩ := c1
          refine ⟨_, e1, rfl, ?_, Fr.tr g g1⟩
          show RM Z (.ok (if tvl Z (yT s) < a ∨ b < tvl Z (yT s) then lat Z 5 (yT s) (wyT s (yT s + 1)) else wyT s (yT s + 1))) _
          rw [if_pos hbad]
          refine ⟨⟨a1.fr g rfl, ?_, ?_, ?_, fun y => ?_⟩, (hs.wyT y (by omega)).later (by omega) (Nat.lt_succ_self _)⟩
          · rw [mI_stI, if_pos ⟨rfl, rfl, rfl⟩, (lat_T Z 5 (yT s) (wyT s (yT s + 1))).1]; rfl
          · rw [mI_stI, if_neg (by omega)]; exact a3
          · rw [mI_stI, if_neg (by omega), le]; exact a4
          · rw [mI_stI, if_neg (by omega), le]; exact a5 (by rw [← le]; exact y)
      by_cases c1 : tvl Z (yT s) < a
      · rw [if_pos (nI_lt c1 (by omega))]
        obtain ⟨ν, μ', e1, e2, e3, e4⟩ := bad (Or.inl c1)
        rw [ob_eq e1, ob_eq e2]
        exact ⟨_, μ', rfl, e3, e4, vr⟩
      · rw [if_neg (nI_nlt (show a ≤ tvl Z (yT s) by omega) (by omega))]
        by_cases c2 : tvl Z (yT s) ≤ b
        · rw [if_pos (nI_le c2 (by omega))]
          obtain ⟨μ', e1, e2, e3⟩ := m_goesOn_e h0 (fun r hr => by cases hr; omega)
          rw [ob_eq e1]
          refine ⟨_, μ', rfl, ?_, e3, vr⟩
          have e2' : RM Z (gPass Z s) μ' := e2
          unfold gNum
          rw [gp]
          cases hp : gPass Z s with
          | error φ => rw [hp] at e2'; exact e2'
          | ok r =>
            rw [hp] at e2'
            show RM Z (.ok (if tvl Z (yT s) < a ∨ b < tvl Z (yT s) then lat Z 5 (yT s) r else r)) μ'
            rw [if_neg (by omega)]; exact e2'
        · rw [if_neg (nI_ge (show b < tvl Z (yT s) by omega) (by omega))]
          obtain ⟨ν, μ', e1, e2, e3, e4⟩ := bad (Or.inr (by omega))
          rw [ob_eq e1, ob_eq e2]
          exact ⟨_, μ', rfl, e3, e4, vr⟩
    · rw [decide_eq_false z, if_pos (show b01I false = nI 0 from rfl)]
      obtain ⟨μ', e1, e2, e3⟩ := m_fail_ok h hs (c := 1) (Or.inl rfl)
      have gt : gNum Z a b s = .error (1, nI (tpl Z (yT s))) := by unfold gNum gTake; rw [if_neg z]; rfl
      rw [ob_eq e1, gt]
      exact ⟨_, μ', rfl, e2, e3, fun s' q e4 e5 => by (cases e4; rw [gt] at e5; cases e5)⟩
  · rw [if_pos h.lt, ob_eq (m_fail_er h _)]
    exact ⟨_, μ, rfl, h, Fr.rf _ _, fun s q e1 => by (cases e1)⟩

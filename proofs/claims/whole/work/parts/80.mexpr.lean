/-! the reference reads: expressions -/
def KSM (μ : Mem) (st : List Nat) : Prop := mI μ 55 0 46 = nI st.length ∧ ∀ i, i < st.length → mI μ 85 0 i = nI (kM (st.getD (st.length - 1 - i) 0))
/-- codes from c0 on -/
def CdM (c0 : Nat) (μ : Mem) (out : Rp) : Prop := mI μ 55 0 42 = nI (c0 + out.length) ∧ isR μ c0 out
/-- codes elsewhere stay -/
def CdK (c0 hi : Nat) (μ μ' : Mem) : Prop := ∀ r j, r = 83 ∨ r = 84 → ¬ (c0 ≤ j ∧ j < hi) → mI μ' r 0 j = mI μ r 0 j
theorem CdK.rf (c0 hi : Nat) (μ : Mem) : CdK c0 hi μ μ := fun _ _ _ _ => rfl
theorem CdK.tr {c0 hi : Nat} {a b c : Mem} (g : CdK c0 hi b c) (h : CdK c0 hi a b) : CdK c0 hi a c := fun r j h1 h2 => (g r j h1 h2).trans (h r j h1 h2)
theorem CdK.fr {c0 hi : Nat} {a b c : Mem} {T : List At} (h : CdK c0 hi a b) (g : Fr T b c) (o : offR [83, 84] T = true) : CdK c0 hi a c := fun r j h1 h2 => (g.I (by rcases h1 with rfl | rfl <;> exact offR_f o rfl _ _)).trans (h r j h1 h2)
theorem CdM.fr {c0 : Nat} {μ μ' : Mem} {out : Rp} {T : List At} (h : CdM c0 μ out) (g : Fr T μ μ') (o : offR [83, 84] T = true) (k : inT T 55 0 42 = false) : CdM c0 μ' out := ⟨(g.I k).trans h.1, fun i hi => ⟨(g.I (offR_f o rfl _ _)).trans (h.2 i hi).1, (g.I (offR_f o rfl _ _)).trans (h.2 i hi).2⟩⟩
theorem KSM.fr {μ μ' : Mem} {st : List Nat} {T : List At} (h : KSM μ st) (g : Fr T μ μ') (o : offR [85] T = true) (k : inT T 55 0 46 = false) : KSM μ' st := ⟨(g.I k).trans h.1, fun i hi => (g.I (offR_f o rfl _ _)).trans (h.2 i hi)⟩
theorem KSM.top {μ : Mem} {k : Nat} {st : List Nat} (h : KSM μ (k :: st)) : mI μ 85 0 st.length = nI (kM k) := by
  have := h.2 st.length (by simp)
  simpa using this
theorem KSM.pop {μ : Mem} {k : Nat} {st : List Nat} (h : KSM μ (k :: st)) : KSM (stI μ 55 0 46 (nI st.length)) st := ⟨by rw [mI_stI, if_pos ⟨rfl, rfl, rfl⟩], fun i hi => by
  rw [mI_stI, if_neg (by omega)]
  have := h.2 i (by simp; omega)
  rw [this, List.length_cons, show st.length + 1 - 1 - i = (st.length - 1 - i) + 1 by omega, List.getD_cons_succ]⟩
theorem KSM.push {μ : Mem} {st : List Nat} (h : KSM μ st) (k : Nat) : KSM (stI (stI μ 85 0 st.length (nI (kM k))) 55 0 46 (nI (st.length + 1))) (k :: st) := ⟨by rw [mI_stI, if_pos ⟨rfl, rfl, rfl⟩]; rfl, fun i hi => by
  rw [mI_stI, if_neg (by omega), mI_stI]
  rw [List.length_cons] at hi ⊢
  by_cases c : i = st.length
  · rw [if_pos ⟨rfl, rfl, c⟩, show st.length + 1 - 1 - i = 0 by omega]; rfl
  · rw [if_neg (by omega), h.2 i (by omega), show st.length + 1 - 1 - i = (st.length - 1 - i) + 1 by omega, List.getD_cons_succ]⟩
def TC : List At := [(83, none, none), (84, none, none), (55, none, some 42), (55, none, some 46)]
theorem getD_snoc (l : Rp) (q : Nat × Nat) (i : Nat) : (l ++ [q]).getD i (0, 0) = if i < l.length then l.getD i (0, 0) else if i = l.length then q else (0, 0) := by
  rw [List.getD_eq_getElem?_getD, List.getD_eq_getElem?_getD]
  rcases Nat.lt_trichotomy i l.length with c | c | c
  · rw [if_pos c, List.getElem?_append_left c]
  · rw [if_neg (by omega), if_pos c, List.getElem?_append_right (by omega), c, Nat.sub_self]; rfl
  · rw [if_neg (by omega), if_neg (by omega), List.getElem?_eq_none (by simp; omega)]; rfl
theorem m_emit_e {c0 hi : Nat} {μ : Mem} {out : Rp} {a b : Nat} (h : CdM c0 μ out) (hb : c0 + out.length < hi) (hh : hi ≤ 840) : ∃ μ', m_emit (nI a) (nI b) μ = some ((), μ') ∧ CdM c0 μ' (out ++ [(a, b)]) ∧ CdK c0 hi μ μ' ∧ Fr TC μ μ' := by
  have f1 : mI (stI μ 83 0 (c0 + out.length) (nI a)) 55 0 42 = nI (c0 + out.length) := by rw [mI_stI, if_neg (by omega)]; exact h.1
  have f2 : mI (stI (stI μ 83 0 (c0 + out.length) (nI a)) 84 0 (c0 + out.length) (nI b)) 55 0 42 = nI (c0 + out.length) := by rw [mI_stI, if_neg (by omega)]; exact f1
  unfold m_emit
  rw [h.1, if_pos (inB_nI (by omega) (by omega)), cl_nI (by omega), f1, if_pos (inB_nI (by omega) (by omega)), cl_nI (by omega), mb_e, f2, nI_add, mb_e]
  refine ⟨_, rfl, ⟨by rw [mI_stI, if_pos ⟨rfl, rfl, rfl⟩, List.length_append]; rfl, fun i hi => ?_⟩, fun r j h1 h2 => ?_, Fr.stI (Fr.stI (Fr.stI (Fr.rf _ _) (iT 0 rfl inA_nn)) (iT 1 rfl inA_nn)) (iT 2 rfl inA_ns)⟩
  · rw [List.length_append, List.length_singleton] at hi
    rw [getD_snoc]
    by_cases c : i = out.length
    · rw [if_neg (by omega), if_pos c]
      refine ⟨?_, ?_⟩
      · rw [mI_stI, if_neg (by omega), mI_stI, if_neg (by omega), mI_stI, if_pos ⟨rfl, rfl, by omega⟩]
      · rw [mI_stI, if_neg (by omega), mI_stI, if_pos ⟨rfl, rfl, by omega⟩]
    · rw [if_pos (by omega)]
      refine ⟨?_, ?_⟩
      · rw [mI_stI, if_neg (by omega), mI_stI, if_neg (by omega), mI_stI, if_neg (by omega)]
        exact (h.2 i (by omega)).1
      · rw [mI_stI, if_neg (by omega), mI_stI, if_neg (by omega), mI_stI, if_neg (by omega)]
        exact (h.2 i (by omega)).2
  · rw [mI_stI, if_neg (by omega), mI_stI, if_neg (by omega), mI_stI, if_neg (by omega)]
theorem kM_32 : kM 32 = 8 := rfl
theorem kM_33 : kM 33 = 9 := rfl
theorem kM_34 : kM 34 = 10 := rfl
theorem kM_35 : kM 35 = 15 := rfl
theorem kM_37 : kM 37 = 6 := rfl
theorem rk_32 : rkT 32 = 1 := rfl
theorem rk_33 : rkT 33 = 1 := rfl
theorem rk_34 : rkT 34 = 2 := rfl
theorem rk_35 : rkT 35 = 2 := rfl
theorem comesB {μ : Mem} {k : Nat} {t : List Nat} {r : Nat} {x : Int32} {self : Mem → Option (Unit × Mem)} (h : KSM μ (k :: t)) (ht : t.length < 64) (hk : k = 37 ∨ (32 ≤ k ∧ k ≤ 35)) (hr : (r = 1 ∧ x = nI 0) ∨ (r = 2 ∧ x = nI 1)) : m_comesOut_B0 x self μ = if r ≤ rkT k then ob (m_emit (nI (k - 30)) (nI 0) (stI μ 55 0 46 (nI t.length))) fun _ ν => self ν else some ((), μ) := by
  have f1 : mI μ 55 0 46 = nI (t.length + 1) := h.1
  have f2 := h.top
  unfold m_comesOut_B0
  rw [f1, if_neg (nI_ge (by omega) (by omega)), nI_sub1 (by omega), Nat.add_sub_cancel, if_pos (inB_nI (by omega) (by omega)), vb_e, cl_nI (by omega), f2]
  have hk' : k = 37 ∨ k = 32 ∨ k = 33 ∨ k = 34 ∨ k = 35 := by omega
  rcases hk' with rfl | rfl | rfl | rfl | rfl <;> rcases hr with ⟨rfl, rfl⟩ | ⟨rfl, rfl⟩ <;>
    simp (disch := omega) only [kM_32, kM_33, kM_34, kM_35, kM_37, rk_32, rk_33, rk_34, rk_35, rkT_37, nI_eqF, Nat.reduceLeDiff, Nat.reduceSub, Nat.le_refl, ↓reduceIte]
theorem comes_e {c0 hi : Nat} {r : Nat} {x : Int32} (hr : (r = 1 ∧ x = nI 0) ∨ (r = 2 ∧ x = nI 1)) (hh : hi ≤ 840) : ∀ (st : List Nat) (out : Rp) (μ : Mem) (fuel : Nat), st.length < fuel → st.length ≤ 30 → SegK st → KSM μ st → CdM c0 μ out → c0 + out.length + nOp st ≤ hi → ∃ μ', fixN (fun _ => none) (m_comesOut_B0 x) fuel μ = some ((), μ') ∧ KSM μ' (popW r st out).1 ∧ CdM c0 μ' (popW r st out).2 ∧ CdK c0 hi μ μ' ∧ Fr TC μ μ'
  | [], out, μ, fuel, hf, _, _, hs, he, _ => by
    obtain ⟨f, rfl⟩ : ∃ f, fuel = f + 1 := ⟨fuel - 1, by omega⟩
    have f1 : mI μ 55 0 46 = nI 0 := hs.1
    rw [fixN_s]
    unfold m_comesOut_B0
    rw [f1, if_pos (Int32.le_refl _)]
    exact ⟨μ, rfl, hs, he, CdK.rf _ _ _, Fr.rf _ _⟩
  | k :: t, out, μ, fuel, hf, hl, ⟨hg, ht⟩, hs, he, hb => by
    obtain ⟨f, rfl⟩ : ∃ f, fuel = f + 1 := ⟨fuel - 1, by omega⟩
    have l1 : (k :: t).length = t.length + 1 := rfl
    rw [fixN_s, comesB hs (by omega) (by omega) hr]
    have r1 : 1 ≤ r := by omega
    by_cases c : r ≤ rkT k
    · have kn : k ≠ 37 := fun z => by rw [z, rkT_37] at c; omega
      have no : nOp (k :: t) = 1 + nOp t := by show (if k = 37 then 0 else 1) + nOp t = _; rw [if_neg kn]
      have g0 : Fr TC μ (stI μ 55 0 46 (nI t.length)) := Fr.stI (Fr.rf _ _) (iT 3 rfl inA_ns)
      have g00 : Fr [(55, none, some 46)] μ (stI μ 55 0 46 (nI t.length)) := Fr.stI (Fr.rf _ _) (iT 0 rfl inA_ns)
      have he0 : CdM c0 (stI μ 55 0 46 (nI t.length)) out := he.fr g00 rfl rfl
      obtain ⟨μ1, e1, h1, k1, g1⟩ := m_emit_e (a := k - 30) (b := 0) he0 (show c0 + out.length < hi by omega) hh
      have gE := f_m_emit e1
      have s1 : KSM μ1 t := hs.pop.fr gE rfl rfl
      obtain ⟨μ2, e2, h2, h3, k2, g2⟩ := comes_e hr hh t (out ++ [(k - 30, 0)]) μ1 f (by omega) (by omega) ht s1 h1 (by rw [List.length_append, List.length_singleton]; omega)
      rw [if_pos c, ob_eq e1]
      unfold popW
      rw [if_pos c]
      exact ⟨μ2, e2, h2, h3, k2.tr (k1.tr ((CdK.rf _ _ _).fr g00 rfl)), Fr.tr g2 (Fr.tr g1 g0)⟩
    · rw [if_neg c]
      unfold popW
      rw [if_neg c]
      exact ⟨μ, rfl, hs, he, CdK.rf _ _ _, Fr.rf _ _⟩
def TX : List At := [(55, none, some 11), (55, none, some 13), (55, none, some 14), (55, none, some 15), (55, none, some 16), (83, none, none), (84, none, none), (55, none, some 42), (55, none, some 46), (85, none, none), (55, none, some 12)]
theorem TM_TX : Sb TM TX := sbc (sa_m 0 rfl) (sbc (sa_m 1 rfl) (sbc (sa_m 2 rfl) (sbc (sa_m 3 rfl) (sbc (sa_m 4 rfl) sbn))))
theorem TC_TX : Sb TC TX := sbc (sa_m 5 rfl) (sbc (sa_m 6 rfl) (sbc (sa_m 7 rfl) (sbc (sa_m 8 rfl) sbn)))
theorem kM_un : ∀ k, k < 44 → k ≠ 41 → (14 ≤ k ∧ k ≤ 22 ∧ kM k = k + 20) ∨ (¬ (14 ≤ k ∧ k ≤ 22) ∧ (kM k < 34 ∨ 42 < kM k)) := by decide +kernel
theorem m_unit_er {φ : Nat × Int32} {μ : Mem} (h : ErM φ μ) : m_unit μ = some ((), μ) := by
  unfold m_unit
  rw [ob_eq (m_is_er h _), if_pos rfl, if_neg h.nz, ob_eq (m_fail_er h _)]
theorem m_unit_e {Z : Tks} {μ : Mem} {s : Sg} {c0 hi : Nat} {out : Rp} (hz : ZOK Z) (h : CuM Z μ s) (hs : SgI Z s) (he : CdM c0 μ out) (hb : c0 + out.length < hi) (hh : hi ≤ 840) : (unT (tkd Z (yT s)) (tvl Z (yT s)) = none ∧ ∃ μ', m_unit μ = some ((), μ') ∧ ErM (1, nI (tpl Z (yT s))) μ' ∧ Fr TM μ μ') ∨ ∃ q μ', unT (tkd Z (yT s)) (tvl Z (yT s)) = some q ∧ m_unit μ = some ((), μ') ∧ RM Z (gPass Z s) μ' ∧ CdM c0 μ' (out ++ [q]) ∧ CdK c0 hi μ μ' ∧ Fr TX μ μ' ∧ Fr [(55, none, some 11), (55, none, some 13), (55, none, some 14), (55, none, some 15), (55, none, some 16), (83, none, none), (84, none, none), (55, none, some 42)] μ μ' := by
  have k44 := hz.2.1 (yT s)
  have t1 := hs.2.2.2.2.2.2.2.1
  have t2 := hs.2.2.2.2.2.2.2.2
  have kk : mI μ 58 0 (yT s) = nI (kM (tkd Z (yT s))) := (h.1 _ t2 t1).1
  have tl := kM_lt _ k44
  have go : ∀ q : Nat × Nat, tkd Z (yT s) ≠ 43 → ∃ ν μ', m_emit (nI q.1) (nI q.2) μ = some ((), ν) ∧ m_goesOn ν = some ((), μ') ∧ RM Z (gPass Z s) μ' ∧ CdM c0 μ' (out ++ [q]) ∧ CdK c0 hi μ μ' ∧ Fr TX μ μ' ∧ Fr [(55, none, some 11), (55, none, some 13), (55, none, some 14), (55, none, some 15), (55, none, some 16), (83, none, none), (84, none, none), (55, none, some 42)] μ μ' := fun q k43 => by
    obtain ⟨ν, e1, h1, k1, g1⟩ := m_emit_e (a := q.1) (b := q.2) he hb hh
    have gE := f_m_emit e1
    have c1 : CuM Z ν s := h.fr gE rfl rfl rfl rfl rfl
    obtain ⟨μ', e2, r2, g2⟩ := m_goesOn_e (e := .ok s) ⟨c1, hs⟩ (fun r hr => by cases hr; exact k43)
    refine ⟨ν, μ', e1, e2, r2, h1.fr g2 rfl rfl, k1.fr g2 rfl, Fr.tr (g2.mono TM_TX) (g1.mono TC_TX), Fr.tr (g2.mono ?_) (gE.mono ?_)⟩
    · exact sbc (sa_m 0 rfl) (sbc (sa_m 1 rfl) (sbc (sa_m 2 rfl) (sbc (sa_m 3 rfl) (sbc (sa_m 4 rfl) sbn))))
    · exact sbc (sa_m 5 rfl) (sbc (sa_m 6 rfl) (sbc (sa_m 7 rfl) sbn))
  unfold m_unit
  rw [ob_eq (m_is_ok h hs hz (show 41 < 44 by omega) (show 2 = kM 41 from rfl))]
  by_cases z : tkd Z (yT s) = 41
  · obtain ⟨ν, μ', e1, e2, e3⟩ := go (0, tvl Z (yT s)) (by omega)
    have hv := (h.1 _ t2 t1).2.2.1 z
    rw [decide_eq_true z, if_neg (show ¬ b01I true = nI 0 by decide), h.2.1, if_pos (inB_nI (by omega) (by omega)), cl_nI (by omega), hv, ob_eq e1, ob_eq e2]
    exact Or.inr ⟨(0, tvl Z (yT s)), μ', by unfold unT; rw [if_pos z], rfl, e3⟩
  · rw [decide_eq_false z, if_pos (show b01I false = nI 0 from rfl), h.2.2.1, if_pos rfl, h.2.1, if_pos (inB_nI (by omega) (by omega)), cl_nI (by omega), kk]
    rcases kM_un _ k44 z with ⟨a, b, c⟩ | ⟨a, b⟩
    · obtain ⟨ν, μ', e1, e2, e3⟩ := go (1, tkd Z (yT s) - 14) (by omega)
      rw [c, if_neg (nI_nlt (by omega) (by omega)), if_neg (nI_nlt (by omega) (by omega)), pk_sub (by omega), show tkd Z (yT s) + 20 - 34 = tkd Z (yT s) - 14 by omega, ob_eq e1, ob_eq e2]
      exact Or.inr ⟨(1, tkd Z (yT s) - 14), μ', by unfold unT; rw [if_neg z, if_pos ⟨a, b⟩], rfl, e3⟩
    · obtain ⟨μ1, e1, c1, g1⟩ := m_fail_ok h hs (c := 1) (Or.inl rfl)
      refine Or.inl ⟨by unfold unT; rw [if_neg z, if_neg a], μ1, ?_, c1, g1⟩
      by_cases c : kM (tkd Z (yT s)) < 34
      · rw [if_pos (nI_lt c (by omega)), ob_eq e1]
      · rw [if_neg (nI_nlt (by omega) (by omega)), if_pos (nI_lt (by omega) (by omega)), ob_eq e1]
def kMo (x1 : Int32) (k204 : Mem → Option (Unit × Mem)) (self : Int32 → Mem → Option (Unit × Mem)) (μ93 : Mem) : Option (Unit × Mem) :=
ob (m_is (nI 8) μ93) fun r100 μ97 =>
if r100 = (nI 0) then
ob (m_is (nI 9) μ97) fun r187 μ184 =>
if r187 = (nI 0) then
ob (m_is (nI 10) μ184) fun r274 μ271 =>
if r274 = (nI 0) then
ob (m_is (nI 15) μ271) fun r361 μ358 =>
if r361 = (nI 0) then
if (mI μ358 55 0 12) ≤ x1 then
k204 μ358 else
ob (m_fail (nI 1) μ358) fun _ μ370 =>
k204 μ370 else
ob (m_is (nI 10) μ358) fun r380 μ377 =>
if r380 = (nI 0) then
ob (m_is (nI 15) μ377) fun r408 μ405 =>
if r408 = (nI 0) then
ob (m_comesOut (nI 0) μ405) fun _ μ413 =>
if inB (mI μ413 55 0 11) 403 = true then
if inB (mI μ413 55 0 46) 64 = true then
mb (stI μ413 85 0 (cl (mI μ413 55 0 46)) (mI μ413 58 0 (cl (mI μ413 55 0 11)))) fun μ422 =>
mb (stI μ422 55 0 46 ((mI μ422 55 0 46) + (nI 1))) fun μ424 =>
ob (m_goesOn μ424) fun _ μ426 =>
self (nI 1) μ426 else none else none else
ob (m_comesOut (nI 1) μ405) fun _ μ433 =>
if inB (mI μ433 55 0 11) 403 = true then
if inB (mI μ433 55 0 46) 64 = true then
mb (stI μ433 85 0 (cl (mI μ433 55 0 46)) (mI μ433 58 0 (cl (mI μ433 55 0 11)))) fun μ442 =>
mb (stI μ442 55 0 46 ((mI μ442 55 0 46) + (nI 1))) fun μ444 =>
ob (m_goesOn μ444) fun _ μ446 =>
self (nI 1) μ446 else none else none else
ob (m_comesOut (nI 1) μ377) fun _ μ385 =>
if inB (mI μ385 55 0 11) 403 = true then
if inB (mI μ385 55 0 46) 64 = true then
mb (stI μ385 85 0 (cl (mI μ385 55 0 46)) (mI μ385 58 0 (cl (mI μ385 55 0 11)))) fun μ394 =>
mb (stI μ394 55 0 46 ((mI μ394 55 0 46) + (nI 1))) fun μ396 =>
ob (m_goesOn μ396) fun _ μ398 =>
self (nI 1) μ398 else none else none else
ob (m_is (nI 10) μ271) fun r283 μ280 =>
if r283 = (nI 0) then
ob (m_is (nI 15) μ280) fun r311 μ308 =>
if r311 = (nI 0) then
ob (m_comesOut (nI 0) μ308) fun _ μ316 =>
if inB (mI μ316 55 0 11) 403 = true then
if inB (mI μ316 55 0 46) 64 = true then
mb (stI μ316 85 0 (cl (mI μ316 55 0 46)) (mI μ316 58 0 (cl (mI μ316 55 0 11)))) fun μ325 =>
mb (stI μ325 55 0 46 ((mI μ325 55 0 46) + (nI 1))) fun μ327 =>
ob (m_goesOn μ327) fun _ μ329 =>
self (nI 1) μ329 else none else none else
ob (m_comesOut (nI 1) μ308) fun _ μ336 =>
if inB (mI μ336 55 0 11) 403 = true then
if inB (mI μ336 55 0 46) 64 = true then
mb (stI μ336 85 0 (cl (mI μ336 55 0 46)) (mI μ336 58 0 (cl (mI μ336 55 0 11)))) fun μ345 =>
mb (stI μ345 55 0 46 ((mI μ345 55 0 46) + (nI 1))) fun μ347 =>
ob (m_goesOn μ347) fun _ μ349 =>
self (nI 1) μ349 else none else none else
ob (m_comesOut (nI 1) μ280) fun _ μ288 =>
if inB (mI μ288 55 0 11) 403 = true then
if inB (mI μ288 55 0 46) 64 = true then
mb (stI μ288 85 0 (cl (mI μ288 55 0 46)) (mI μ288 58 0 (cl (mI μ288 55 0 11)))) fun μ297 =>
mb (stI μ297 55 0 46 ((mI μ297 55 0 46) + (nI 1))) fun μ299 =>
ob (m_goesOn μ299) fun _ μ301 =>
self (nI 1) μ301 else none else none else
ob (m_is (nI 10) μ184) fun r196 μ193 =>
if r196 = (nI 0) then
ob (m_is (nI 15) μ193) fun r224 μ221 =>
if r224 = (nI 0) then
ob (m_comesOut (nI 0) μ221) fun _ μ229 =>
if inB (mI μ229 55 0 11) 403 = true then
if inB (mI μ229 55 0 46) 64 = true then
mb (stI μ229 85 0 (cl (mI μ229 55 0 46)) (mI μ229 58 0 (cl (mI μ229 55 0 11)))) fun μ238 =>
mb (stI μ238 55 0 46 ((mI μ238 55 0 46) + (nI 1))) fun μ240 =>
ob (m_goesOn μ240) fun _ μ242 =>
self (nI 1) μ242 else none else none else
ob (m_comesOut (nI 1) μ221) fun _ μ249 =>
if inB (mI μ249 55 0 11) 403 = true then
if inB (mI μ249 55 0 46) 64 = true then
mb (stI μ249 85 0 (cl (mI μ249 55 0 46)) (mI μ249 58 0 (cl (mI μ249 55 0 11)))) fun μ258 =>
mb (stI μ258 55 0 46 ((mI μ258 55 0 46) + (nI 1))) fun μ260 =>
ob (m_goesOn μ260) fun _ μ262 =>
self (nI 1) μ262 else none else none else
ob (m_comesOut (nI 1) μ193) fun _ μ201 =>
if inB (mI μ201 55 0 11) 403 = true then
if inB (mI μ201 55 0 46) 64 = true then
mb (stI μ201 85 0 (cl (mI μ201 55 0 46)) (mI μ201 58 0 (cl (mI μ201 55 0 11)))) fun μ210 =>
mb (stI μ210 55 0 46 ((mI μ210 55 0 46) + (nI 1))) fun μ212 =>
ob (m_goesOn μ212) fun _ μ214 =>
self (nI 1) μ214 else none else none else
ob (m_is (nI 10) μ97) fun r109 μ106 =>
if r109 = (nI 0) then
ob (m_is (nI 15) μ106) fun r137 μ134 =>
if r137 = (nI 0) then
ob (m_comesOut (nI 0) μ134) fun _ μ142 =>
if inB (mI μ142 55 0 11) 403 = true then
if inB (mI μ142 55 0 46) 64 = true then
mb (stI μ142 85 0 (cl (mI μ142 55 0 46)) (mI μ142 58 0 (cl (mI μ142 55 0 11)))) fun μ151 =>
mb (stI μ151 55 0 46 ((mI μ151 55 0 46) + (nI 1))) fun μ153 =>
ob (m_goesOn μ153) fun _ μ155 =>
self (nI 1) μ155 else none else none else
ob (m_comesOut (nI 1) μ134) fun _ μ162 =>
if inB (mI μ162 55 0 11) 403 = true then
if inB (mI μ162 55 0 46) 64 = true then
mb (stI μ162 85 0 (cl (mI μ162 55 0 46)) (mI μ162 58 0 (cl (mI μ162 55 0 11)))) fun μ171 =>
mb (stI μ171 55 0 46 ((mI μ171 55 0 46) + (nI 1))) fun μ173 =>
ob (m_goesOn μ173) fun _ μ175 =>
self (nI 1) μ175 else none else none else
ob (m_comesOut (nI 1) μ106) fun _ μ114 =>
if inB (mI μ114 55 0 11) 403 = true then
if inB (mI μ114 55 0 46) 64 = true then
mb (stI μ114 85 0 (cl (mI μ114 55 0 46)) (mI μ114 58 0 (cl (mI μ114 55 0 11)))) fun μ123 =>
mb (stI μ123 55 0 46 ((mI μ123 55 0 46) + (nI 1))) fun μ125 =>
ob (m_goesOn μ125) fun _ μ127 =>
self (nI 1) μ127 else none else none
def kU (x1 : Int32) (k204 : Mem → Option (Unit × Mem)) (self : Int32 → Mem → Option (Unit × Mem)) (μ53 : Mem) : Option (Unit × Mem) :=
ob (m_unit μ53) fun _ μ57 =>
if (mI μ57 55 0 13) ≤ (nI 0) then
m_expression_L96 x1 (kMo x1 k204 self) μ57 else
some ((), μ57)
theorem expB12 (x1 : Int32) (k204 : Mem → Option (Unit × Mem)) (self : Int32 → Mem → Option (Unit × Mem)) (x2 : Int32) (μ : Mem) : m_expression_B12 x1 k204 self x2 μ = if x2 = nI 0 then some ((), μ) else if mI μ 55 0 13 = nI 0 then m_expression_L23 x1 (kU x1 k204 self) μ else some ((), μ) := rfl
theorem kMo_op {Z : Tks} {μ : Mem} {s : Sg} (hz : ZOK Z) (h : CuM Z μ s) (hs : SgI Z s) (hr : rkT (tkd Z (yT s)) ≠ 0) (x1 : Int32) (k204 : Mem → Option (Unit × Mem)) (self : Int32 → Mem → Option (Unit × Mem)) : kMo x1 k204 self μ = ob (m_comesOut (nI (rkT (tkd Z (yT s)) - 1)) μ) fun _ μ413 =>
if inB (mI μ413 55 0 11) 403 = true then
if inB (mI μ413 55 0 46) 64 = true then
mb (stI μ413 85 0 (cl (mI μ413 55 0 46)) (mI μ413 58 0 (cl (mI μ413 55 0 11)))) fun μ422 =>
mb (stI μ422 55 0 46 ((mI μ422 55 0 46) + (nI 1))) fun μ424 =>
ob (m_goesOn μ424) fun _ μ426 =>
self (nI 1) μ426 else none else none := by
  have f8 := m_is_ok h hs hz (show 32 < 44 by omega) (show 8 = kM 32 from rfl)
  have f9 := m_is_ok h hs hz (show 33 < 44 by omega) (show 9 = kM 33 from rfl)
  have f10 := m_is_ok h hs hz (show 34 < 44 by omega) (show 10 = kM 34 from rfl)
  have f15 := m_is_ok h hs hz (show 35 < 44 by omega) (show 15 = kM 35 from rfl)
  have hk := rkT_pos hr
  have hk' : tkd Z (yT s) = 32 ∨ tkd Z (yT s) = 33 ∨ tkd Z (yT s) = 34 ∨ tkd Z (yT s) = 35 := by omega
  unfold kMo
  rcases hk' with z | z | z | z <;> rw [z] at f8 f9 f10 f15 ⊢
  · rw [show b01I (decide ((32 : Nat) = 32)) = nI 1 from rfl] at f8
    rw [show b01I (decide ((32 : Nat) = 34)) = nI 0 from rfl] at f10
    rw [show b01I (decide ((32 : Nat) = 35)) = nI 0 from rfl] at f15
    rw [ob_eq f8, if_neg nI_1n0, ob_eq f10, if_pos rfl, ob_eq f15, if_pos rfl]
    rfl
  · rw [show b01I (decide ((33 : Nat) = 32)) = nI 0 from rfl] at f8
    rw [show b01I (decide ((33 : Nat) = 33)) = nI 1 from rfl] at f9
    rw [show b01I (decide ((33 : Nat) = 34)) = nI 0 from rfl] at f10
    rw [show b01I (decide ((33 : Nat) = 35)) = nI 0 from rfl] at f15
    rw [ob_eq f8, if_pos rfl, ob_eq f9, if_neg nI_1n0, ob_eq f10, if_pos rfl, ob_eq f15, if_pos rfl]
    rfl
  · rw [show b01I (decide ((34 : Nat) = 32)) = nI 0 from rfl] at f8
    rw [show b01I (decide ((34 : Nat) = 33)) = nI 0 from rfl] at f9
    rw [show b01I (decide ((34 : Nat) = 34)) = nI 1 from rfl] at f10
    rw [ob_eq f8, if_pos rfl, ob_eq f9, if_pos rfl, ob_eq f10, if_neg nI_1n0, ob_eq f10, if_neg nI_1n0]
    rfl
  · rw [show b01I (decide ((35 : Nat) = 32)) = nI 0 from rfl] at f8
    rw [show b01I (decide ((35 : Nat) = 33)) = nI 0 from rfl] at f9
    rw [show b01I (decide ((35 : Nat) = 34)) = nI 0 from rfl] at f10
    rw [show b01I (decide ((35 : Nat) = 35)) = nI 1 from rfl] at f15
    rw [ob_eq f8, if_pos rfl, ob_eq f9, if_pos rfl, ob_eq f10, if_pos rfl, ob_eq f15, if_neg nI_1n0, ob_eq f10, if_pos rfl, ob_eq f15, if_neg nI_1n0]
    rfl
theorem kMo_no {μ : Mem} (x1 : Int32) (k204 : Mem → Option (Unit × Mem)) (self : Int32 → Mem → Option (Unit × Mem)) (f8 : m_is (nI 8) μ = some (nI 0, μ)) (f9 : m_is (nI 9) μ = some (nI 0, μ)) (f10 : m_is (nI 10) μ = some (nI 0, μ)) (f15 : m_is (nI 15) μ = some (nI 0, μ)) : kMo x1 k204 self μ = if mI μ 55 0 12 ≤ x1 then k204 μ else ob (m_fail (nI 1) μ) fun _ ν => k204 ν := by
  unfold kMo
  rw [ob_eq f8, if_pos rfl, ob_eq f9, if_pos rfl, ob_eq f10, if_pos rfl, ob_eq f15, if_pos rfl]
theorem is_no {Z : Tks} {μ : Mem} {s : Sg} (hz : ZOK Z) (h : CuM Z μ s) (hs : SgI Z s) {k x : Nat} (hk : k < 44) (hx : x = kM k) (hn : tkd Z (yT s) ≠ k) : m_is (nI x) μ = some (nI 0, μ) := by
  rw [m_is_ok h hs hz hk hx, decide_eq_false hn]
  rfl


/-! the reference reads: fields, notches, drains -/
theorem bG_bind (e : Rs) (f g : Sg → Rs) {φ : Nat × Int32} (h : bG e f = .error φ) : bG e (fun s => bG (f s) g) = .error φ := by
  rw [← bG_as, h]; rfl
theorem m_tellField_e {Z : Tks} {d : Nat} {μ : Mem} {s : Sg} (hz : ZOK Z) (h : CuM Z μ s) (hs : SgI Z s) (p : PnM d μ s) (c6 : (yC s).2.1 ≠ 6) : ∃ μ', m_tellField μ = some ((), μ') ∧ RQ Z d μ (bG (gNew Z s) fun q => bG (gNum Z 1 99 q) fun p => bG (gTake Z 30 p) fun o => .ok (adFld (tvl Z (yT s)) (nI (tvl Z (yT q))) o)) μ' := by
  obtain ⟨pk, nm⟩ := p
  have d2 := pk.1
  have s0 := hs.1
  have s1 := hs.2.1
  have nl := hs.nm.1
  obtain ⟨t, μ1, e1, r1, g1, v1⟩ := m_named_e hz (e := .ok s) ⟨h, hs⟩ (fun s' e => by cases e; exact nm)
  have r1' : RM Z (gNew Z s) μ1 := r1
  obtain ⟨x, μ2, e2, r2, g2, v2⟩ := m_bounded_e hz r1' (show 1 < 10000 by omega) (show 99 < 10000 by omega)
  have pk2 := (pk.fr g1 rfl rfl).fr g2 rfl rfl
  have nm2 := (nm.fr g1 rfl rfl).fr g2 rfl rfl
  generalize hk : 6 * d + (yC s).2.1 = k
  generalize hM : stI (stI (stI μ2 67 0 k x) 68 0 k (-2 : Int32)) 69 0 k (nI 0) = M
  have gM : Fr [(67, none, none), (68, none, none), (69, none, none)] μ2 M := by rw [← hM]; exact Fr.stI (Fr.stI (Fr.stI (Fr.rf _ _) (iT 0 rfl inA_nn)) (iT 1 rfl inA_nn)) (iT 2 rfl inA_nn)
  have rM := r2.fr gM rfl rfl rfl rfl rfl rfl
  have nmM := nm2.fr gM rfl rfl
  have pkM : PkM d M (yC s) (yA s) := by
    rw [← hM]
    exact ((pk2.st (by omega) (by omega) (by omega) (by omega)).st (by omega) (by omega) (by omega) (by omega)).st (by omega) (by omega) (by omega) (by omega)
  have S2 : Sd d μ M := by
    rw [← hM]
    refine (((((Sd.rf _ _).fr g1 rfl).fr g2 rfl).st ?_).st ?_).st ?_
    · show 6 * d ≤ k ∧ k < 6 * d + 6; omega
    · show 6 * d ≤ k ∧ k < 6 * d + 6; omega
    · show 6 * d ≤ k ∧ k < 6 * d + 6; omega
  have G2 : Fr TP μ M := by
    rw [← hM]
    exact Fr.stI (Fr.stI (Fr.stI (Fr.tr (g2.mono TM_TP) (g1.mono TM_TP)) (iT 10 rfl inA_nn)) (iT 11 rfl inA_nn)) (iT 12 rfl inA_nn)
  have q67 : mI M 67 0 k = x := by rw [← hM, mI_stI, if_neg (by omega), mI_stI, if_neg (by omega), mI_stI, if_pos ⟨rfl, rfl, rfl⟩]
  have q68 : mI M 68 0 k = (-2 : Int32) := by rw [← hM, mI_stI, if_neg (by omega), mI_stI, if_pos ⟨rfl, rfl, rfl⟩]
  have q69 : mI M 69 0 k = nI 0 := by rw [← hM, mI_stI, if_pos ⟨rfl, rfl, rfl⟩]
  obtain ⟨μ3, e3, r3, g3, v3⟩ := m_endsName_e (v := tvl Z (yT s)) (a := 10 + (yC s).2.1) hz rM nmM (by omega) (by omega) (r := t) (fun q eq => by
    obtain ⟨q0, eq0, -⟩ := bG_ok eq
    obtain ⟨-, -, -, -, -, -, q7, -, -⟩ := gNew_I hs eq0
    exact ⟨yT s, v1 _ q0 rfl eq0, hs.2.2.2.2.2.2.2.1, hs.2.2.2.2.2.2.2.2, q7, rfl⟩)
  have pk3 := pkM.fr g3 rfl rfl
  have S3 := S2.fr g3 rfl
  have G3 : Fr TP μ μ3 := Fr.tr (g3.mono TE_TP) G2
  have head : m_tellField μ = if mI μ3 55 0 13 = nI 0 then some ((), stI μ3 66 0 d (nI ((yC s).2.1 + 1))) else some ((), μ3) := by
    have m19 : mI (stI (stI (stI μ2 67 0 k x) 68 0 k (-2 : Int32)) 69 0 k (nI 0)) 55 0 19 = nI d := by rw [hM]; exact pkM.2.1
    have m66 : mI (stI (stI (stI μ2 67 0 k x) 68 0 k (-2 : Int32)) 69 0 k (nI 0)) 66 0 d = nI (yC s).2.1 := by rw [hM]; exact pkM.2.2.2.1
    unfold m_tellField
    rw [pk.2.1, if_pos (inB_nI d2 (by omega)), cl_nI (by omega), pk.2.2.2.1, pk_mul, nI_add, hk, vb_e, ob_eq e1, ob_eq e2, if_pos (inB_nI (by omega) (by omega)), cl_nI (by omega), mb_e, m19, if_pos (inB_nI d2 (by omega)), cl_nI (by omega), m66, nI_add, hM, ob_eq e3, pk3.2.1, if_pos (inB_nI d2 (by omega)), cl_nI (by omega), pk3.2.2.2.1, mb_e, nI_add]
  rw [head]
  have ge : ∀ n, bG (bG (bG (gNew Z s) (gNum Z 1 99)) (gTake Z 30)) (fun o => (.ok o : Rs)) = n → bG (gNew Z s) (fun q => bG (gNum Z 1 99 q) fun p => bG (gTake Z 30 p) fun o => (.ok o : Rs)) = n := fun n hn => by
    rw [← hn, bG_as, bG_as]
  by_cases c3 : mI μ3 55 0 13 = nI 0
  · obtain ⟨n, en, cn, hn⟩ := r3.ok0 c3
    obtain ⟨q', eq', et⟩ := bG_ok en
    obtain ⟨q, eq, eu⟩ := bG_ok eq'
    obtain ⟨hq, q2, q3, q4, q5, q6, q7, q8, -⟩ := gNew_I hs eq
    obtain ⟨hp, p2, p3, p4, p5, p6, -⟩ := gNum_I hq eu
    obtain ⟨rfl, k3, k4⟩ := gTake_ok et
    have xe := v2 _ _ eq eu
    rw [if_pos c3]
    have gE : (bG (gNew Z s) fun q => bG (gNum Z 1 99 q) fun p => bG (gTake Z 30 p) fun o => (.ok (adFld (tvl Z (yT s)) (nI (tvl Z (yT q))) o) : Rs)) = .ok (adFld (tvl Z (yT s)) (nI (tvl Z (yT q))) (wyT q' (yT q' + 1))) := by
      rw [eq]
      show bG (gNum Z 1 99 q) _ = _
      rw [eu]
      show bG (gTake Z 30 q') _ = _
      rw [et]
      rfl
    rw [gE]
    have cq : yC q' = yC s := p4.trans q4
    have g4 : Fr [(66, none, none)] μ3 (stI μ3 66 0 d (nI ((yC s).2.1 + 1))) := Fr.stI (Fr.rf _ _) (iT 0 rfl inA_nn)
    refine ⟨_, rfl, ⟨(cn.fr g4 rfl rfl rfl rfl rfl).adv rfl rfl, hn.adF ?_ ?_ _⟩, S3.st ?_, Fr.stI G3 (iT 9 rfl inA_nn), fun s' e => ?_⟩
    · show (yC q').2.1 ≠ 6
      rw [cq]; exact c6
    · exact hz.2.2.2.2.1 _ q7
    · show 1 * d ≤ d ∧ d < 1 * d + 1
      omega
    · cases e
      have e1 : yC (adFld (tvl Z (yT s)) (nI (tvl Z (yT q))) (wyT q' (yT q' + 1))) = ((yC s).1, (yC s).2.1 + 1, (yC s).2.2) := by
        show ((yC q').1, (yC q').2.1 + 1, (yC q').2.2) = _
        rw [cq]
      have e2 : yA (adFld (tvl Z (yT s)) (nI (tvl Z (yT q))) (wyT q' (yT q' + 1))) = up2 (up2 (up2 (yA s) 1 (yC s).2.1 x) 5 (yC s).2.1 (-2)) 6 (yC s).2.1 (nI 0) := by
        show up2 (up2 (up2 (yA q') 1 (yC q').2.1 _) 5 (yC q').2.1 (-2)) 6 (yC q').2.1 (nI 0) = _
        rw [cq, p5, q5, xe]
      have e3 : yN (adFld (tvl Z (yT s)) (nI (tvl Z (yT q))) (wyT q' (yT q' + 1))) = yN s ++ [(tvl Z (yT s), 10 + (yC s).2.1)] := by
        show yN q' ++ [(_, 10 + (yC q').2.1)] = _
        rw [cq, p3, q3]
      unfold PnM
      rw [e1, e2, e3]
      subst hk
      exact ⟨pk3.fld ((g3.I rfl).trans q67) ((g3.I rfl).trans q68) ((g3.I rfl).trans q69), (v3 _ en).fr g4 rfl rfl⟩
  · obtain ⟨φ, en, cn⟩ := r3.er0 c3
    rw [if_neg c3]
    have gE : (bG (gNew Z s) fun q => bG (gNum Z 1 99 q) fun p => bG (gTake Z 30 p) fun o => (.ok (adFld (tvl Z (yT s)) (nI (tvl Z (yT q))) o) : Rs)) = .error φ := by
      cases eq : gNew Z s with
      | error ψ =>
        rw [eq] at en
        cases en
        rfl
      | ok q =>
        rw [eq] at en
        exact bG_bind _ _ _ (show bG (gNum Z 1 99 q) (fun p => gTake Z 30 p) = .error φ from en)
    rw [gE]
    exact ⟨μ3, rfl, cn, S3, G3, fun s' e => by cases e⟩
/-- behind a notch's log -/
def gNoR (Z : Tks) (l : Int32) (q : Sg) : Rs := bG (gTo Z q) fun p => bG (gNum Z 0 3 p) fun o => bG (gTake Z 30 o) fun n => .ok (adNo l (toV Z q) (nI (tvl Z (yT p))) n)
theorem m_noR_e {Z : Tks} {d k : Nat} {μ : Mem} {e : Rs} {C : Nat × Nat × Nat} {A : Nat → Nat → Int32} {l : Int32} (hz : ZOK Z) (h : RM Z e μ) (pk : PkM d μ C A) (hn : ∀ s, e = .ok s → NmM μ (yN s)) (hk : 12 * d + C.2.2 = k) (c12 : C.2.2 < 12) (hl : mI μ 71 0 k = l) (he : ∀ s, e = .ok s → yC s = C ∧ yA s = A) : ∃ μ', (ob (m_toTold μ) fun r64 μ61 =>
ob (m_bounded (nI 0) (nI 3) (stI μ61 72 0 (cl (nI k)) r64)) fun r69 μ66 =>
ob (m_must (nI 4) (stI μ66 73 0 (cl (nI k)) r69)) fun _ μ71 =>
if (mI μ71 55 0 13) = (nI 0) then
if inB (mI μ71 55 0 19) 2 = true then
mb (stI μ71 70 0 (cl (mI μ71 55 0 19)) ((mI μ71 70 0 (cl (mI μ71 55 0 19))) + (nI 1))) fun μ81 =>
some ((), μ81) else none else
some ((), μ71)) = some ((), μ') ∧ RQ Z d μ (bG e (gNoR Z l)) μ' := by
  have d2 := pk.1
  obtain ⟨t, μ1, e1, r1, g1, v1⟩ := m_toTold_e hz h hn
  have pk1 := pk.fr g1 rfl rfl
  have gA : Fr [(72, none, none)] μ1 (stI μ1 72 0 k t) := Fr.stI (Fr.rf _ _) (iT 0 rfl inA_nn)
  have pkA : PkM d (stI μ1 72 0 k t) C A := pk1.st (by omega) (by omega) (by omega) (by omega)
  have rA := r1.fr gA rfl rfl rfl rfl rfl rfl
  obtain ⟨x, μ2, e2, r2, g2, v2⟩ := m_bounded_e hz rA (show 0 < 10000 by omega) (show 3 < 10000 by omega)
  have pk2 := pkA.fr g2 rfl rfl
  have gB : Fr [(73, none, none)] μ2 (stI μ2 73 0 k x) := Fr.stI (Fr.rf _ _) (iT 0 rfl inA_nn)
  have pkB : PkM d (stI μ2 73 0 k x) C A := pk2.st (by omega) (by omega) (by omega) (by omega)
  have rB := r2.fr gB rfl rfl rfl rfl rfl rfl
  obtain ⟨μ3, e3, r3, g3⟩ := m_must_e hz rB (show 30 < 43 by omega) (show 4 = kM 30 from rfl)
  have pk3 := pkB.fr g3 rfl rfl
  have S3 : Sd d μ μ3 := by
    refine ((((((Sd.rf _ _).fr g1 rfl).st ?_).fr g2 rfl).st ?_).fr g3 rfl)
    · show 12 * d ≤ k ∧ k < 12 * d + 12; omega
    · show 12 * d ≤ k ∧ k < 12 * d + 12; omega
  have G3 : Fr TP μ μ3 := Fr.tr (g3.mono TM_TP) (Fr.stI (Fr.tr (g2.mono TM_TP) (Fr.stI (g1.mono TM_TP) (iT 15 rfl inA_nn))) (iT 16 rfl inA_nn))
  have head : (ob (m_toTold μ) fun r64 μ61 =>
ob (m_bounded (nI 0) (nI 3) (stI μ61 72 0 (cl (nI k)) r64)) fun r69 μ66 =>
ob (m_must (nI 4) (stI μ66 73 0 (cl (nI k)) r69)) fun _ μ71 =>
if (mI μ71 55 0 13) = (nI 0) then
if inB (mI μ71 55 0 19) 2 = true then
mb (stI μ71 70 0 (cl (mI μ71 55 0 19)) ((mI μ71 70 0 (cl (mI μ71 55 0 19))) + (nI 1))) fun μ81 =>
some ((), μ81) else none else
some ((), μ71)) = if mI μ3 55 0 13 = nI 0 then some ((), stI μ3 70 0 d (nI (C.2.2 + 1))) else some ((), μ3) := by
    rw [ob_eq e1, cl_nI (by omega), ob_eq e2, ob_eq e3, pk3.2.1, if_pos (inB_nI d2 (by omega)), cl_nI (by omega), pk3.2.2.2.2.1, mb_e, nI_add]
  rw [head]
  by_cases c3 : mI μ3 55 0 13 = nI 0
  · obtain ⟨n, en, cn, hn'⟩ := r3.ok0 c3
    obtain ⟨o, eo, et⟩ := bG_ok en
    obtain ⟨q, eq, eu⟩ := bG_ok eo
    obtain ⟨s, es, ew⟩ := bG_ok eq
    have hs : SgI Z s := by rw [es] at h; exact h.2
    obtain ⟨hq, q2, q3, q4, q5, q6, -⟩ := gTo_I hs ew
    obtain ⟨hp, p2, p3, p4, p5, p6, -⟩ := gNum_I hq eu
    obtain ⟨rfl, k3, k4⟩ := gTake_ok et
    obtain ⟨z1, z2⟩ := he s es
    have xe := v2 _ _ eq eu
    have te := v1 _ _ es ew
    have cq : yC o = C := (p4.trans q4).trans z1
    have aq : yA o = A := (p5.trans q5).trans z2
    have gE : bG e (gNoR Z l) = .ok (adNo l (toV Z s) (nI (tvl Z (yT q))) (wyT o (yT o + 1))) := by
      rw [es]
      show gNoR Z l s = _
      unfold gNoR
      rw [ew]
      show bG (gNum Z 0 3 q) _ = _
      rw [eu]
      show bG (gTake Z 30 o) _ = _
      rw [et]
      rfl
    rw [if_pos c3, gE]
    have g4 : Fr [(70, none, none)] μ3 (stI μ3 70 0 d (nI (C.2.2 + 1))) := Fr.stI (Fr.rf _ _) (iT 0 rfl inA_nn)
    refine ⟨_, rfl, ⟨(cn.fr g4 rfl rfl rfl rfl rfl).adv rfl rfl, hn'.adN ?_ _ _ _⟩, S3.st ?_, Fr.stI G3 (iT 13 rfl inA_nn), fun s' e => ?_⟩
    · show (yC o).2.2 ≠ 12
      rw [cq]; omega
    · show 1 * d ≤ d ∧ d < 1 * d + 1
      omega
    · cases e
      have e1 : yC (adNo l (toV Z s) (nI (tvl Z (yT q))) (wyT o (yT o + 1))) = (C.1, C.2.1, C.2.2 + 1) := by
        show ((yC o).1, (yC o).2.1, (yC o).2.2 + 1) = _
        rw [cq]
      have e2 : yA (adNo l (toV Z s) (nI (tvl Z (yT q))) (wyT o (yT o + 1))) = up2 (up2 (up2 A 2 C.2.2 l) 3 C.2.2 t) 4 C.2.2 x := by
        show up2 (up2 (up2 (yA o) 2 (yC o).2.2 _) 3 (yC o).2.2 _) 4 (yC o).2.2 _ = _
        rw [cq, aq, xe, te]
      have e3 : yN (adNo l (toV Z s) (nI (tvl Z (yT q))) (wyT o (yT o + 1))) = yN s := by
        show yN o = _
        rw [p3, q3]
      have n3 : NmM μ3 (yN s) := (((((hn s es).fr g1 rfl rfl).fr gA rfl rfl).fr g2 rfl rfl).fr gB rfl rfl).fr g3 rfl rfl
      unfold PnM
      rw [e1, e2, e3]
      subst hk
      refine ⟨pk3.no ?_ ?_ ?_, n3.fr g4 rfl rfl⟩
      · exact (g3.I rfl).trans ((gB.I rfl).trans ((g2.I rfl).trans ((gA.I rfl).trans ((g1.I rfl).trans hl))))
      · refine (g3.I rfl).trans ((gB.I rfl).trans ((g2.I rfl).trans ?_))
        rw [mI_stI, if_pos ⟨rfl, rfl, rfl⟩]
      · refine (g3.I rfl).trans ?_
        rw [mI_stI, if_pos ⟨rfl, rfl, rfl⟩]
  · obtain ⟨φ, en, cn⟩ := r3.er0 c3
    rw [if_neg c3]
    have gE : bG e (gNoR Z l) = .error φ := by
      cases es : e with
      | error ψ =>
        rw [es] at en
        cases en
        rfl
      | ok s =>
        rw [es] at en
        show gNoR Z l s = _
        unfold gNoR
        cases ew : gTo Z s with
        | error ψ =>
          have en' : bG (bG (gTo Z s) (gNum Z 0 3)) (gTake Z 30) = .error φ := en
          rw [ew] at en'
          cases en'
          rfl
        | ok q =>
          have en' : bG (bG (gTo Z s) (gNum Z 0 3)) (gTake Z 30) = .error φ := en
          rw [ew] at en'
          exact bG_bind _ _ _ (show bG (gNum Z 0 3 q) (fun p => gTake Z 30 p) = .error φ from en')
    rw [gE]
    exact ⟨μ3, rfl, cn, S3, G3, fun s' e => by cases e⟩

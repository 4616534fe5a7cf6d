/-! the reference reads: notches, drains, a text's tells but laws -/
theorem m_cnt_e {d k : Nat} {μ : Mem} {C : Nat × Nat × Nat} {A : Nat → Nat → Int32} {l x : Int32} {K : Int32 → Mem → Option (Unit × Mem)} (pk : PkM d μ C A) (c12 : C.2.2 < 12) (hk : 12 * d + C.2.2 = k) (h0 : mI μ 55 0 13 = nI 0) (hl : mI μ 71 0 k = l) : m_tellNotch_L45 (nI k) x K (nI 0) (nI (12 * d)) μ = K (nI (cntB C.2.2 (fun n => decide (A 2 n = l)))) μ := by
  have d2 := pk.1
  unfold m_tellNotch_L45
  refine fixN_up (fun i (self : Int32 → Int32 → Mem → Option (Unit × Mem)) => self (nI (cntB i (fun n => decide (A 2 n = l)))) (nI (12 * d + i)) μ = K (nI (cntB C.2.2 (fun n => decide (A 2 n = l)))) μ) C.2.2 ?_ ?_ 60000 0 (by omega) (by omega)
  · intro i self hi ih
    have q := (pk.2.2.2.2.2.2.2.2 i hi).1
    unfold m_tellNotch_B45
    rw [if_neg (nI_ge (by omega) (by omega)), h0, if_pos rfl, if_pos (inB_nI (by omega) (by omega)), if_pos (inB_nI (by omega) (by omega)), cl_nI (by omega), cl_nI (by omega), q, hl, nI_add, nI_add]
    rw [cntB_s] at ih
    by_cases c : A 2 i = l
    · rw [if_pos c]
      rw [if_pos (decide_eq_true c)] at ih
      exact ih
    · rw [if_neg c]
      rw [if_neg (by rw [decide_eq_false c]; decide)] at ih
      exact ih
  · intro self
    unfold m_tellNotch_B45
    rw [if_pos (nI_le (by omega) (by omega))]
theorem m_cnt_er {k m : Int32} {μ : Mem} {φ : Nat × Int32} {x : Int32} {K : Int32 → Mem → Option (Unit × Mem)} (h : ErM φ μ) : m_tellNotch_L45 k x K (nI 0) m μ = K (nI 0) μ := by
  unfold m_tellNotch_L45
  rw [show 60000 = 59999 + 1 from rfl, fixN_s]
  unfold m_tellNotch_B45
  split
  · rfl
  · rw [if_neg h.nz]
def gNoT (Z : Tks) (s : Sg) : Rs := bG (gTake Z 40 s) fun q => bG (gTo Z (latN Z (yT s) (lkW 0 (tvl Z (yT s)) (yN s)) q)) fun p => bG (gNum Z 0 3 p) fun o => bG (gTake Z 30 o) fun n => .ok (adNo (lkW 0 (tvl Z (yT s)) (yN s)) (toV Z q) (nI (tvl Z (yT p))) n)
theorem gNoT_R (Z : Tks) (s : Sg) : gNoT Z s = bG (bG (gTake Z 40 s) fun q => .ok (latN Z (yT s) (lkW 0 (tvl Z (yT s)) (yN s)) q)) (gNoR Z (lkW 0 (tvl Z (yT s)) (yN s))) := by
  unfold gNoT
  cases e : gTake Z 40 s with
  | error φ => rfl
  | ok q =>
    show _ = gNoR Z _ (latN Z (yT s) _ q)
    unfold gNoR
    rw [toV_eq (latN_T Z (yT s) _ q).1 (latN_T Z (yT s) _ q).2.1]
    rfl
theorem m_tellNotch_e {Z : Tks} {d : Nat} {μ : Mem} {s : Sg} (hz : ZOK Z) (h : CuM Z μ s) (hs : SgI Z s) (p : PnM d μ s) (c12 : (yC s).2.2 ≠ 12) : ∃ μ', m_tellNotch μ = some ((), μ') ∧ RQ Z d μ (gNoT Z s) μ' := by
  obtain ⟨pk, nm⟩ := p
  have d2 := pk.1
  have s0 := hs.1
  have s1 := hs.2.1
  have s2 := hs.2.2.1
  have t1 := hs.2.2.2.2.2.2.2.1
  have t2 := hs.2.2.2.2.2.2.2.2
  obtain ⟨l, μ1, e1, r1, g1, v1⟩ := m_known_e hz (b := 0) (Or.inl rfl) (e := .ok s) ⟨h, hs⟩ (fun s' e => by cases e; exact nm)
  have r1' : RM Z (gKn Z 0 s) μ1 := r1
  have pk1 := pk.fr g1 rfl rfl
  have nm1 := nm.fr g1 rfl rfl
  generalize hk : 12 * d + (yC s).2.2 = k
  generalize hM : stI μ1 71 0 k l = M
  have gM : Fr [(71, none, none)] μ1 M := by rw [← hM]; exact Fr.stI (Fr.rf _ _) (iT 0 rfl inA_nn)
  have rM : RM Z (gKn Z 0 s) M := r1'.fr gM rfl rfl rfl rfl rfl rfl
  have nmM := nm1.fr gM rfl rfl
  have pkM : PkM d M (yC s) (yA s) := by
    rw [← hM]
    exact pk1.st (by omega) (by omega) (by omega) (by omega)
  have hl : mI M 71 0 k = l := by rw [← hM, mI_stI, if_pos ⟨rfl, rfl, rfl⟩]
  have SM : Sd d μ M := by
    rw [← hM]
    refine ((Sd.rf _ _).fr g1 rfl).st ?_
    show 12 * d ≤ k ∧ k < 12 * d + 12; omega
  have GM : Fr TP μ M := by
    rw [← hM]
    exact Fr.stI (g1.mono TM_TP) (iT 14 rfl inA_nn)
  have h11 : mI μ 55 0 11 = nI (yT s) := h.2.1
  have fin : ∀ {e : Rs} {μ2 : Mem} {K : Option (Unit × Mem)}, Fr TM M μ2 → RM Z e μ2 → e = (bG (gTake Z 40 s) fun q => .ok (latN Z (yT s) (lkW 0 (tvl Z (yT s)) (yN s)) q)) → (∀ q, e = .ok q → l = lkW 0 (tvl Z (yT s)) (yN s)) → (ob (m_toTold μ2) fun r64 μ61 =>
ob (m_bounded (nI 0) (nI 3) (stI μ61 72 0 (cl (nI k)) r64)) fun r69 μ66 =>
ob (m_must (nI 4) (stI μ66 73 0 (cl (nI k)) r69)) fun _ μ71 =>
if (mI μ71 55 0 13) = (nI 0) then
if inB (mI μ71 55 0 19) 2 = true then
mb (stI μ71 70 0 (cl (mI μ71 55 0 19)) ((mI μ71 70 0 (cl (mI μ71 55 0 19))) + (nI 1))) fun μ81 =>
some ((), μ81) else none else
some ((), μ71)) = K → ∃ μ', K = some ((), μ') ∧ RQ Z d μ (gNoT Z s) μ' := fun {e μ2 K} g2 r2 ee le hK => by
    have he : ∀ q, e = .ok q → yN q = yN s ∧ yC q = yC s ∧ yA q = yA s := fun q eq => by
      rw [ee] at eq
      obtain ⟨q0, eq0, eq1⟩ := bG_ok eq
      obtain ⟨rfl, -, -⟩ := gTake_ok eq0
      cases eq1
      obtain ⟨z1, z2, z3, z4, z5⟩ := latN_T Z (yT s) (lkW 0 (tvl Z (yT s)) (yN s)) (wyT s (yT s + 1))
      exact ⟨z2, z3, z4⟩
    obtain ⟨μ', e3, q1, q2, q3, q4⟩ := m_noR_e (l := l) hz r2 (pkM.fr g2 rfl rfl) (fun q eq => by rw [(he q eq).1]; exact nmM.fr g2 rfl rfl) hk (by omega) ((g2.I rfl).trans hl) (fun q eq => (he q eq).2)
    have ge : bG e (gNoR Z l) = gNoT Z s := by
      rw [gNoT_R, ← ee]
      cases eq : e with
      | error φ => rfl
      | ok q => rw [le q eq]
    rw [ge] at q1 q4
    rw [← hK]
    exact ⟨μ', e3, q1, q2.tr (SM.fr g2 rfl), Fr.tr q3 (Fr.tr (g2.mono TM_TP) GM), q4⟩
  unfold m_tellNotch
  rw [pk.2.1, if_pos (inB_nI d2 (by omega)), cl_nI (by omega), pk.2.2.2.2.1, pk_mul, nI_add, hk, vb_e, ob_eq e1, if_pos (inB_nI (by omega) (by omega)), cl_nI (by omega), hM, pkM.2.1, pk_mul, vb_e]
  rcases rM.k with ⟨q, eq, cq, hq⟩ | ⟨φ, eq, cq⟩
  · obtain ⟨q0, eq0, eq1⟩ := bG_ok eq
    obtain ⟨rfl, k1, k2⟩ := gTake_ok eq0
    have le := v1 s q rfl eq
    have lk := lkW_c (b := 0) (v := tvl Z (yT s)) hs.2.2.2.1 (by omega) (by omega) (Or.inl rfl)
    rw [m_cnt_e pkM (by omega) hk cq.2.2.1 hl]
    try dsimp only
    rw [cq.2.2.1, if_pos rfl, hl]
    by_cases c1 : lkW 0 (tvl Z (yT s)) (yN s) = -1
    · rw [if_pos (show l < nI 0 by rw [le, c1]; decide)]
      rw [if_pos c1] at eq1
      refine fin (Fr.rf _ _) rM ?_ (fun _ _ => le) (by rw [cl_nI (show k < 2147483648 by omega)])
      rw [eq, eq0, ← eq1]
      show _ = Except.ok (latN Z (yT s) _ _)
      unfold latN
      rw [if_pos c1]
    · rw [if_neg c1] at eq1
      rw [if_neg (show ¬ l < nI 0 by
        rw [le]
        rcases lk with lk | ⟨j, h1, h2⟩
        · exact absurd lk c1
        · rw [h2]; exact nI_nlt (Nat.zero_le _) (by rw [if_pos rfl] at h1; omega))]
      have qe : q = wyT s (yT s + 1) := by cases eq1; rfl
      have on : ofLog q l = cntB (yC s).2.2 (fun n => decide (yA s 2 n = l)) := by rw [qe]; rfl
      have cle := cntB_le (fun n => decide (yA s 2 n = l)) (yC s).2.2
      by_cases c2 : cntB (yC s).2.2 (fun n => decide (yA s 2 n = l)) < 3
      · rw [if_pos (nI_lt c2 (by omega))]
        refine fin (Fr.rf _ _) rM ?_ (fun _ _ => le) (by rw [cl_nI (show k < 2147483648 by omega)])
        rw [eq, eq0]
        show _ = Except.ok (latN Z (yT s) _ _)
        unfold latN
        rw [if_neg c1, ← le, ← qe, if_neg (by rw [on]; omega)]
      · rw [if_neg (nI_nlt (by omega) (by omega))]
        have lj : Lj Z 6 (yT s) (wyT s (yT s + 1)) := (hs.lj 6 (Nat.le_refl _)).T _
        rw [← qe] at lj
        obtain ⟨μ2, e3, c3, g3⟩ := m_wrong_e hz cq lj.1 (c := 6) (i := yT s) (by omega) t1 t2 lj.2
        rw [h11, ob_eq e3]
        refine fin (e := .ok (lat Z 6 (yT s) q)) g3 ⟨c3, hq.later (by omega) (by rw [qe]; exact Nat.lt_succ_self _)⟩ ?_ (fun _ _ => le) (by rw [cl_nI (show k < 2147483648 by omega)])
        rw [eq0]
        show _ = Except.ok (latN Z (yT s) _ _)
        unfold latN
        rw [if_neg c1, ← le, ← qe, if_pos (by rw [on]; omega)]
  · have e0 : gTake Z 40 s = .error φ := by
      cases et : gTake Z 40 s with
      | error ψ =>
        unfold gKn at eq
        rw [et] at eq
        cases eq
        rfl
      | ok q =>
        unfold gKn at eq
        rw [et] at eq
        cases eq
    rw [m_cnt_er cq]
    try dsimp only
    rw [if_neg cq.nz]
    refine fin (Fr.rf _ _) rM ?_ (fun q h => by rw [eq] at h; cases h) (by rw [cl_nI (show k < 2147483648 by omega)])
    rw [eq, e0]
    rfl
theorem m_tellDrain_e {Z : Tks} {d : Nat} {μ : Mem} {e : Rs} {C : Nat × Nat × Nat} {A : Nat → Nat → Int32} {N : List (Nat × Nat)} (hz : ZOK Z) (h : RM Z e μ) (pk : PkM d μ C A) (nm : NmM μ N) (he : ∀ s, e = .ok s → yC s = C ∧ yA s = A ∧ yN s = N) : ∃ μ', m_tellDrain μ = some ((), μ') ∧ RQ Z d μ (bG e fun r => bG (gKn Z 10 r) fun q => bG (gKn Z 0 q) fun p => bG (gNum Z 0 3 p) fun o => bG (gTake Z 30 o) fun n => .ok (if lkW 10 (tvl Z (yT r)) (yN r) = -1 then n else stDr (cl (lkW 10 (tvl Z (yT r)) (yN r))) (lkW 0 (tvl Z (yT q)) (yN q)) (nI (tvl Z (yT p))) n)) μ' := by
  have d2 := pk.1
  obtain ⟨f, μ1, e1, r1, g1, v1⟩ := m_known_e hz (b := 10) (Or.inr rfl) h (fun s es => by rw [(he s es).2.2]; exact nm)
  have nm1 := nm.fr g1 rfl rfl
  obtain ⟨l, μ2, e2, r2, g2, v2⟩ := m_known_e hz (b := 0) (Or.inl rfl) r1 (fun q eq => by
    obtain ⟨s, es, et⟩ := bG_ok eq
    have hs : SgI Z s := by rw [es] at h; exact h.2
    rw [(gKn_I hs et).2.2.1, (he s es).2.2]; exact nm1)
  obtain ⟨x, μ3, e3, r3, g3, v3⟩ := m_bounded_e hz r2 (show 0 < 10000 by omega) (show 3 < 10000 by omega)
  obtain ⟨μ4, e4, r4, g4⟩ := m_must_e hz r3 (show 30 < 43 by omega) (show 4 = kM 30 from rfl)
  have pk4 := (((pk.fr g1 rfl rfl).fr g2 rfl rfl).fr g3 rfl rfl).fr g4 rfl rfl
  have nm4 := ((nm1.fr g2 rfl rfl).fr g3 rfl rfl).fr g4 rfl rfl
  have S4 : Sd d μ μ4 := ((((Sd.rf _ _).fr g1 rfl).fr g2 rfl).fr g3 rfl).fr g4 rfl
  have G4 : Fr TP μ μ4 := (Fr.tr g4 (Fr.tr g3 (Fr.tr g2 g1))).mono TM_TP
  unfold m_tellDrain
  rw [ob_eq e1, ob_eq e2, ob_eq e3, ob_eq e4]
  rcases r4.k with ⟨n, en, cn, hn⟩ | ⟨φ, en, cn⟩
  · obtain ⟨o, eo, et⟩ := bG_ok en
    obtain ⟨p, ep, eu⟩ := bG_ok eo
    obtain ⟨q, eq, ev⟩ := bG_ok ep
    obtain ⟨s, es, ew⟩ := bG_ok eq
    have hs : SgI Z s := by rw [es] at h; exact h.2
    obtain ⟨z1, z2, z3⟩ := he s es
    obtain ⟨hq, q2, q3, q4, q5, -⟩ := gKn_I hs ew
    obtain ⟨hp, p2, p3, p4, p5, -⟩ := gKn_I hq ev
    obtain ⟨ho, o2, o3, o4, o5, -⟩ := gNum_I hp eu
    obtain ⟨rfl, k3, k4⟩ := gTake_ok et
    have fe := v1 _ _ es ew
    have le := v2 _ _ eq ev
    have xe := v3 _ _ ep eu
    have lk := lkW_c (b := 10) (v := tvl Z (yT s)) hs.2.2.2.1 (by have := hs.1; omega) (by have := hs.2.1; omega) (Or.inr rfl)
    have f6 := hs.2.1
    have gE : (bG e fun r => bG (gKn Z 10 r) fun q => bG (gKn Z 0 q) fun p => bG (gNum Z 0 3 p) fun o => bG (gTake Z 30 o) fun n => (.ok (if lkW 10 (tvl Z (yT r)) (yN r) = -1 then n else stDr (cl (lkW 10 (tvl Z (yT r)) (yN r))) (lkW 0 (tvl Z (yT q)) (yN q)) (nI (tvl Z (yT p))) n) : Rs)) = .ok (if f = -1 then wyT o (yT o + 1) else stDr (cl f) l x (wyT o (yT o + 1))) := by
      rw [es]
      show bG (gKn Z 10 s) _ = _
      rw [ew]
      show bG (gKn Z 0 q) _ = _
      rw [ev]
      show bG (gNum Z 0 3 p) _ = _
      rw [eu]
      show bG (gTake Z 30 o) _ = _
      rw [et, fe, le, xe]
      rfl
    have co : yC o = C := ((o4.trans p4).trans q4).trans z1
    have ao : yA o = A := ((o5.trans p5).trans q5).trans z2
    have no : yN o = N := ((o3.trans p3).trans q3).trans z3
    rw [gE, cn.2.2.1, if_neg (nI_nlt (Nat.le_refl 0) (by omega))]
    by_cases c : f = -1
    · rw [if_pos c, if_neg (show ¬ nI 0 ≤ f by rw [c]; decide)]
      refine ⟨μ4, rfl, ⟨cn, hn⟩, S4, G4, fun s' e => ?_⟩
      cases e
      unfold PnM
      rw [show yC (wyT o (yT o + 1)) = C from co, show yA (wyT o (yT o + 1)) = A from ao, show yN (wyT o (yT o + 1)) = N from no]
      exact ⟨pk4, nm4⟩
    · rw [if_neg c]
      rcases lk with lk | ⟨j, h1, h2⟩
      · exact absurd (fe.trans lk) c
      · rw [if_neg (show ¬ (10 : Nat) = 0 by decide)] at h1
        have fj : f = nI j := fe.trans h2
        have jC : j < C.2.1 := by rw [← z1]; exact h1
        generalize hM : stI μ4 68 0 (6 * d + j) l = M
        have m19 : mI M 55 0 19 = nI d := by rw [← hM, mI_stI, if_neg (by omega)]; exact pk4.2.1
        rw [fj, cl_nI (by omega), if_pos (nI_le (Nat.zero_le _) (by omega)), pk4.2.1, pk_mul, nI_add, if_pos (inB_nI (by omega) (by omega)), cl_nI (by omega), mb_e, hM, m19, pk_mul, nI_add, if_pos (inB_nI (by omega) (by omega)), cl_nI (by omega), mb_e, ← hM]
        have g : Fr [(68, none, none), (69, none, none)] μ4 (stI (stI μ4 68 0 (6 * d + j) l) 69 0 (6 * d + j) x) := Fr.stI (Fr.stI (Fr.rf _ _) (iT 0 rfl inA_nn)) (iT 1 rfl inA_nn)
        refine ⟨_, rfl, ⟨(cn.fr g rfl rfl rfl rfl rfl).adv rfl rfl, hn⟩, (S4.st ?_).st ?_, Fr.stI (Fr.stI G4 (iT 11 rfl inA_nn)) (iT 12 rfl inA_nn), fun s' e => ?_⟩
        · show 6 * d ≤ 6 * d + j ∧ 6 * d + j < 6 * d + 6; omega
        · show 6 * d ≤ 6 * d + j ∧ 6 * d + j < 6 * d + 6; omega
        · cases e
          unfold PnM
          rw [show yC (stDr j l x (wyT o (yT o + 1))) = C from co, show yA (stDr j l x (wyT o (yT o + 1))) = up2 (up2 A 5 j l) 6 j x from by rw [← ao]; rfl, show yN (stDr j l x (wyT o (yT o + 1))) = N from no]
          exact ⟨pk4.dr jC l x, nm4.fr g rfl rfl⟩
  · have gE : (bG e fun r => bG (gKn Z 10 r) fun q => bG (gKn Z 0 q) fun p => bG (gNum Z 0 3 p) fun o => bG (gTake Z 30 o) fun n => (.ok (if lkW 10 (tvl Z (yT r)) (yN r) = -1 then n else stDr (cl (lkW 10 (tvl Z (yT r)) (yN r))) (lkW 0 (tvl Z (yT q)) (yN q)) (nI (tvl Z (yT p))) n) : Rs)) = .error φ := by
      cases es : e with
      | error ψ => rw [es] at en; exact en
      | ok s =>
        rw [es] at en
        have en1 : bG (bG (bG (gKn Z 10 s) (gKn Z 0)) (gNum Z 0 3)) (gTake Z 30) = .error φ := en
        show bG (gKn Z 10 s) _ = _
        cases ew : gKn Z 10 s with
        | error ψ => rw [ew] at en1; exact en1
        | ok q =>
          rw [ew] at en1
          have en2 : bG (bG (gKn Z 0 q) (gNum Z 0 3)) (gTake Z 30) = .error φ := en1
          show bG (gKn Z 0 q) _ = _
          cases ev : gKn Z 0 q with
          | error ψ => rw [ev] at en2; exact en2
          | ok p =>
            rw [ev] at en2
            exact bG_bind _ _ _ (show bG (gNum Z 0 3 p) (fun p => gTake Z 30 p) = .error φ from en2)
    rw [gE, if_pos cn.lt]
    exact ⟨μ4, rfl, cn, S4, G4, fun s' e => by cases e⟩

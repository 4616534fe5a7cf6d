/-! read: the reference, whole -/
def kRd (μ50 : Mem) : Option (Int32 × Mem) :=
if (mI μ50 55 0 13) ≤ (nI 0) then
if (mI μ50 55 0 15) ≤ (nI 0) then
if (mI (stI μ50 55 0 17 (-1 : Int32)) 55 0 13) ≤ (nI 0) then
if (mI (stI μ50 55 0 17 (-1 : Int32)) 55 0 15) ≤ (nI 0) then
mb (stI (stI μ50 55 0 17 (-1 : Int32)) 55 0 18 (mI (stI μ50 55 0 17 (-1 : Int32)) 55 0 19)) fun μ66 =>
ob (m_begins μ66) fun _ μ68 =>
ob (m_keepsRow μ68) fun _ μ73 =>
mb (stI (stI μ73 55 0 61 (nI 0)) 55 0 67 (nI 0)) fun μ78 =>
m_read_L219  (nI 0) μ78 else
some ((mI (stI μ50 55 0 17 (-1 : Int32)) 55 0 15), (stI μ50 55 0 17 (-1 : Int32))) else
some ((mI (stI μ50 55 0 17 (-1 : Int32)) 55 0 13), (stI μ50 55 0 17 (-1 : Int32))) else
if (mI (stI μ50 55 0 17 (mI μ50 55 0 16)) 55 0 13) ≤ (nI 0) then
if (mI (stI μ50 55 0 17 (mI μ50 55 0 16)) 55 0 15) ≤ (nI 0) then
mb (stI (stI μ50 55 0 17 (mI μ50 55 0 16)) 55 0 18 (mI (stI μ50 55 0 17 (mI μ50 55 0 16)) 55 0 19)) fun μ93 =>
ob (m_begins μ93) fun _ μ95 =>
ob (m_keepsRow μ95) fun _ μ100 =>
mb (stI (stI μ100 55 0 61 (nI 0)) 55 0 67 (nI 0)) fun μ105 =>
m_read_L219  (nI 0) μ105 else
some ((mI (stI μ50 55 0 17 (mI μ50 55 0 16)) 55 0 15), (stI μ50 55 0 17 (mI μ50 55 0 16))) else
some ((mI (stI μ50 55 0 17 (mI μ50 55 0 16)) 55 0 13), (stI μ50 55 0 17 (mI μ50 55 0 16))) else
if (mI (stI μ50 55 0 17 (mI μ50 55 0 14)) 55 0 13) ≤ (nI 0) then
if (mI (stI μ50 55 0 17 (mI μ50 55 0 14)) 55 0 15) ≤ (nI 0) then
mb (stI (stI μ50 55 0 17 (mI μ50 55 0 14)) 55 0 18 (mI (stI μ50 55 0 17 (mI μ50 55 0 14)) 55 0 19)) fun μ115 =>
ob (m_begins μ115) fun _ μ117 =>
ob (m_keepsRow μ117) fun _ μ122 =>
mb (stI (stI μ122 55 0 61 (nI 0)) 55 0 67 (nI 0)) fun μ127 =>
m_read_L219  (nI 0) μ127 else
some ((mI (stI μ50 55 0 17 (mI μ50 55 0 14)) 55 0 15), (stI μ50 55 0 17 (mI μ50 55 0 14))) else
some ((mI (stI μ50 55 0 17 (mI μ50 55 0 14)) 55 0 13), (stI μ50 55 0 17 (mI μ50 55 0 14)))
def TR : List At := [(57, none, none), (55, none, some 4), (55, none, some 2), (55, none, some 11), (55, none, some 12), (55, none, some 13), (55, none, some 15), (55, none, some 19), (55, none, some 20), (55, none, some 36), (55, none, some 42)] ++ (T_m_cut ++ (T_m_plain ++ T_m_tellOne))
theorem m_read_h {μ : Mem} {lv : Nat} {o : Ob} (ok : OkO o) (h : InvM μ lv o) : ∃ μ', m_read μ = kRd μ' ∧ RT (tksO o) (1 - lv) μ (gText (tksO o)) μ' ∧ Fr TR μ μ' ∧ mI μ' 55 0 2 = nI 0 := by
  have l2 := h.co.pl.l2
  have m2 := ok.2.2.2.2.2.2.1
  have hby := ok.2.2.2.2.2.2.2
  have hz : ZOK (tksO o) := ZOK_tks (B := byB o) m2
  have ta := h.ta
  obtain ⟨d, hd⟩ : ∃ d, d = 1 - lv := ⟨_, rfl⟩
  rw [← hd]
  have d2 : d < 2 := by omega
  have gA : Fr [(55, none, some 4)] μ (stI μ 55 0 4 (nI (zM o))) := Fr.stI (Fr.rf _ _) (iT 0 rfl inA_ns)
  unfold m_read
  rw [ta.1]
  obtain ⟨ν, e1, q1, g1⟩ := rd_copy (μ := stI μ 55 0 4 (nI (zM o))) (X := zX o) (K := fun (μ8 : Mem) =>
ob (m_cut (stI μ8 55 0 2 (nI 0))) fun _ μ12 =>
mb (stI (stI μ12 55 0 11 (nI 0)) 55 0 12 (nI 0)) fun μ17 =>
mb (stI (stI μ17 55 0 13 (nI 0)) 55 0 15 (nI 0)) fun μ19 =>
mb (stI μ19 55 0 19 ((nI 1) - (mI μ19 55 0 18))) fun μ21 =>
ob (m_plain (mI (stI μ21 55 0 20 (nI 0)) 55 0 19) (stI μ21 55 0 20 (nI 0))) fun _ μ23 =>
mb (stI μ23 55 0 36 ((nI 130) * (mI μ23 55 0 19))) fun μ28 =>
mb (stI μ28 55 0 42 ((nI 420) * (mI μ28 55 0 19))) fun μ30 =>
m_read_L112 kRd μ30) m2 (by rw [mI_stI, if_pos ⟨rfl, rfl, rfl⟩]) (fun k hk => (gA.I rfl).trans (ta.2 k hk)) hby
  have goal1 : ∃ μ', (ob (m_cut (stI ν 55 0 2 (nI 0))) fun _ μ12 =>
mb (stI (stI μ12 55 0 11 (nI 0)) 55 0 12 (nI 0)) fun μ17 =>
mb (stI (stI μ17 55 0 13 (nI 0)) 55 0 15 (nI 0)) fun μ19 =>
mb (stI μ19 55 0 19 ((nI 1) - (mI μ19 55 0 18))) fun μ21 =>
ob (m_plain (mI (stI μ21 55 0 20 (nI 0)) 55 0 19) (stI μ21 55 0 20 (nI 0))) fun _ μ23 =>
mb (stI μ23 55 0 36 ((nI 130) * (mI μ23 55 0 19))) fun μ28 =>
mb (stI μ28 55 0 42 ((nI 420) * (mI μ28 55 0 19))) fun μ30 =>
m_read_L112 kRd μ30) = kRd μ' ∧ RT (tksO o) d μ (gText (tksO o)) μ' ∧ Fr TR μ μ' ∧ mI μ' 55 0 2 = nI 0 := by
    generalize hM : stI ν 55 0 2 (nI 0) = M
    have gM : Fr [(55, none, some 2)] ν M := by rw [← hM]; exact Fr.stI (Fr.rf _ _) (iT 0 rfl inA_ns)
    have f4 : mI M 55 0 4 = nI (zM o) := (gM.I rfl).trans ((g1.I rfl).trans (by rw [mI_stI, if_pos ⟨rfl, rfl, rfl⟩]))
    have tx : TxM M (zX o) (zM o) := ⟨f4, fun k hk => (gM.I rfl).trans (q1 k hk)⟩
    have ke : KeyM M := fun k hk => (gM.L rfl).trans ((g1.L rfl).trans ((gA.L rfl).trans (h.ke k hk)))
    obtain ⟨μ1, e2, t2⟩ := m_cut_e m2 (byT_o ok) tx ke
    have g2 := f_m_cut e2
    have h18 : mI μ1 55 0 18 = nI lv := (g2.I rfl).trans ((gM.I rfl).trans ((g1.I rfl).trans ((gA.I rfl).trans h.co.pl.lv)))
    rw [ob_eq e2, mb_e, mb_e]
    generalize hN : stI (stI (stI (stI μ1 55 0 11 (nI 0)) 55 0 12 (nI 0)) 55 0 13 (nI 0)) 55 0 15 (nI 0) = N
    have gN : Fr [(55, none, some 11), (55, none, some 12), (55, none, some 13), (55, none, some 15)] μ1 N := by rw [← hN]; exact Fr.stI (Fr.stI (Fr.stI (Fr.stI (Fr.rf _ _) (iT 0 rfl inA_ns)) (iT 1 rfl inA_ns)) (iT 2 rfl inA_ns)) (iT 3 rfl inA_ns)
    have n18 : mI N 55 0 18 = nI lv := (gN.I rfl).trans h18
    rw [n18, pk_sub (by omega), ← hd, mb_e]
    generalize hO : stI (stI N 55 0 19 (nI d)) 55 0 20 (nI 0) = O
    have gO : Fr [(55, none, some 19), (55, none, some 20)] N O := by rw [← hO]; exact Fr.stI (Fr.stI (Fr.rf _ _) (iT 0 rfl inA_ns)) (iT 1 rfl inA_ns)
    have o19 : mI O 55 0 19 = nI d := by rw [← hO, mI_stI, if_neg (by omega), mI_stI, if_pos ⟨rfl, rfl, rfl⟩]
    obtain ⟨μ2, e3, a1, a2, a3, a4, a5, a6, S3⟩ := m_plain_e (μ := O) d2
    have g3 := f_m_plain e3
    have p19 : mI μ2 55 0 19 = nI d := (g3.I rfl).trans o19
    have p19b : mI (stI μ2 55 0 36 (nI (130 * d))) 55 0 19 = nI d := by rw [mI_stI, if_neg (by omega)]; exact p19
    rw [o19, ob_eq e3, p19, pk_mul, mb_e, p19b, pk_mul, mb_e]
    generalize hP : stI (stI μ2 55 0 36 (nI (130 * d))) 55 0 42 (nI (420 * d)) = P
    have gP : Fr [(55, none, some 36), (55, none, some 42)] μ2 P := by rw [← hP]; exact Fr.stI (Fr.stI (Fr.rf _ _) (iT 0 rfl inA_ns)) (iT 1 rfl inA_ns)
    have hZ : (tks (byB o) (zM o) 2001 0, zM o) = tksO o := rfl
    rw [hZ] at t2
    have cu : CuM (tksO o) P sg0 := by
      refine ⟨(((t2.fr gN rfl).fr gO rfl).fr g3 rfl).fr gP rfl, ?_, ?_, ?_, fun z => absurd rfl z⟩
      · refine (gP.I rfl).trans ((g3.I rfl).trans ((gO.I rfl).trans ?_))
        rw [← hN, mI_stI, if_neg (by omega), mI_stI, if_neg (by omega), mI_stI, if_neg (by omega), mI_stI, if_pos ⟨rfl, rfl, rfl⟩]
        rfl
      · refine (gP.I rfl).trans ((g3.I rfl).trans ((gO.I rfl).trans ?_))
        rw [← hN, mI_stI, if_neg (by omega), mI_stI, if_pos ⟨rfl, rfl, rfl⟩]
      · refine (gP.I rfl).trans ((g3.I rfl).trans ((gO.I rfl).trans ?_))
        rw [← hN, mI_stI, if_pos ⟨rfl, rfl, rfl⟩]
        rfl
    have pn : PnM d P sg0 := by
      refine ⟨⟨d2, (gP.I rfl).trans p19, (gP.I rfl).trans a1, (gP.I rfl).trans a2, (gP.I rfl).trans a3, ?_, ?_, fun f hf => absurd hf (Nat.not_lt_zero _), fun f hf => absurd hf (Nat.not_lt_zero _)⟩, ?_, fun k q hq => by cases hq⟩
      · exact (gP.I rfl).trans a5
      · exact (gP.I rfl).trans a4
      · refine (gP.I rfl).trans ((g3.I rfl).trans ?_)
        rw [← hO, mI_stI, if_pos ⟨rfl, rfl, rfl⟩]
        rfl
    have lw : LwM d P sg0 := by
      refine ⟨?_, 0, 0, ?_, ?_, Nat.zero_le _, Nat.zero_le _, fun k hk => ⟨0, (gP.I rfl).trans (a6 k hk).1, Or.inl ⟨rfl, (gP.I rfl).trans (a6 k hk).2, rfl⟩⟩⟩
      · refine (gP.I rfl).trans ((g3.I rfl).trans ((gO.I rfl).trans ?_))
        rw [← hN, mI_stI, if_neg (by omega), mI_stI, if_neg (by omega), mI_stI, if_pos ⟨rfl, rfl, rfl⟩]
      · rw [← hP, mI_stI, if_neg (by omega), mI_stI, if_pos ⟨rfl, rfl, rfl⟩]; rfl
      · rw [← hP, mI_stI, if_pos ⟨rfl, rfl, rfl⟩]; rfl
    have S0 : Sd d μ P := by
      refine Sd.fr (Sd.tr S3 ?_) gP rfl
      exact (((((Sd.rf d μ).fr gA rfl).fr g1 rfl).fr gM rfl).fr g2 rfl).fr gN rfl |>.fr gO rfl
    have G0 : Fr TR μ P := by
      refine Fr.tr (gP.mono ?_) (Fr.tr (g3.mono ?_) (Fr.tr (gO.mono ?_) (Fr.tr (gN.mono ?_) (Fr.tr (g2.mono ?_) (Fr.tr (gM.mono ?_) (Fr.tr (g1.mono ?_) (gA.mono ?_)))))))
      · exact sbt (sbc (sa_m 9 rfl) (sbc (sa_m 10 rfl) sbn)) (Sb_l _ _)
      · exact sbt (Sb_l T_m_plain T_m_tellOne) (sbt (Sb_r T_m_cut _) (Sb_r _ _))
      · exact sbt (sbc (sa_m 7 rfl) (sbc (sa_m 8 rfl) sbn)) (Sb_l _ _)
      · exact sbt (sbc (sa_m 3 rfl) (sbc (sa_m 4 rfl) (sbc (sa_m 5 rfl) (sbc (sa_m 6 rfl) sbn)))) (Sb_l _ _)
      · exact sbt (Sb_l T_m_cut _) (Sb_r _ _)
      · exact sbt (sbc (sa_m 2 rfl) sbn) (Sb_l _ _)
      · exact sbt (sbc (sa_m 0 rfl) sbn) (Sb_l _ _)
      · exact sbt (sbc (sa_m 1 rfl) sbn) (Sb_l _ _)
    obtain ⟨μ', e4, ⟨r4, S4, q4⟩, g4⟩ := tellsM_e (d := d) hz kRd 401 sg0 P 60000 (by omega) (by show 401 ≤ 401 + 0; omega) (sg0_I _) cu pn lw
    refine ⟨μ', e4, ⟨r4, S4.tr S0, q4⟩, Fr.tr (g4.mono ?_) G0, (g4.I rfl).trans ((gP.I rfl).trans ((g3.I rfl).trans ((gO.I rfl).trans ((gN.I rfl).trans ((g2.I rfl).trans (by rw [← hM, mI_stI, if_pos ⟨rfl, rfl, rfl⟩]))))))⟩
    exact sbt (Sb_r T_m_plain T_m_tellOne) (sbt (Sb_r T_m_cut _) (Sb_r _ _))
  obtain ⟨μ', e5, q5⟩ := goal1
  exact ⟨μ', e1.trans e5, q5⟩
theorem m_219_e (μ : Mem) : ∃ μ', m_read_L219 (nI 0) μ = some (nI 0, μ') ∧ (∀ k, k < 3 → mI μ' 102 0 k = nI 0) ∧ Fr [(102, none, none)] μ μ' := by
  unfold m_read_L219
  refine fixN_up (fun i (self : Int32 → Mem → Option (Int32 × Mem)) => ∀ ν, (∀ k, k < i → mI ν 102 0 k = nI 0) → Fr [(102, none, none)] μ ν → ∃ μ', self (nI i) ν = some (nI 0, μ') ∧ (∀ k, k < 3 → mI μ' 102 0 k = nI 0) ∧ Fr [(102, none, none)] μ μ') 3 ?_ ?_ 60000 0 (by omega) (by omega) μ (fun k hk => absurd hk (Nat.not_lt_zero _)) (Fr.rf _ _)
  · intro i self hi ih ν hq g
    unfold m_read_B219
    rw [if_neg (nI_ge hi (by omega)), if_pos (inB_nI (by omega) (by omega)), cl_nI (by omega), nI_add]
    refine ih _ (fun k hk => ?_) (Fr.stI g (iT 0 rfl inA_nn))
    rw [mI_stI]
    by_cases e : k = i
    · subst e; rw [if_pos ⟨rfl, rfl, rfl⟩]; rfl
    · rw [if_neg (fun z => e z.2.2)]; exact hq k (by omega)
  · intro self ν hq g
    unfold m_read_B219
    rw [if_pos (Int32.le_refl _)]
    exact ⟨ν, rfl, hq, g⟩
/-- a text with a fault: all stays but the tape and the place -/
theorem rd_fault {μ μ1 : Mem} {lv : Nat} {o : Ob} (ok : OkO o) (h : InvM μ lv o) (la : LaS lv μ (zP o)) (S : Sd (1 - lv) μ μ1) (g : Fr TR μ μ1) (h2 : mI μ1 55 0 2 = nI 0) (x : Int32) : InvM (stI μ1 55 0 17 x) lv (rdE o x) ∧ LaS lv (stI μ1 55 0 17 x) (zP o) := by
  have l2 := h.co.pl.l2
  have gx : Fr [(55, none, some 17)] μ1 (stI μ1 55 0 17 x) := Fr.stI (Fr.rf _ _) (iT 0 rfl inA_ns)
  have L1 : LaS lv μ1 (zP o) := la.sd S rfl l2
  have L2 : LaS lv (stI μ1 55 0 17 x) (zP o) := L1.fr gx rfl
  have pl : PlM (stI μ1 55 0 17 x) lv (zP o) := (h.co.pl.sds ok.1 S rfl (g.I rfl)).fr gx rfl rfl
  obtain ⟨hc, hp, hs, ht, hta, hpl, hke⟩ := h
  refine ⟨⟨⟨pl, L2.la l2, fun k hk => (gx.I rfl).trans ((g.I rfl).trans (hc.nw k hk))⟩, ⟨(gx.I rfl).trans ((g.I rfl).trans hp.1), fun j k hj hk => (gx.I rfl).trans ((g.I rfl).trans (hp.2 j k hj hk))⟩, fun k hk => ⟨(gx.I rfl).trans ((g.I rfl).trans (hs k hk).1), fun hb i hi => (gx.I rfl).trans ((g.I rfl).trans ((hs k hk).2 hb i hi))⟩, ⟨(gx.I rfl).trans ((g.I rfl).trans ht.1), fun i hi => ⟨(gx.I rfl).trans ((g.I rfl).trans (ht.2 i hi).1), (gx.I rfl).trans ((g.I rfl).trans (ht.2 i hi).2.1), (gx.I rfl).trans ((g.I rfl).trans (ht.2 i hi).2.2)⟩⟩, ⟨(gx.I rfl).trans h2, fun k hk => absurd hk (Nat.not_lt_zero _)⟩, ?_, fun k hk => (gx.L rfl).trans ((g.L rfl).trans (hke k hk))⟩, L2⟩
  rw [mI_stI, if_pos ⟨rfl, rfl, rfl⟩]
  rfl
/-- a good text -/
theorem rd_good {μ μ1 : Mem} {lv d : Nat} {o : Ob} {Z : Tks} {s : Sg} (h : InvM μ lv o) (g : Fr TR μ μ1) (h2 : mI μ1 55 0 2 = nI 0) (pn : PnM d μ1 s) (lw : LwM d μ1 s) (hs : SgI Z s) (hg : SgG s) (h0 : (yL s).1 = 0) : ∃ μ', (ob (m_begins (stI (stI μ1 55 0 17 (-1 : Int32)) 55 0 18 (nI d))) fun _ μ68 =>
ob (m_keepsRow μ68) fun _ μ73 =>
mb (stI (stI μ73 55 0 61 (nI 0)) 55 0 67 (nI 0)) fun μ78 =>
m_read_L219  (nI 0) μ78) = some (nI 0, μ') ∧ InvM μ' d (rdO o s) ∧ LaS d μ' (plG s) := by
  obtain ⟨hk, hS⟩ := plG_ok hs hg h0
  obtain ⟨pk, nm⟩ := pn
  have d2 := pk.1
  have s4 := hs.2.2.2.2.2.2.2.1
  generalize hM : stI (stI μ1 55 0 17 (-1 : Int32)) 55 0 18 (nI d) = M
  have gM : Fr [(55, none, some 17), (55, none, some 18)] μ1 M := by rw [← hM]; exact Fr.stI (Fr.stI (Fr.rf _ _) (iT 0 rfl inA_ns)) (iT 1 rfl inA_ns)
  have m18 : mI M 55 0 18 = nI d := by rw [← hM, mI_stI, if_pos ⟨rfl, rfl, rfl⟩]
  have m17 : mI M 55 0 17 = (-1 : Int32) := by rw [← hM, mI_stI, if_neg (by omega), mI_stI, if_pos ⟨rfl, rfl, rfl⟩]
  have pkM := pk.fr gM rfl rfl
  have plM := pkM.pl m18 hs hg h0
  obtain ⟨μ2, e2, r2⟩ := m_begins_e m18 pkM hs hg h0
  have g2 := f_m_begins e2
  obtain ⟨μ3, e3, r3⟩ := m_keepsRow_e r2
  have g3 := f_m_keepsRow e3
  generalize hN : stI (stI μ3 55 0 61 (nI 0)) 55 0 67 (nI 0) = N
  have gN : Fr [(55, none, some 61), (55, none, some 67)] μ3 N := by rw [← hN]; exact Fr.stI (Fr.stI (Fr.rf _ _) (iT 0 rfl inA_ns)) (iT 1 rfl inA_ns)
  have n61 : mI N 55 0 61 = nI 0 := by rw [← hN, mI_stI, if_neg (by omega), mI_stI, if_pos ⟨rfl, rfl, rfl⟩]
  have n67 : mI N 55 0 67 = nI 0 := by rw [← hN, mI_stI, if_pos ⟨rfl, rfl, rfl⟩]
  obtain ⟨μ4, e4, r4, g4⟩ := m_219_e N
  rw [ob_eq e2, ob_eq e3, mb_e, hN, e4]
  obtain ⟨l12, br, cs, l36, l42, lb, lc, lB⟩ := lw
  have LA : LaS d μ4 (plG s) := ⟨br, cs, by omega, by omega, ((((lB.fr gM rfl).fr g2 rfl).fr g3 rfl).fr gN rfl).fr g4 rfl⟩
  have pl4 : PlM μ4 d (plG s) := (((plM.fr g2 rfl rfl).fr g3 rfl rfl).fr gN rfl rfl).fr g4 rfl rfl
  refine ⟨μ4, rfl, ⟨⟨pl4, LA.la d2, fun k hk => (g4.I rfl).trans ((gN.I rfl).trans (r3 k hk))⟩, ⟨(g4.I rfl).trans n61, fun j k hj => absurd hj (Nat.not_lt_zero _)⟩, fun k hk => ⟨r4 k hk, fun hb => by cases hb⟩, ⟨(g4.I rfl).trans n67, fun i hi => absurd hi (Nat.not_lt_zero _)⟩, ⟨?_, fun k hk => absurd hk (Nat.not_lt_zero _)⟩, ?_, fun k hk => ?_⟩, LA⟩
  · exact (g4.I rfl).trans ((gN.I rfl).trans ((g3.I rfl).trans ((g2.I rfl).trans ((gM.I rfl).trans h2))))
  · exact (g4.I rfl).trans ((gN.I rfl).trans ((g3.I rfl).trans ((g2.I rfl).trans m17)))
  · exact (g4.L rfl).trans ((gN.L rfl).trans ((g3.L rfl).trans ((g2.L rfl).trans ((gM.L rfl).trans ((g.L rfl).trans (h.ke k hk))))))
theorem m_read_e {μ : Mem} {lv : Nat} {o : Ob} (ok : OkO o) (h : InvM μ lv o) (la : LaS lv μ (zP o)) : ∃ μ' lv', m_read μ = some (rRead o, μ') ∧ InvM μ' lv' (nRead o) ∧ LaS lv' μ' (zP (nRead o)) := by
  obtain ⟨μ1, e1, ⟨r1, S1, q1⟩, g1, two⟩ := m_read_h ok h
  rw [e1]
  unfold rRead nRead
  rcases r1.k with ⟨s, es, c1, hs1⟩ | ⟨φ, es, c1⟩
  · obtain ⟨hs, hg⟩ := gText_I ok es
    obtain ⟨pn, lw⟩ := q1 s es
    have s6 := hs.2.2.2.2.2.1
    have eF : rdF (tksO o) = yL s := by unfold rdF; rw [es]
    rw [eF, es]
    dsimp only
    unfold kRd
    by_cases c : (yL s).1 = 0
    · have l1 := (hg c).2.2.2.1
      have z13 : mI (stI μ1 55 0 17 (-1 : Int32)) 55 0 13 = nI 0 := by rw [mI_stI, if_neg (by omega)]; exact c1.2.2.1
      have z15 : mI (stI μ1 55 0 17 (-1 : Int32)) 55 0 15 = nI 0 := by rw [mI_stI, if_neg (by omega)]; exact c1.2.2.2.1.trans (congrArg nI c)
      have z19 : mI (stI μ1 55 0 17 (-1 : Int32)) 55 0 19 = nI (1 - lv) := by rw [mI_stI, if_neg (by omega)]; exact pn.1.2.1
      obtain ⟨μ', e2, i2, l2⟩ := rd_good h g1 two pn lw hs hg c
      rw [c1.2.2.1, if_pos (Int32.le_refl _), c1.2.2.2.1, if_pos (show nI (yL s).1 ≤ nI 0 by rw [c]; exact Int32.le_refl _), z13, if_pos (Int32.le_refl _), z15, if_pos (Int32.le_refl _), z19, mb_e, e2, if_pos c, c]
      exact ⟨μ', _, rfl, i2, l2⟩
    · have z13 : ∀ x, mI (stI μ1 55 0 17 x) 55 0 13 = nI 0 := fun x => by rw [mI_stI, if_neg (by omega)]; exact c1.2.2.1
      have z15 : ∀ x, mI (stI μ1 55 0 17 x) 55 0 15 = nI (yL s).1 := fun x => by rw [mI_stI, if_neg (by omega)]; exact c1.2.2.2.1
      have nle : ¬ nI (yL s).1 ≤ nI 0 := nI_ge (by omega) (by omega)
      rw [c1.2.2.1, if_pos (Int32.le_refl _), c1.2.2.2.1, if_neg nle, z13, if_pos (Int32.le_refl _), z15, if_neg nle, c1.2.2.2.2 c, if_neg c]
      obtain ⟨i2, l2⟩ := rd_fault ok h la S1 g1 two (yL s).2
      exact ⟨_, lv, rfl, i2, l2⟩
  · have eF : rdF (tksO o) = φ := by unfold rdF; rw [es]
    rw [eF, es]
    dsimp only
    unfold kRd
    have z13 : ∀ x, mI (stI μ1 55 0 17 x) 55 0 13 = nI φ.1 := fun x => by rw [mI_stI, if_neg (by omega)]; exact c1.1
    have nle : ¬ nI φ.1 ≤ nI 0 := nI_ge (by have := c1.2.1; omega) (by have := c1.2.1; omega)
    rw [if_neg c1.nle, z13, if_neg nle, c1.2.2]
    obtain ⟨i2, l2⟩ := rd_fault ok h la S1 g1 two φ.2
    exact ⟨_, lv, rfl, i2, l2⟩


/-! the reference reads: a whole expression -/
def kZ (μ : Mem) : Option (Unit × Mem) := ob (m_comesOut (nI 0) μ) fun _ ν => some ((), ν)
def exS (fB : Nat) : Int32 → Mem → Option (Unit × Mem) := fixN (fun _ _ => none) (m_expression_B12 (nI 0) kZ) fB
def exF : Bool → Nat → Nat → Mem → Option (Unit × Mem)
  | true, fB, fA => fixN (fun _ => none) (m_expression_B23 (nI 0) (kU (nI 0) kZ (exS fB))) fA
  | false, fB, fA => fixN (fun _ => none) (m_expression_B96 (nI 0) (kMo (nI 0) kZ (exS fB))) fA
theorem exF_t (fB fA : Nat) : exF true fB (fA + 1) = m_expression_B23 (nI 0) (kU (nI 0) kZ (exS fB)) (exF true fB fA) := rfl
theorem exF_f (fB fA : Nat) : exF false fB (fA + 1) = m_expression_B96 (nI 0) (kMo (nI 0) kZ (exS fB)) (exF false fB fA) := rfl
/-- an expression's end -/
def XR (Z : Tks) (c0 hi : Nat) (μ0 : Mem) (e : Except (Nat × Int32) (Rp × Sg)) (μ : Mem) : Prop := CdK c0 hi μ0 μ ∧ Fr TX μ0 μ ∧ match e with
  | .ok (r, s) => CuM Z μ s ∧ SgI Z s ∧ CdM c0 μ r ∧ mI μ 55 0 12 = nI 0
  | .error φ => ErM φ μ
theorem exT_er {φ : Nat × Int32} {μ : Mem} (h : ErM φ μ) (fB fA : Nat) (h0 : 0 < fA) : exF true fB fA μ = some ((), μ) := by
  obtain ⟨f, rfl⟩ : ∃ f, fA = f + 1 := ⟨fA - 1, by omega⟩
  rw [exF_t]
  unfold m_expression_B23
  rw [ob_eq (m_is_er h _), if_pos rfl]
  unfold kU
  rw [ob_eq (m_unit_er h), if_neg h.nle]
theorem pop1_out {st : List Nat} (hg : SegK st) (h0 : n37 st = 0) (out : Rp) : (popW 1 st out).1 = [] := by
  obtain ⟨a, b, c, -⟩ := popW_p (Nat.le_refl 1) out hg
  rcases a.z c with ⟨e, -⟩ | ⟨t, e, -, e2, -⟩
  · exact e
  · omega
theorem kZ_er {Z : Tks} {c0 hi : Nat} {μ0 μ : Mem} {φ : Nat × Int32} {st : List Nat} {out : Rp} (hh : hi ≤ 840) (h : ErM φ μ) (hl : st.length ≤ 30) (hg : SegK st) (hw : KSM μ st) (he : CdM c0 μ out) (hb : c0 + out.length + nOp st ≤ hi) (k : CdK c0 hi μ0 μ) (g : Fr TX μ0 μ) : ∃ μ', kZ μ = some ((), μ') ∧ XR Z c0 hi μ0 (.error φ) μ' := by
  obtain ⟨μ1, e1, h1, h2, k1, g1⟩ := comes_e (Or.inl ⟨rfl, rfl⟩) hh st out μ 60000 (by omega) hl hg hw he hb
  unfold kZ
  rw [ob_eq (show m_comesOut (nI 0) μ = some ((), μ1) from e1)]
  exact ⟨μ1, rfl, k1.tr k, Fr.tr (g1.mono TC_TX) g, h.fr g1 rfl rfl⟩
theorem exZ_er {Z : Tks} {c0 hi : Nat} {μ0 μ : Mem} {φ : Nat × Int32} {st : List Nat} {out : Rp} (hh : hi ≤ 840) (h : ErM φ μ) (hl : st.length ≤ 30) (hg : SegK st) (hw : KSM μ st) (he : CdM c0 μ out) (hb : c0 + out.length + nOp st ≤ hi) (k : CdK c0 hi μ0 μ) (g : Fr TX μ0 μ) (fB fA : Nat) (h0 : 0 < fA) : ∃ μ', exF false fB fA μ = some ((), μ') ∧ XR Z c0 hi μ0 (.error φ) μ' := by
  obtain ⟨f, rfl⟩ : ∃ f, fA = f + 1 := ⟨fA - 1, by omega⟩
  obtain ⟨μ1, e1, x1⟩ := kZ_er (Z := Z) hh h hl hg hw he hb k g
  rw [exF_f]
  unfold m_expression_B96
  rw [ob_eq (m_is_er h _), if_pos rfl, kMo_no _ _ _ (m_is_er h _) (m_is_er h _) (m_is_er h _) (m_is_er h _), ob_eq (m_fail_er h _), e1]
  refine ⟨μ1, ?_, x1⟩
  split <;> rfl
/-- ( is told, or the text fails there -/
theorem ex_e {Z : Tks} {c0 hi : Nat} {μ0 : Mem} (hz : ZOK Z) (hh : hi ≤ 840) : ∀ (f : Nat) (w : Bool) (op : Nat) (st : List Nat) (out : Rp) (s : Sg) (μ : Mem) (fA fB : Nat), f < fA → f < fB → SgI Z s → f = 401 - yT s → CuM Z μ s → KSM μ st → SegK st → n37 st = op → op ≤ 6 → mI μ 55 0 12 = nI op → CdM c0 μ out → c0 + out.length + nOp st + f ≤ hi → CdK c0 hi μ0 μ → Fr TX μ0 μ → ∃ μ', exF w fB fA μ = some ((), μ') ∧ XR Z c0 hi μ0 (eE Z f w op st out s) μ'
  | 0, w, op, st, out, s, μ, fA, fB, _, _, hs, hf, _, _, _, _, _, _, _, _, _, _ => by
    have := hs.2.2.2.2.2.2.2.1
    omega
  | f + 1, true, op, st, out, s, μ, fA, fB, hA, hB, hs, hf, h, hw, hg, ho, ho6, h12, he, hb, hk, hfr => by
    obtain ⟨fA, rfl⟩ : ∃ g, fA = g + 1 := ⟨fA - 1, by omega⟩
    have s1 := hs.2.2.2.2.2.2.2.1
    have sl := hg.len
    have tl := topR_le st
    rw [ho] at sl
    rw [exF_t]
    unfold m_expression_B23 eE
    rw [ob_eq (m_is_ok h hs hz (show 37 < 44 by omega) (show 6 = kM 37 from rfl))]
    by_cases c1 : tkd Z (yT s) = 37
    · rw [decide_eq_true c1, if_neg (show ¬ b01I true = nI 0 by decide), if_pos c1, h12]
      by_cases c2 : op = 6
      · obtain ⟨μ1, e1, er1, g1⟩ := m_fail_ok h hs (c := 2) (Or.inr rfl)
        rw [if_pos c2, if_pos (congrArg nI c2), ob_eq e1, mb_e]
        generalize hM : stI μ1 55 0 12 (mI μ1 55 0 12 + nI 1) = M
        have gM : Fr [(55, none, some 12)] μ1 M := by rw [← hM]; exact Fr.stI (Fr.rf _ _) (iT 0 rfl inA_ns)
        have erM : ErM (2, nI (tpl Z (yT s))) M := er1.fr gM rfl rfl
        obtain ⟨μ2, e2, r2, g2⟩ := m_goesOn_e (Z := Z) (e := .error (2, nI (tpl Z (yT s)))) erM (fun r hr => by cases hr)
        have er2 : ErM (2, nI (tpl Z (yT s))) μ2 := r2
        have w2 := ((hw.fr g1 rfl rfl).fr gM rfl rfl).fr g2 rfl rfl
        have g3 : Fr [(55, none, some 46), (85, none, none)] μ2 (stI (stI μ2 85 0 st.length (nI 6)) 55 0 46 (nI (st.length + 1))) := Fr.stI (Fr.stI (Fr.rf _ _) (iT 1 rfl inA_nn)) (iT 0 rfl inA_ns)
        have er3 := er2.fr g3 rfl rfl
        have f46 : mI (stI μ2 85 0 st.length (nI 6)) 55 0 46 = nI st.length := by rw [mI_stI, if_neg (by omega)]; exact w2.1
        rw [ob_eq e2, w2.1, if_pos (inB_nI (by omega) (by omega)), cl_nI (by omega), mb_e, f46, nI_add, mb_e, exT_er er3 fB fA (by omega)]
        refine ⟨_, rfl, ?_, ?_, er3⟩
        · exact (((hk.fr g1 rfl).fr gM rfl).fr g2 rfl).fr g3 rfl
        · refine Fr.tr (g3.mono ?_) (Fr.tr (g2.mono TM_TX) (Fr.tr (gM.mono ?_) (Fr.tr (g1.mono TM_TX) hfr)))
          · exact sbc (sa_m 8 rfl) (sbc (sa_m 9 rfl) sbn)
          · exact sbc (sa_m 10 rfl) sbn
      · rw [if_neg c2, if_neg (nI_ne c2 (by omega) (by omega)), nI_add, mb_e]
        generalize hM : stI μ 55 0 12 (nI (op + 1)) = M
        have gM : Fr [(55, none, some 12)] μ M := by rw [← hM]; exact Fr.stI (Fr.rf _ _) (iT 0 rfl inA_ns)
        have cM : CuM Z M s := h.fr gM rfl rfl rfl rfl rfl
        obtain ⟨μ2, e2, r2, g2⟩ := m_goesOn_e (e := .ok s) ⟨cM, hs⟩ (fun r hr => by cases hr; omega)
        have r2' : RM Z (gPass Z s) μ2 := r2
        have w2 := (hw.fr gM rfl rfl).fr g2 rfl rfl
        have w3 := w2.push 37
        rw [kM_37] at w3
        have f46 : mI (stI μ2 85 0 st.length (nI 6)) 55 0 46 = nI st.length := by rw [mI_stI, if_neg (by omega)]; exact w2.1
        rw [ob_eq e2, w2.1, if_pos (inB_nI (by omega) (by omega)), cl_nI (by omega), mb_e, f46, nI_add, mb_e]
        generalize hN : stI (stI μ2 85 0 st.length (nI 6)) 55 0 46 (nI (st.length + 1)) = N at w3
        have g3 : Fr [(55, none, some 46), (85, none, none)] μ2 N := by rw [← hN]; exact Fr.stI (Fr.stI (Fr.rf _ _) (iT 1 rfl inA_nn)) (iT 0 rfl inA_ns)
        have k3 : CdK c0 hi μ0 N := ((hk.fr gM rfl).fr g2 rfl).fr g3 rfl
        have G3 : Fr TX μ0 N := by
          refine Fr.tr (g3.mono ?_) (Fr.tr (g2.mono TM_TX) (Fr.tr (gM.mono ?_) hfr))
          · exact sbc (sa_m 8 rfl) (sbc (sa_m 9 rfl) sbn)
          · exact sbc (sa_m 10 rfl) sbn
        have he3 : CdM c0 N out := ((he.fr gM rfl rfl).fr g2 rfl rfl).fr g3 rfl rfl
        have n12 : mI N 55 0 12 = nI (op + 1) := (g3.I rfl).trans ((g2.I rfl).trans (by rw [← hM, mI_stI, if_pos ⟨rfl, rfl, rfl⟩]))
        rcases r2'.k with ⟨r, er, c4, hs4⟩ | ⟨φ, er, c4⟩
        · obtain ⟨rfl, -⟩ := gPass_ok er
          rw [er]
          have t1 : yT (wyT s (yT s + 1)) = yT s + 1 := rfl
          have n1 : nOp (37 :: st) = nOp st := by show (if (37 : Nat) = 37 then 0 else 1) + nOp st = _; rw [if_pos rfl]; omega
          have n2 : n37 (37 :: st) = n37 st + 1 := by show (if (37 : Nat) = 37 then 1 else 0) + n37 st = _; rw [if_pos rfl]; omega
          exact ex_e hz hh f true (op + 1) (37 :: st) out _ N fA fB (by omega) (by omega) hs4 (by omega) (c4.fr g3 rfl rfl rfl rfl rfl) w3 ⟨Or.inl rfl, hg⟩ (by omega) (by omega) n12 he3 (by omega) k3 G3
        · have er3 := c4.fr g3 rfl rfl
          rw [er, exT_er er3 fB fA (by omega)]
          exact ⟨N, rfl, k3, G3, er3⟩
    · rw [decide_eq_false c1, if_pos (show b01I false = nI 0 from rfl), if_neg c1]
      unfold kU
      rcases m_unit_e hz h hs he (show c0 + out.length < hi by omega) hh with ⟨u, μ1, e1, er1, g1⟩ | ⟨q, μ1, u, e1, r1, h1, k1, G1, g1⟩
      · rw [u, ob_eq e1, if_neg er1.nle]
        exact ⟨μ1, rfl, hk.fr g1 rfl, Fr.tr (g1.mono TM_TX) hfr, er1⟩
      · rw [u, ob_eq e1]
        rcases r1.k with ⟨r, er, c4, hs4⟩ | ⟨φ, er, c4⟩
        · obtain ⟨rfl, -⟩ := gPass_ok er
          rw [c4.2.2.1, if_pos (Int32.le_refl _), er]
          have t1 : yT (wyT s (yT s + 1)) = yT s + 1 := rfl
          have ln : (out ++ [q]).length = out.length + 1 := by rw [List.length_append, List.length_singleton]
          exact ex_e hz hh f false op st (out ++ [q]) _ μ1 60000 fB (by omega) (by omega) hs4 (by omega) c4 (hw.fr g1 rfl rfl) hg ho ho6 ((g1.I rfl).trans h12) h1 (by omega) (k1.tr hk) (Fr.tr G1 hfr)
        · rw [if_neg c4.nle, er]
          exact ⟨μ1, rfl, k1.tr hk, Fr.tr G1 hfr, c4⟩
  | f + 1, false, op, st, out, s, μ, fA, fB, hA, hB, hs, hf, h, hw, hg, ho, ho6, h12, he, hb, hk, hfr => by
    obtain ⟨fA, rfl⟩ : ∃ g, fA = g + 1 := ⟨fA - 1, by omega⟩
    obtain ⟨fB, rfl⟩ : ∃ g, fB = g + 1 := ⟨fB - 1, by omega⟩
    have s1 := hs.2.2.2.2.2.2.2.1
    have s2 := hs.2.2.2.2.2.2.2.2
    have k44 := hz.2.1 (yT s)
    have sl := hg.len
    have tl := topR_le st
    rw [ho] at sl
    have done : rkT (tkd Z (yT s)) = 0 → ¬ (tkd Z (yT s) = 38 ∧ 0 < op) → ∃ μ', kMo (nI 0) kZ (exS (fB + 1)) μ = some ((), μ') ∧ XR Z c0 hi μ0 (eE Z (f + 1) false op st out s) μ' := fun z1 z2 => by
      have n32 : tkd Z (yT s) ≠ 32 := fun y => by rw [y] at z1; cases z1
      have n33 : tkd Z (yT s) ≠ 33 := fun y => by rw [y] at z1; cases z1
      have n34 : tkd Z (yT s) ≠ 34 := fun y => by rw [y] at z1; cases z1
      have n35 : tkd Z (yT s) ≠ 35 := fun y => by rw [y] at z1; cases z1
      rw [kMo_no _ _ _ (is_no hz h hs (show 32 < 44 by omega) (show 8 = kM 32 from rfl) n32) (is_no hz h hs (show 33 < 44 by omega) (show 9 = kM 33 from rfl) n33) (is_no hz h hs (show 34 < 44 by omega) (show 10 = kM 34 from rfl) n34) (is_no hz h hs (show 35 < 44 by omega) (show 15 = kM 35 from rfl) n35), h12]
      unfold eE
      rw [if_pos z1, if_neg z2]
      by_cases c : op = 0
      · obtain ⟨μ1, e1, h1, h2, k1, g1⟩ := comes_e (Or.inl ⟨rfl, rfl⟩) hh st out μ 60000 (by omega) (by omega) hg hw he (by omega)
        rw [if_pos c, if_pos (by rw [c]; exact Int32.le_refl _)]
        unfold kZ
        rw [ob_eq (show m_comesOut (nI 0) μ = some ((), μ1) from e1)]
        exact ⟨μ1, rfl, k1.tr hk, Fr.tr (g1.mono TC_TX) hfr, h.fr g1 rfl rfl rfl rfl rfl, hs, h2, (g1.I rfl).trans (h12.trans (congrArg nI c))⟩
      · obtain ⟨μ1, e1, er1, g1⟩ := m_fail_ok h hs (c := 1) (Or.inl rfl)
        rw [if_neg c, if_neg (nI_ge (by omega) (by omega)), ob_eq e1]
        exact kZ_er hh er1 (by omega) hg (hw.fr g1 rfl rfl) (he.fr g1 rfl rfl) (by omega) (hk.fr g1 rfl) (Fr.tr (g1.mono TM_TX) hfr)
    rw [exF_f]
    unfold m_expression_B96
    rw [ob_eq (m_is_ok h hs hz (show 38 < 44 by omega) (show 7 = kM 38 from rfl))]
    by_cases c1 : tkd Z (yT s) = 38
    · rw [decide_eq_true c1, if_neg (show ¬ b01I true = nI 0 by decide), h12]
      by_cases c2 : op = 0
      · rw [if_pos (by rw [c2]; exact Int32.le_refl _)]
        exact done (by rw [c1]; rfl) (by omega)
      · rw [if_neg (nI_ge (by omega) (by omega))]
        unfold eE
        rw [if_pos (show rkT (tkd Z (yT s)) = 0 by rw [c1]; rfl), if_pos ⟨c1, by omega⟩]
        obtain ⟨μ1, e1, h1, h2, k1, g1⟩ := comes_e (Or.inl ⟨rfl, rfl⟩) hh st out μ 60000 (by omega) (by omega) hg hw he (by omega)
        obtain ⟨p1, p2, p3, p4, -, p6, -⟩ := popW_p (Nat.le_refl 1) out hg
        rcases p1.z p3 with ⟨-, y, -⟩ | ⟨t, et, st2, en, eo⟩
        · omega
        · have l37 : n37 t + 1 = op := by rw [← en, p2, ho]
          have tlen := st2.len
          have ttl := topR_le t
          rw [et] at h1
          have f46 : mI μ1 55 0 46 = nI (t.length + 1) := h1.1
          have w2 := h1.pop
          rw [ob_eq (show m_comesOut (nI 0) μ = some ((), μ1) from e1), f46, nI_sub1 (by omega), Nat.add_sub_cancel, mb_e, et]
          show ∃ μ', _ ∧ XR Z c0 hi μ0 (bE (gPass Z s) fun r => eE Z f false (op - 1) t (popW 1 st out).2 r) μ'
          generalize hM : stI μ1 55 0 46 (nI t.length) = M at w2 ⊢
          have gM : Fr [(55, none, some 46)] μ1 M := by rw [← hM]; exact Fr.stI (Fr.rf _ _) (iT 0 rfl inA_ns)
          have f12 : mI M 55 0 12 = nI op := (gM.I rfl).trans ((g1.I rfl).trans h12)
          rw [f12, nI_sub1 (by omega), mb_e]
          generalize hN : stI M 55 0 12 (nI (op - 1)) = N
          have gN : Fr [(55, none, some 12)] M N := by rw [← hN]; exact Fr.stI (Fr.rf _ _) (iT 0 rfl inA_ns)
          have cN : CuM Z N s := ((h.fr g1 rfl rfl rfl rfl rfl).fr gM rfl rfl rfl rfl rfl).fr gN rfl rfl rfl rfl rfl
          obtain ⟨μ2, e2, r2, g2⟩ := m_goesOn_e (e := .ok s) ⟨cN, hs⟩ (fun r hr => by cases hr; omega)
          have r2' : RM Z (gPass Z s) μ2 := r2
          have he2 : CdM c0 μ2 (popW 1 st out).2 := ((h2.fr gM rfl rfl).fr gN rfl rfl).fr g2 rfl rfl
          have w3 : KSM μ2 t := (w2.fr gN rfl rfl).fr g2 rfl rfl
          have k2 : CdK c0 hi μ0 μ2 := (((k1.tr hk).fr gM rfl).fr gN rfl).fr g2 rfl
          have G2 : Fr TX μ0 μ2 := by
            refine Fr.tr (g2.mono TM_TX) (Fr.tr (gN.mono ?_) (Fr.tr (gM.mono ?_) (Fr.tr (g1.mono TC_TX) hfr)))
            · exact sbc (sa_m 10 rfl) sbn
            · exact sbc (sa_m 8 rfl) sbn
          have n12 : mI μ2 55 0 12 = nI (op - 1) := (g2.I rfl).trans (by rw [← hN, mI_stI, if_pos ⟨rfl, rfl, rfl⟩])
          rw [ob_eq e2]
          rcases r2'.k with ⟨r, er, c4, hs4⟩ | ⟨φ, er, c4⟩
          · obtain ⟨rfl, -⟩ := gPass_ok er
            rw [er]
            have t1 : yT (wyT s (yT s + 1)) = yT s + 1 := rfl
            exact ex_e hz hh f false (op - 1) t (popW 1 st out).2 _ μ2 fA (fB + 1) (by omega) (by omega) hs4 (by omega) c4 w3 st2 (by omega) (by omega) n12 he2 (by omega) k2 G2
          · rw [er]
            exact exZ_er hh c4 (by omega) st2 w3 he2 (by omega) k2 G2 (fB + 1) fA (by omega)
    · rw [decide_eq_false c1, if_pos (show b01I false = nI 0 from rfl)]
      by_cases c3 : rkT (tkd Z (yT s)) = 0
      · exact done c3 (fun z => c1 z.1)
      · have hk35 := rkT_pos c3
        have r2 := rkT_le (tkd Z (yT s))
        have hr : (rkT (tkd Z (yT s)) = 1 ∧ nI (rkT (tkd Z (yT s)) - 1) = nI 0) ∨ (rkT (tkd Z (yT s)) = 2 ∧ nI (rkT (tkd Z (yT s)) - 1) = nI 1) := by
          have : rkT (tkd Z (yT s)) = 1 ∨ rkT (tkd Z (yT s)) = 2 := by omega
          rcases this with y | y
          · exact Or.inl ⟨y, by rw [y]⟩
          · exact Or.inr ⟨y, by rw [y]⟩
        obtain ⟨μ1, e1, h1, h2, k1, g1⟩ := comes_e hr hh st out μ 60000 (by omega) (by omega) hg hw he (by omega)
        obtain ⟨p1, p2, p3, p4, -, p6, -⟩ := popW_p (show 1 ≤ rkT (tkd Z (yT s)) by omega) out hg
        have plen := p1.len
        have c5 : CuM Z μ1 s := h.fr g1 rfl rfl rfl rfl rfl
        have kk : mI μ1 58 0 (yT s) = nI (kM (tkd Z (yT s))) := (c5.1 _ s2 s1).1
        rw [kMo_op hz h hs c3, ob_eq (show m_comesOut (nI (rkT (tkd Z (yT s)) - 1)) μ = some ((), μ1) from e1)]
        unfold eE
        rw [if_neg c3]
        generalize hst : (popW (rkT (tkd Z (yT s))) st out).1 = st1 at *
        have w2 := h1.push (tkd Z (yT s))
        have f46 : mI (stI μ1 85 0 st1.length (nI (kM (tkd Z (yT s))))) 55 0 46 = nI st1.length := by rw [mI_stI, if_neg (by omega)]; exact h1.1
        rw [c5.2.1, if_pos (inB_nI (by omega) (by omega)), h1.1, if_pos (inB_nI (by omega) (by omega)), cl_nI (by omega), cl_nI (by omega), kk, mb_e, f46, nI_add, mb_e]
        generalize hN : stI (stI μ1 85 0 st1.length (nI (kM (tkd Z (yT s))))) 55 0 46 (nI (st1.length + 1)) = N at w2 ⊢
        have g3 : Fr [(55, none, some 46), (85, none, none)] μ1 N := by rw [← hN]; exact Fr.stI (Fr.stI (Fr.rf _ _) (iT 1 rfl inA_nn)) (iT 0 rfl inA_ns)
        obtain ⟨μ2, e2, r2, g2⟩ := m_goesOn_e (e := .ok s) ⟨c5.fr g3 rfl rfl rfl rfl rfl, hs⟩ (fun r hr => by cases hr; omega)
        have r2' : RM Z (gPass Z s) μ2 := r2
        have he2 : CdM c0 μ2 (popW (rkT (tkd Z (yT s))) st out).2 := (h2.fr g3 rfl rfl).fr g2 rfl rfl
        have w3 : KSM μ2 (tkd Z (yT s) :: st1) := w2.fr g2 rfl rfl
        have k2 : CdK c0 hi μ0 μ2 := ((k1.tr hk).fr g3 rfl).fr g2 rfl
        have G2 : Fr TX μ0 μ2 := by
          refine Fr.tr (g2.mono TM_TX) (Fr.tr (g3.mono ?_) (Fr.tr (g1.mono TC_TX) hfr))
          exact sbc (sa_m 8 rfl) (sbc (sa_m 9 rfl) sbn)
        have n12 : mI μ2 55 0 12 = nI op := (g2.I rfl).trans ((g3.I rfl).trans ((g1.I rfl).trans h12))
        rw [ob_eq e2]
        unfold exS
        rw [fixN_s, expB12, if_neg nI_1n0]
        rcases r2'.k with ⟨r, er, c4, hs4⟩ | ⟨φ, er, c4⟩
        · obtain ⟨rfl, -⟩ := gPass_ok er
          rw [er, c4.2.2.1, if_pos rfl]
          have t1 : yT (wyT s (yT s + 1)) = yT s + 1 := rfl
          have n1 : nOp (tkd Z (yT s) :: st1) = 1 + nOp st1 := by show (if tkd Z (yT s) = 37 then 0 else 1) + nOp st1 = _; rw [if_neg (by omega)]
          have n2 : n37 (tkd Z (yT s) :: st1) = n37 st1 := by show (if tkd Z (yT s) = 37 then 1 else 0) + n37 st1 = _; rw [if_neg (by omega), Nat.zero_add]
          exact ex_e hz hh f true op (tkd Z (yT s) :: st1) (popW (rkT (tkd Z (yT s))) st out).2 _ μ2 60000 fB (by omega) (by omega) hs4 (by omega) c4 w3 ⟨Or.inr ⟨hk35.1, hk35.2, p3⟩, p1⟩ (by omega) ho6 n12 he2 (by omega) k2 G2
        · rw [er, if_neg c4.nz]
          exact ⟨μ2, rfl, k2, G2, c4⟩
theorem m_expression_er {φ : Nat × Int32} {μ : Mem} (h : ErM φ μ) : m_expression μ = some ((), stI μ 55 0 46 (nI 0)) := by
  have h2 : ErM φ (stI μ 55 0 46 (nI 0)) := h.fr (T := [(55, none, some 46)]) (Fr.stI (Fr.rf _ _) (iT 0 rfl inA_ns)) rfl rfl
  unfold m_expression m_expression_L12
  rw [show 60000 = 59999 + 1 from rfl, fixN_s, expB12, if_neg nI_1n0, if_neg h2.nz]
theorem m_expression_e {Z : Tks} {c0 hi : Nat} {μ : Mem} {s : Sg} (hz : ZOK Z) (h : CuM Z μ s) (hs : SgI Z s) (h12 : mI μ 55 0 12 = nI 0) (hc : mI μ 55 0 42 = nI c0) (hb : c0 + (401 - yT s) ≤ hi) (hh : hi ≤ 840) : ∃ μ', m_expression μ = some ((), μ') ∧ XR Z c0 hi μ (gE Z s) μ' := by
  have g : Fr [(55, none, some 46)] μ (stI μ 55 0 46 (nI 0)) := Fr.stI (Fr.rf _ _) (iT 0 rfl inA_ns)
  have c1 : CuM Z (stI μ 55 0 46 (nI 0)) s := h.fr g rfl rfl rfl rfl rfl
  have f12 : mI (stI μ 55 0 46 (nI 0)) 55 0 12 = nI 0 := (g.I rfl).trans h12
  have s1 := hs.2.2.2.2.2.2.2.1
  unfold m_expression
  rw [f12]
  show ∃ μ', exS 60000 (nI 1) (stI μ 55 0 46 (nI 0)) = some ((), μ') ∧ _
  unfold exS
  rw [show 60000 = 59999 + 1 from rfl, fixN_s, expB12, if_neg nI_1n0, c1.2.2.1, if_pos rfl]
  refine ex_e hz hh (401 - yT s) true 0 [] [] s (stI μ 55 0 46 (nI 0)) 60000 59999 (by omega) (by omega) hs rfl c1 ⟨by rw [mI_stI, if_pos ⟨rfl, rfl, rfl⟩]; rfl, fun i hi => absurd hi (Nat.not_lt_zero _)⟩ trivial rfl (by omega) f12 ⟨(g.I rfl).trans hc, fun i hi => absurd hi (Nat.not_lt_zero _)⟩ ?_ ((CdK.rf _ _ _).fr g rfl) (g.mono (sbc (sa_m 8 rfl) sbn))
  show c0 + 0 + 0 + (401 - yT s) ≤ hi
  omega

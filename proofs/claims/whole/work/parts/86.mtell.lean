/-! the reference reads: a whole text -/
theorem kM_df : ∀ k, k < 44 → ¬ k ≤ 9 → (nI (kM k) - nI 26 < nI 0 ∨ ¬ nI (kM k) ≤ nI 29) := by decide +kernel
theorem kM_lw : ∀ k, k < 44 → 5 ≤ k → k ≤ 8 → kM k = k + 21 := by decide +kernel
/-- a tell's end, laws too -/
def RT (Z : Tks) (d : Nat) (μ0 : Mem) (e : Rs) (μ : Mem) : Prop := RM Z e μ ∧ Sd d μ0 μ ∧ ∀ s, e = .ok s → PnM d μ s ∧ LwM d μ s
theorem RQ.rt {Z : Tks} {d : Nat} {μ0 μ : Mem} {e : Rs} {s : Sg} (h : RQ Z d μ0 e μ) (l : LwM d μ0 s) (hI : ∀ r, e = .ok r → yT s ≤ yT r ∧ yW r = yW s) : RT Z d μ0 e μ := ⟨h.1, h.2.1, fun r er => ⟨h.2.2.2 r er, l.fr h.2.2.1 rfl rfl rfl rfl (hI r er).1 (hI r er).2⟩⟩
theorem RQ.pre {Z : Tks} {d : Nat} {μ0 μ1 μ : Mem} {e : Rs} (h : RQ Z d μ1 e μ) (g : Fr TM μ0 μ1) : RQ Z d μ0 e μ := ⟨h.1, h.2.1.tr ((Sd.rf _ _).fr g rfl), Fr.tr h.2.2.1 (g.mono TM_TP), h.2.2.2⟩
theorem m_tellOne_e {Z : Tks} {d : Nat} {μ : Mem} {s : Sg} (hz : ZOK Z) (h : CuM Z μ s) (hs : SgI Z s) (p : PnM d μ s) (l : LwM d μ s) (k0 : tkd Z (yT s) ≠ 43) : ∃ μ', m_tellOne μ = some ((), μ') ∧ RT Z d μ (gTell Z s) μ' := by
  have d2 := p.1.1
  have pk := p.1
  have k44 := hz.2.1 (yT s)
  have t1 := hs.2.2.2.2.2.2.2.1
  have t2 := hs.2.2.2.2.2.2.2.2
  have s0 := hs.1
  have s1 := hs.2.1
  have s2 := hs.2.2.1
  have kk : mI μ 58 0 (yT s) = nI (kM (tkd Z (yT s))) := (h.1 _ t2 t1).1
  have kl := kM_lt _ k44
  have isK : ∀ b x, b < 44 → x = kM b → tkd Z (yT s) ≠ b → ¬ nI (kM (tkd Z (yT s))) = nI x := fun b x hb hx hne => by
    subst hx
    exact nI_ne (fun z => hne (kM_inj _ k44 _ hb z)) (by omega) (by have := kM_lt b hb; omega)
  unfold m_tellOne gTell
  rw [h.2.1, if_pos (inB_nI (by omega) (by omega)), cl_nI (by omega), kk]
  by_cases c0 : tkd Z (yT s) = 0
  · rw [if_pos (show nI (kM (tkd Z (yT s))) = nI 20 by rw [c0]; rfl), if_pos c0]
    obtain ⟨μ', e1, q⟩ := m_tellLog_e hz h hs p k0
    exact ⟨μ', e1, q.rt l (fun r er => ⟨(gLog_I hz hs k0 er).2.1, (gLog_I hz hs k0 er).2.2.1⟩)⟩
  rw [if_neg (isK 0 20 (by omega) rfl c0), if_neg c0]
  by_cases c1 : tkd Z (yT s) = 1
  · rw [if_pos (show nI (kM (tkd Z (yT s))) = nI 21 by rw [c1]; rfl), if_pos c1, pk.2.1, if_pos (inB_nI d2 (by omega)), cl_nI (by omega), pk.2.2.2.1]
    obtain ⟨μ1, e1, r1, g1⟩ := m_roomFor_e h hs k0 (n := (yC s).2.1) (m := 6) (by omega) (by omega)
    have fI : ∀ r, gFld Z s = .ok r → yT s ≤ yT r ∧ yW r = yW s := fun r er => ⟨(gFld_I hz hs k0 er).2.1, (gFld_I hz hs k0 er).2.2.1⟩
    rw [ob_eq e1]
    by_cases c : (yC s).2.1 = 6
    · have eF : gFld Z s = gFl Z 2 s := by unfold gFld; rw [if_pos c]
      rw [if_pos c] at r1
      have r1' : ErM (2, nI (tpl Z (yT s))) μ1 := r1
      rw [if_neg r1'.nz, eF]
      exact ⟨μ1, rfl, r1, (Sd.rf _ _).fr g1 rfl, fun s' e => by cases e⟩
    · have eF : gFld Z s = bG (gPass Z s) fun r => bG (gNew Z r) fun q => bG (gNum Z 1 99 q) fun p => bG (gTake Z 30 p) fun o => .ok (adFld (tvl Z (yT r)) (nI (tvl Z (yT q))) o) := by unfold gFld; rw [if_neg c]
      rw [if_neg c] at r1
      rcases r1.k with ⟨r, er, p1, p2⟩ | ⟨φ, er, p1⟩
      · obtain ⟨rfl, -⟩ := gPass_ok er
        have pn1 : PnM d μ1 (wyT s (yT s + 1)) := ⟨pk.fr g1 rfl rfl, p.2.fr g1 rfl rfl⟩
        obtain ⟨μ2, e2, q2⟩ := m_tellField_e hz p1 p2 pn1 c
        rw [p1.2.2.1, if_pos rfl, ob_eq e2]
        refine ⟨μ2, rfl, RQ.rt ?_ l fI⟩
        rw [eF, er]
        exact q2.pre g1
      · rw [if_neg p1.nz]
        have : gFld Z s = .error φ := by rw [eF, er]; rfl
        rw [this]
        exact ⟨μ1, rfl, p1, (Sd.rf _ _).fr g1 rfl, fun s' e => by cases e⟩
  rw [if_neg (isK 1 21 (by omega) rfl c1), if_neg c1]
  by_cases c2 : tkd Z (yT s) = 2
  · rw [if_pos (show nI (kM (tkd Z (yT s))) = nI 22 by rw [c2]; rfl), if_pos c2, pk.2.1, if_pos (inB_nI d2 (by omega)), cl_nI (by omega), pk.2.2.2.2.1]
    obtain ⟨μ1, e1, r1, g1⟩ := m_roomFor_e h hs k0 (n := (yC s).2.2) (m := 12) (by omega) (by omega)
    have fI : ∀ r, gNotch Z s = .ok r → yT s ≤ yT r ∧ yW r = yW s := fun r er => ⟨(gNotch_I hz hs k0 er).2.1, (gNotch_I hz hs k0 er).2.2.1⟩
    rw [ob_eq e1]
    by_cases c : (yC s).2.2 = 12
    · have eF : gNotch Z s = gFl Z 2 s := by unfold gNotch; rw [if_pos c]
      rw [if_pos c] at r1
      have r1' : ErM (2, nI (tpl Z (yT s))) μ1 := r1
      rw [if_neg r1'.nz, eF]
      exact ⟨μ1, rfl, r1, (Sd.rf _ _).fr g1 rfl, fun s' e => by cases e⟩
    · have eF : gNotch Z s = bG (gPass Z s) (gNoT Z) := by unfold gNotch; rw [if_neg c]; rfl
      rw [if_neg c] at r1
      rcases r1.k with ⟨r, er, p1, p2⟩ | ⟨φ, er, p1⟩
      · obtain ⟨rfl, -⟩ := gPass_ok er
        have pn1 : PnM d μ1 (wyT s (yT s + 1)) := ⟨pk.fr g1 rfl rfl, p.2.fr g1 rfl rfl⟩
        obtain ⟨μ2, e2, q2⟩ := m_tellNotch_e hz p1 p2 pn1 c
        rw [p1.2.2.1, if_pos rfl, ob_eq e2]
        refine ⟨μ2, rfl, RQ.rt ?_ l fI⟩
        rw [eF, er]
        exact q2.pre g1
      · rw [if_neg p1.nz]
        have : gNotch Z s = .error φ := by rw [eF, er]; rfl
        rw [this]
        exact ⟨μ1, rfl, p1, (Sd.rf _ _).fr g1 rfl, fun s' e => by cases e⟩
  rw [if_neg (isK 2 22 (by omega) rfl c2), if_neg c2]
  obtain ⟨μ1, e1, r1, g1⟩ := m_goesOn_e (e := .ok s) ⟨h, hs⟩ (fun r hr => by cases hr; exact k0)
  have r1' : RM Z (gPass Z s) μ1 := r1
  by_cases c3 : tkd Z (yT s) = 3
  · rw [if_pos (show nI (kM (tkd Z (yT s))) = nI 23 by rw [c3]; rfl), if_pos c3, ob_eq e1]
    obtain ⟨μ2, e2, q2⟩ := m_tellDrain_e (C := yC s) (A := yA s) (N := yN s) hz r1' (pk.fr g1 rfl rfl) (p.2.fr g1 rfl rfl) (fun r er => by
      obtain ⟨rfl, -⟩ := gPass_ok er
      exact ⟨rfl, rfl, rfl⟩)
    rw [ob_eq e2]
    exact ⟨μ2, rfl, RQ.rt (q2.pre g1) l (fun r er => ⟨(gDrain_I hz hs k0 er).2.1, (gDrain_I hz hs k0 er).2.2.1⟩)⟩
  rw [if_neg (isK 3 23 (by omega) rfl c3), if_neg c3]
  by_cases c4 : tkd Z (yT s) = 4
  · rw [if_pos (show nI (kM (tkd Z (yT s))) = nI 24 by rw [c4]; rfl), if_pos c4]
    obtain ⟨ν1, ν2, x, μ', f1, f2, f3, f4, q⟩ := m_at_e (r := 74) (k := 1) (a := 1) (b := 9) hz h hs p k0 (Or.inr ⟨rfl, rfl⟩) (by omega) (by omega)
    rw [ob_eq f1, ob_eq f2, f4, if_pos (inB_nI d2 (by omega)), cl_nI (by omega), ob_eq f3]
    exact ⟨μ', rfl, RQ.rt q l (fun r er => ⟨(gSpring_I hs k0 er).2.1, (gSpring_I hs k0 er).2.2.1⟩)⟩
  rw [if_neg (isK 4 24 (by omega) rfl c4), if_neg c4]
  by_cases c9 : tkd Z (yT s) = 9
  · rw [if_pos (show nI (kM (tkd Z (yT s))) = nI 30 by rw [c9]; rfl), if_pos c9]
    obtain ⟨ν1, ν2, x, μ', f1, f2, f3, f4, q⟩ := m_at_e (r := 75) (k := 0) (a := 0) (b := 9999) hz h hs p k0 (Or.inl ⟨rfl, rfl⟩) (by omega) (by omega)
    rw [ob_eq f1, ob_eq f2, f4, if_pos (inB_nI d2 (by omega)), cl_nI (by omega), mb_e, ob_eq f3]
    have eS : (bG (gPass Z s) fun r => bG (gNum Z 0 9999 r) fun q => bG (gTake Z 30 q) fun p => (.ok (stAt 0 0 (nI (tvl Z (yT r))) p) : Rs)) = gSeed Z s := by
      unfold gSeed
      congr 1
      funext r
      rw [gNum0 hz]
    rw [eS] at q
    exact ⟨μ', rfl, RQ.rt q l (fun r er => ⟨(gSeed_I hs k0 er).2.1, (gSeed_I hs k0 er).2.2.1⟩)⟩
  rw [if_neg (isK 9 30 (by omega) rfl c9), if_neg c9, vb_e]
  by_cases c5 : 5 ≤ tkd Z (yT s) ∧ tkd Z (yT s) ≤ 8
  · have kv := kM_lw _ k44 c5.1 c5.2
    rw [kv, pk_sub (by omega), show tkd Z (yT s) + 21 - 26 = tkd Z (yT s) - 5 by omega, if_neg (nI_nlt (Nat.zero_le _) (by omega)), if_pos (nI_le (by omega) (by omega)), h.2.2.1, if_pos (Int32.le_refl _), ob_eq e1, if_pos c5]
    have fI := fun r (er : gLaw Z (tkd Z (yT s) - 5) s = .ok r) => gLaw_I hz hs k0 er
    have ge : gLaw Z (tkd Z (yT s) - 5) s = bG (gPass Z s) fun r => bG (gTake Z 31 r) (gIfs Z (tkd Z (yT s) - 5) 4 []) := rfl
    generalize hk : tkd Z (yT s) - 5 = k at *
    rcases r1'.k with ⟨r, er, p1, p2⟩ | ⟨φ, er, p1⟩
    · obtain ⟨rfl, -⟩ := gPass_ok er
      obtain ⟨l12, br, cs, l36, l42, lb, lc, lw⟩ := l
      have l1 : LwM d μ1 s := ⟨(g1.I rfl).trans l12, br, cs, (g1.I rfl).trans l36, (g1.I rfl).trans l42, lb, lc, lw.fr g1 rfl⟩
      obtain ⟨μ2, e2, r2, S2, F2, L2⟩ := m_tellLaw_e (k := k) hz d2 (by omega) p1 p2 ((g1.I rfl).trans pk.2.1) l1 rfl rfl
      rw [ob_eq e2]
      have ge2 : gLaw Z k s = bG (gTake Z 31 (wyT s (yT s + 1))) (gIfs Z k 4 []) := by rw [ge, er]; rfl
      rw [← ge2] at r2 L2
      refine ⟨μ2, rfl, r2, S2.tr ((Sd.rf _ _).fr g1 rfl), fun s' e => ⟨?_, L2 s' e⟩⟩
      obtain ⟨-, W, -, w2, -⟩ := fI s' e
      unfold PnM
      rw [w2]
      exact ⟨(pk.fr g1 rfl rfl).fr F2 rfl rfl, (p.2.fr g1 rfl rfl).fr F2 rfl rfl⟩
    · have ge2 : gLaw Z k s = .error φ := by rw [ge, er]; rfl
      rw [ge2]
      have : ∃ μ', m_tellLaw (nI k) μ1 = some ((), μ') ∧ ErM φ μ' ∧ Sd d μ1 μ' := by
        obtain ⟨l12, br, cs, l36, l42, lb, lc, lw⟩ := l
        have m36 : mI μ1 55 0 36 = nI (130 * d + br) := (g1.I rfl).trans l36
        rw [law_e0, ob_eq (m_must_er p1 _), m36]
        unfold m_tellLaw_L12
        obtain ⟨μ', e2, x2⟩ := self_er (d := d) (k := k) (b0 := br) (c0 := cs) d2 p1 m36 (by omega) (Nat.le_refl _) (LK.rf d k br cs μ1) (nI k) (nI (130 * d + br)) (nI k) (nI (130 * d + br)) (nI 0) (show 0 < 60000 by omega)
        exact ⟨μ', e2, x2.1, x2.2.sd (by omega)⟩
      obtain ⟨μ2, e2, x2, S2⟩ := this
      rw [ob_eq e2]
      exact ⟨μ2, rfl, x2, S2.tr ((Sd.rf _ _).fr g1 rfl), fun s' e => by cases e⟩
  · rw [if_neg c5]
    obtain ⟨μ2, e2, er2, g2⟩ := m_fail_ok h hs (c := 1) (Or.inl rfl)
    have df := kM_df _ k44 (by omega)
    have res : ∃ μ', (some ((), μ2) : Option (Unit × Mem)) = some ((), μ') ∧ RT Z d μ (gFl Z 1 s) μ' := ⟨μ2, rfl, er2, (Sd.rf _ _).fr g2 rfl, fun s' e => by cases e⟩
    by_cases c6 : nI (kM (tkd Z (yT s))) - nI 26 < nI 0
    · rw [if_pos c6, ob_eq e2, if_neg er2.nle]
      exact res
    · rw [if_neg c6, if_neg (df.resolve_left c6), ob_eq e2, if_neg er2.nle]
      exact res
theorem tellsM_e {Z : Tks} {d : Nat} (hz : ZOK Z) (K : Mem → Option (Int32 × Mem)) : ∀ (f : Nat) (s : Sg) (μ : Mem) (fuel : Nat), f < fuel → 401 ≤ f + yT s → SgI Z s → CuM Z μ s → PnM d μ s → LwM d μ s → ∃ μ', fixN (fun _ => none) (m_read_B112 K) fuel μ = K μ' ∧ RT Z d μ (gTells Z f s) μ' ∧ Fr T_m_tellOne μ μ' := by
  intro f
  induction f with
  | zero =>
    intro s μ fuel hf hy hs h p l
    have := hs.2.2.2.2.2.2.2.1
    omega
  | succ f ih =>
    intro s μ fuel hf hy hs h p l
    obtain ⟨fu, rfl⟩ : ∃ fu, fuel = fu + 1 := ⟨fuel - 1, by omega⟩
    rw [fixN_s]
    unfold m_read_B112 gTells
    rw [h.2.2.1, if_pos rfl, ob_eq (m_is_ok h hs hz (show 43 < 44 by omega) (show 0 = kM 43 from rfl))]
    by_cases c : tkd Z (yT s) = 43
    · rw [decide_eq_true c, if_neg (show ¬ b01I true = nI 0 by decide), if_pos c]
      exact ⟨μ, rfl, ⟨⟨h, hs⟩, Sd.rf _ _, fun s' e => by cases e; exact ⟨p, l⟩⟩, Fr.rf _ _⟩
    · obtain ⟨μ1, e1, r1, S1, q1⟩ := m_tellOne_e hz h hs p l c
      have g1 := f_m_tellOne e1
      rw [decide_eq_false c, if_pos (show b01I false = nI 0 from rfl), if_neg c, ob_eq e1]
      rcases r1.k with ⟨r, er, p1, p2⟩ | ⟨φ, er, p1⟩
      · have lt := gTell_lt hz hs c er
        obtain ⟨q2, q3⟩ := q1 r er
        obtain ⟨μ2, e2, ⟨r2, S2, q4⟩, g2⟩ := ih r μ1 fu (by omega) (by omega) p2 p1 q2 q3
        rw [er]
        exact ⟨μ2, e2, ⟨r2, S2.tr S1, q4⟩, Fr.tr g2 g1⟩
      · rw [er]
        obtain ⟨fv, rfl⟩ : ∃ fv, fu = fv + 1 := ⟨fu - 1, by omega⟩
        rw [fixN_s, if_neg p1.nz]
        exact ⟨μ1, rfl, ⟨p1, S1, fun s' e => by cases e⟩, g1⟩

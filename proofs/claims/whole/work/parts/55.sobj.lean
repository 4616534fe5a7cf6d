/-! the class' other calls that change it -/
/-- what a change of the state behind a push comes to -/
theorem InvC.settle {μ0 μ1 μ2 : Mem} {p : Nat} {o o' : Ob} {S : Nat → Int32} {T : List At} (hk : PlOK (zP o)) (hS : StOK (zP o) S) (c : CCore μ0 p (zP o) (zS o)) (f : ∀ r i k, NdC r i k → mI μ1 r i k = mI μ0 r i k ∧ mL μ1 r i k = mL μ0 r i k ∧ mR μ1 r i k = mR μ0 r i k) (r : RestC μ1 o') (hP : zP o' = zP o) (hS' : zS o' = S) (g : Fr T μ1 μ2) (ok : okS T = true) (w : WoC μ2 0 p (zP o) S) : ∃ μ', wo_settle 0 μ2 = some ((), μ') ∧ InvC μ' p o' := by
  obtain ⟨μ', e, w', a'⟩ := wo_settle_e hk hS w
  have g5 := f_wo_settle e
  have R : ∀ k, k = 3 ∨ k = 4 → mR μ' 10 0 k = mR μ0 10 0 k := fun k hh => (g5.R (okS_f (T := T_wo_settle 0) rfl (by omega) (by omega) (by omega))).trans ((g.R (okS_f ok (by omega) (by omega) (by omega))).trans (f 10 0 k (by unfold NdC; omega)).2.2)
  refine ⟨μ', e, ?_, (r.fr g ok).fr g5 rfl⟩
  rw [hP, hS']
  exact ⟨(R 3 (Or.inl rfl)).trans c.1, (R 4 (Or.inr rfl)).trans c.2.1, ((g5.R (okS_f (T := T_wo_settle 0) rfl (by omega) (by omega) (by omega))).trans ((g.R (okS_f ok (by omega) (by omega) (by omega))).trans (f 31 1 0 (by unfold NdC; omega)).2.2)).trans c.2.2.1, w', a'⟩
/-! drain -/
def drS (S : Nat → Int32) (f d q : Nat) : Nat → Int32 := up (up S f (nI d)) (6 + f) (nI q)
theorem drS_ok {P : Pl} {S : Nat → Int32} (hk : PlOK P) (hS : StOK P S) {f d q : Nat} (hf : f < 6) (hd : d < pLg P) (hq : q ≤ 3) : StOK P (drS S f d q) := by
  have e : drS S f d q = up (up S (6 + f) (nI q)) f (nI d) := funext fun k => by
    unfold drS
    by_cases e : k = f
    · subst e; rw [up_s, up_n _ _ (show k ≠ 6 + k by omega), up_s]
    · rw [up_n _ _ e]
      by_cases e2 : k = 6 + f
      · subst e2; rw [up_s, up_s]
      · rw [up_n _ _ e2, up_n _ _ e, up_n _ _ e2]
  rw [e]
  exact dS_ok hk hS hf hd hq
def cDr (o : Ob) (x y z : Int32) : Bool := inB x (pFd (zP o)) && (inB y (pLg (zP o)) && (inR z (nI 0) (nI 3) && !(decide (zS o (cl x) = y) && decide (zS o (6 + cl x) = z))))
def rDrain (o : Ob) (x y z : Int32) : Int32 := b01I (cDr o x y z)
def nDrain (o : Ob) (x y z : Int32) : Ob := if cDr o x y z = true then psh o (drS (zS o) (cl x) (cl y) (cl z)) else o
theorem cDr_t {o : Ob} (hk : PlOK (zP o)) {x y z : Int32} (h : cDr o x y z = true) : ∃ f d q, x = nI f ∧ f < pFd (zP o) ∧ y = nI d ∧ d < pLg (zP o) ∧ z = nI q ∧ q ≤ 3 := by
  have k1 := hk.1
  have k2 := hk.2.1
  unfold cDr at h
  rw [Bool.and_eq_true, Bool.and_eq_true, Bool.and_eq_true] at h
  obtain ⟨a, b, c, -⟩ := h
  rcases inB_cases x (show pFd (zP o) < 2147483648 by omega) with ⟨-, f, hf, e1⟩ | ⟨z, -⟩
  · rcases inB_cases y (show pLg (zP o) < 2147483648 by omega) with ⟨-, d, hd, e2⟩ | ⟨z, -⟩
    · obtain ⟨q, -, hq, e3⟩ := inR_t (by omega) (by omega) c
      exact ⟨f, d, q, e1, hf, e2, hd, e3, hq⟩
    · rw [b] at z; cases z
  · rw [a] at z; cases z
theorem nDrain_ok {o : Ob} (h : OkO o) (x y z : Int32) : OkO (nDrain o x y z) := by
  unfold nDrain
  split
  · rename_i c
    have k1 := h.1.1
    have k2 := h.1.2.1
    obtain ⟨f, d, q, rfl, hf, rfl, hd, rfl, hq⟩ := cDr_t h.1 c
    rw [cl_nI (by omega), cl_nI (by omega), cl_nI (by omega)]
    exact psh_ok h (drS_ok h.1 h.2.1 (by omega) hd hq)
  · exact h
theorem s_drain_e {μ : Mem} {p : Nat} {o : Ob} (ok : OkO o) (h : InvC μ p o) (x y z : Int32) : ∃ μ', s_drain x y z μ = some (rDrain o x y z, μ') ∧ InvC μ' p (nDrain o x y z) := by
  have ok0 := ok
  have h0 := h
  obtain ⟨hk, hS, hN, -⟩ := ok
  obtain ⟨hc, hr⟩ := h
  have k1 := hk.1
  have k2 := hk.2.1
  have e0 := s_isField_e hk hc x
  have e1 := s_isLog_e hk hc y
  have e2 := s_isFrom_r z (nI 0) (nI 3) μ
  have no : cDr o x y z = false → ∀ {v : Int32} {μ' : Mem}, v = nI 0 → μ' = μ → some (v, μ') = some (rDrain o x y z, μ) := fun c v μ' e e' => by unfold rDrain; rw [c, e, e']; rfl
  have nn : cDr o x y z = false → InvC μ p (nDrain o x y z) := fun c => by unfold nDrain; rw [c]; exact h0
  unfold s_drain
  rcases inB_cases x (show pFd (zP o) < 2147483648 by omega) with ⟨a, f, hf, e⟩ | ⟨a, -⟩
  · subst e
    rw [a] at e0
    rcases inB_cases y (show pLg (zP o) < 2147483648 by omega) with ⟨b, d, hd, e⟩ | ⟨b, -⟩
    · subst e
      rw [b] at e1
      cases c : inR z (nI 0) (nI 3) with
      | false =>
        rw [c] at e2
        have cf : cDr o (nI f) (nI d) z = false := by unfold cDr; rw [c]; simp
        refine ⟨μ, ?_, nn cf⟩
        simp only [↓ob_eq e0, ↓ob_eq e1, ↓ob_eq e2, b01I, nI_10, Bool.false_eq_true, ↓reduceIte]
        exact no cf rfl rfl
      | true =>
        rw [c] at e2
        obtain ⟨q, -, hq, rfl⟩ := inR_t (by omega) (by omega) c
        have hb6 : inB (nI f) 6 = true := inB_nI (by omega) (by omega)
        have d1 := hc.wo.st.dr hf
        have d2 := hc.wo.st.qu hf
        have ce : cDr o (nI f) (nI d) (nI q) = !(decide (zS o f = nI d) && decide (zS o (6 + f) = nI q)) := by unfold cDr; rw [a, b, c, cl_nI (by omega)]; rfl
        have go : cDr o (nI f) (nI d) (nI q) = true → ∃ μ1 μ2, pa_push 2 μ = some ((), μ1) ∧ wo_settle 0 (stI (stI μ1 28 2 f (nI d)) 29 2 f (nI q)) = some ((), μ2) ∧ InvC μ2 p (nDrain o (nI f) (nI d) (nI q)) := fun ct => by
          obtain ⟨μ1, e4, r1, f1⟩ := hr.push hk hc.wo.st hN (drS (zS o) f d q)
          have w1 := hc.wo.frn f1
          have w2 := (w1.dra hk (show f < 6 by omega) (nI d)).qua hk (show f < 6 by omega) (nI q)
          have g : Fr [(28, some 2, none), (29, some 2, none)] μ1 (stI (stI μ1 28 2 f (nI d)) 29 2 f (nI q)) := Fr.stI (Fr.stI (Fr.rf _ _) (iT 0 rfl inA_en)) (iT 1 rfl inA_en)
          obtain ⟨μ2, e5, i2⟩ := InvC.settle (o' := psh o (drS (zS o) f d q)) hk (drS_ok hk hS (show f < 6 by omega) hd hq) hc f1 r1 rfl rfl g rfl w2
          refine ⟨μ1, μ2, e4, e5, ?_⟩
          unfold nDrain
          rw [if_pos ct, cl_nI (by omega), cl_nI (by omega), cl_nI (by omega)]
          exact i2
        by_cases c1 : zS o f = nI d
        · by_cases c2 : zS o (6 + f) = nI q
          · have cf : cDr o (nI f) (nI d) (nI q) = false := by rw [ce, decide_eq_true c1, decide_eq_true c2]; rfl
            refine ⟨μ, ?_, nn cf⟩
            simp (disch := omega) only [↓ob_eq e0, ↓ob_eq e1, ↓ob_eq e2, b01I, nI_10, hb6, cl_nI, d1, d2, c1, c2, ↓reduceIte]
            exact no cf rfl rfl
          · have ct : cDr o (nI f) (nI d) (nI q) = true := by rw [ce, decide_eq_false c2, Bool.and_false]; rfl
            obtain ⟨μ1, μ2, e4, e5, i2⟩ := go ct
            refine ⟨μ2, ?_, i2⟩
            simp (disch := omega) only [↓ob_eq e0, ↓ob_eq e1, ↓ob_eq e2, b01I, nI_10, hb6, cl_nI, d1, d2, c1, c2, ↓ob_eq e4, ↓mb_e, ↓ob_eq e5, ↓reduceIte]
            unfold rDrain
            rw [ct]
            rfl
        · have ct : cDr o (nI f) (nI d) (nI q) = true := by rw [ce, decide_eq_false c1, Bool.false_and]; rfl
          obtain ⟨μ1, μ2, e4, e5, i2⟩ := go ct
          refine ⟨μ2, ?_, i2⟩
          simp (disch := omega) only [↓ob_eq e0, ↓ob_eq e1, ↓ob_eq e2, b01I, nI_10, hb6, cl_nI, d1, d2, c1, ↓ob_eq e4, ↓mb_e, ↓ob_eq e5, ↓reduceIte]
          unfold rDrain
          rw [ct]
          rfl
    · rw [b] at e1
      have cf : cDr o (nI f) y z = false := by unfold cDr; rw [b]; simp
      refine ⟨μ, ?_, nn cf⟩
      simp only [↓ob_eq e0, ↓ob_eq e1, b01I, nI_10, Bool.false_eq_true, ↓reduceIte]
      exact no cf rfl rfl
  · rw [a] at e0
    have cf : cDr o x y z = false := by unfold cDr; rw [a]; rfl
    refine ⟨μ, ?_, nn cf⟩
    simp only [↓ob_eq e0, b01I, Bool.false_eq_true, ↓reduceIte]
    exact no cf rfl rfl
/-! spring -/
def cSp (o : Ob) (x : Int32) : Bool := inR x (nI 1) (nI 9) && !decide (zS o 30 = x)
def nSpring (o : Ob) (x : Int32) : Ob := if cSp o x = true then psh o (up (zS o) 30 x) else o
theorem nSpring_ok {o : Ob} (h : OkO o) (x : Int32) : OkO (nSpring o x) := by
  unfold nSpring
  split
  · rename_i c
    unfold cSp at c
    rw [Bool.and_eq_true] at c
    obtain ⟨q, h1, h9, rfl⟩ := inR_t (by omega) (by omega) c.1
    exact psh_ok h (up30_ok h.1 h.2.1 h1 h9)
  · exact h
theorem s_spring_e {μ : Mem} {p : Nat} {o : Ob} (ok : OkO o) (h : InvC μ p o) (x : Int32) : ∃ μ', s_spring x μ = some (b01I (cSp o x), μ') ∧ InvC μ' p (nSpring o x) := by
  have h0 := h
  obtain ⟨hk, hS, hN, -⟩ := ok
  obtain ⟨hc, hr⟩ := h
  have e1 := s_isFrom_r x (nI 1) (nI 9) μ
  unfold s_spring nSpring
  cases c : inR x (nI 1) (nI 9) with
  | false =>
    rw [c] at e1
    have cf : cSp o x = false := by unfold cSp; rw [c]; rfl
    rw [cf]
    refine ⟨μ, ?_, h0⟩
    simp only [↓ob_eq e1, b01I, Bool.false_eq_true, ↓reduceIte]
  | true =>
    rw [c] at e1
    obtain ⟨q, h1, h9, rfl⟩ := inR_t (by omega) (by omega) c
    have sp := hc.wo.st.sp
    by_cases c1 : zS o 30 = nI q
    · have cf : cSp o (nI q) = false := by unfold cSp; rw [c, decide_eq_true c1]; rfl
      rw [cf]
      refine ⟨μ, ?_, h0⟩
      simp only [↓ob_eq e1, b01I, nI_10, sp, c1, Bool.false_eq_true, ↓reduceIte]
    · have ct : cSp o (nI q) = true := by unfold cSp; rw [c, decide_eq_false c1]; rfl
      rw [ct]
      obtain ⟨μ1, e4, r1, f1⟩ := hr.push hk hc.wo.st hN (up (zS o) 30 (nI q))
      have w2 := (hc.wo.frn f1).spr hk (nI q)
      have g : Fr [(26, some 2, some 4)] μ1 (stI μ1 26 2 4 (nI q)) := Fr.stI (Fr.rf _ _) (iT 0 rfl inA_es)
      obtain ⟨μ2, e5, i2⟩ := InvC.settle (o' := psh o (up (zS o) 30 (nI q))) hk (up30_ok hk hS h1 h9) hc f1 r1 rfl rfl g rfl w2
      refine ⟨μ2, ?_, i2⟩
      simp only [↓ob_eq e1, b01I, nI_10, sp, c1, ↓ob_eq e4, ↓ob_eq e5, ↓reduceIte]
/-! days -/
noncomputable def dyS (o : Ob) (n : Nat) : Nat → Int32 := daysS (zP o) (pSeed (zP o)) false (zS o) n
noncomputable def rDays (o : Ob) (x : Int32) : Int32 := if inR x (nI 0) (nI 60) = true then (if x = nI 0 then zS o 31 else dyS o (cl x) 31) else -1
noncomputable def nDays (o : Ob) (x : Int32) : Ob := if inR x (nI 0) (nI 60) = true then (if x = nI 0 then o else psh o (dyS o (cl x))) else o
theorem nDays_ok {o : Ob} (h : OkO o) (x : Int32) : OkO (nDays o x) := by
  unfold nDays
  split
  · split
    · exact h
    · exact psh_ok h (daysS_ok h.1 h.2.1 _)
  · exact h
theorem s_days_e {μ : Mem} {p : Nat} {o : Ob} (ok : OkO o) (h : InvC μ p o) (x : Int32) : ∃ μ', s_days x μ = some (rDays o x, μ') ∧ InvC μ' p (nDays o x) := by
  have h0 := h
  obtain ⟨hk, hS, hN, -⟩ := ok
  obtain ⟨hc, hr⟩ := h
  have e1 := s_isFrom_r x (nI 0) (nI 60) μ
  unfold s_days rDays nDays
  cases c : inR x (nI 0) (nI 60) with
  | false =>
    rw [c] at e1
    refine ⟨μ, ?_, h0⟩
    simp only [↓ob_eq e1, b01I, Bool.false_eq_true, ↓reduceIte]
  | true =>
    rw [c] at e1
    obtain ⟨n, -, h60, rfl⟩ := inR_t (by omega) (by omega) c
    by_cases c1 : n = 0
    · subst c1
      refine ⟨μ, ?_, h0⟩
      simp (disch := omega) only [↓ob_eq e1, b01I, nI_10, nI_leT, hc.wo.st.da, ↓reduceIte]
    · obtain ⟨μ1, e4, r1, f1⟩ := hr.push hk hc.wo.st hN (dyS o n)
      have c1' := hc.frn f1
      have hp2 := c1'.p2
      obtain ⟨μ2, e5, w2, a2⟩ := wo_passDays_e (si := true) (show n < 1000 by omega) hk hS c1'.wo c1'.wa (seed := pSeed (zP o))
      have g := f_wo_passDays e5
      rw [if_pos rfl, if_neg (show ¬ nI n = nI 0 by rw [nI_eqF (by omega) (by omega) (by omega)]; exact id), if_pos rfl, if_neg (show ¬ nI n = nI 0 by rw [nI_eqF (by omega) (by omega) (by omega)]; exact id), cl_nI (by omega)]
      refine ⟨μ2, ?_, c1'.mk ?_ ?_ w2 a2, (show RestC μ1 (psh o (dyS o n)) from r1).fr g rfl⟩
      · have d2 := w2.st.da
        have e5' : wo_passDays 0 (nI n) (pSeed (zP o)) (nI 1) μ1 = some ((), μ2) := e5
        simp (disch := omega) only [↓ob_eq e1, b01I, nI_10, nI_leF, ↓ob_eq e4, c1'.pn, hp2, c1'.wo.pl.sd, ↓ob_eq e5', ↓reduceIte]
        rw [d2]
        rfl
      · rintro i k ⟨-, rfl | rfl⟩ <;> exact g.R rfl
      · exact g.R rfl
/-! undo -/
def unO (o : Ob) : Ob := (zP o, zH o 0, (zN o - 1, fun j => zH o (j + 1)), (zB o, zV o), zT o, (zM o, zX o), zE o)
def nUndo (o : Ob) : Ob := if zN o = 0 then o else unO o
theorem nUndo_ok {o : Ob} (h : OkO o) : OkO (nUndo o) := by
  unfold nUndo
  split
  · exact h
  · rename_i c
    obtain ⟨a, b, n, d, e, f, g⟩ := h
    exact ⟨a, d 0 (by omega), (by show zN o - 1 ≤ 40; omega), fun j (hj : j < zN o - 1) => d (j + 1) (by omega), e, f, g⟩
theorem RestC.fn {μ μ' : Mem} {o : Ob} (h : RestC μ o) (f : ∀ r i k, ((r = 10 ∧ (k = 1 ∨ k = 2)) ∨ r = 11 ∨ r = 44 ∨ (47 ≤ r ∧ r ≤ 51) ∨ ((26 ≤ r ∧ r ≤ 30) ∧ 4 ≤ i)) → mI μ' r i k = mI μ r i k) : RestC μ' o := by
  obtain ⟨⟨la, a1, a2, a3, a4⟩, b, c, d, e⟩ := h
  have st : ∀ {s S}, StC μ s (zP o) S → 4 ≤ s → StC μ' s (zP o) S := fun {s S} st hs => ⟨fun n hn => (f _ _ _ (by omega)).trans (st.wi hn), fun g hg => ⟨(f _ _ _ (by omega)).trans (st.dr hg), (f _ _ _ (by omega)).trans (st.qu hg), (f _ _ _ (by omega)).trans (st.gr hg)⟩, (f _ _ _ (by omega)).trans st.sp, (f _ _ _ (by omega)).trans st.da, (f _ _ _ (by omega)).trans st.pd⟩
  exact ⟨⟨la, a1, (f _ _ _ (by omega)).trans a2, (f _ _ _ (by omega)).trans a3, fun j hj => st (a4 j hj) (by omega)⟩, fun k hk => ⟨(f _ _ _ (by omega)).trans (b k hk).1, fun hb => st ((b k hk).2 hb) (by omega)⟩, ⟨(f _ _ _ (by omega)).trans c.1, fun i hi => ⟨(f _ _ _ (by omega)).trans (c.2 i hi).1, (f _ _ _ (by omega)).trans (c.2 i hi).2.1, (f _ _ _ (by omega)).trans (c.2 i hi).2.2⟩⟩, ⟨(f _ _ _ (by omega)).trans d.1, fun k hk => (f _ _ _ (by omega)).trans (d.2 k hk)⟩, (f _ _ _ (by omega)).trans e⟩
theorem s_undo_e {μ : Mem} {p : Nat} {o : Ob} (ok : OkO o) (h : InvC μ p o) : ∃ μ', s_undo μ = some (b01I (!decide (zN o = 0)), μ') ∧ InvC μ' p (nUndo o) := by
  have h0 := h
  obtain ⟨hk, hS, hN, hH, -⟩ := ok
  obtain ⟨hc, hr⟩ := h
  unfold s_undo nUndo
  by_cases c : zN o = 0
  · rw [if_pos c, decide_eq_true c]
    refine ⟨μ, ?_, h0⟩
    obtain ⟨la, -, -, a3, -⟩ := hr.1
    have e1 : pa_pop 2 μ = some (nI 0, μ) := by
      unfold pa_pop
      rw [a3, c, if_pos rfl]
    simp only [↓ob_eq e1, b01I, Bool.not_true, Bool.false_eq_true, ↓reduceIte]
  · rw [if_neg c, decide_eq_false c]
    obtain ⟨n, hn⟩ : ∃ n, zN o = n + 1 := ⟨zN o - 1, by omega⟩
    have hp := hr.1
    rw [hn] at hp
    obtain ⟨μ1, e1, p1, s1, f1⟩ := pa_pop_e hk hp (by omega)
    obtain ⟨-, b, t, d, e⟩ := hr
    have w1 : WoC μ1 0 p (zP o) (zH o 0) := by
      have w := hc.wo
      refine ⟨w.p2, ?_, ⟨?_, ?_, ?_, ?_, fun f hf => ?_, fun n hn => ?_, fun n hn => ?_⟩, ?_, s1⟩
      · rw [(f1 _ _ _ (by omega)).2.2]; exact w.r
      · rw [(f1 _ _ _ (by omega)).1]; exact w.pl.lg
      · rw [(f1 _ _ _ (by omega)).1]; exact w.pl.fd
      · rw [(f1 _ _ _ (by omega)).1]; exact w.pl.no
      · rw [(f1 _ _ _ (by omega)).1]; exact w.pl.sd
      · rw [(f1 _ _ _ (by omega)).1]; exact w.pl.ar hf
      · rw [(f1 _ _ _ (by omega)).1]; exact w.pl.lo hn
      · rw [(f1 _ _ _ (by omega)).1]; exact w.pl.to hn
      · obtain ⟨cs, h1, h2, h3⟩ := w.la
        refine ⟨cs, h1, by rw [(f1 _ _ _ (by omega)).1]; exact h2, fun k hk => ?_⟩
        obtain ⟨s, a, b, c⟩ := h3 k hk
        exact ⟨s, by rw [(f1 _ _ _ (by omega)).1]; exact a, b, fun i hi => by rw [(f1 _ _ _ (by omega)).1]; exact c i hi⟩
    obtain ⟨μ2, e2, w2, a2⟩ := wo_settle_e hk (hH 0 (by omega)) w1
    have g2 := f_wo_settle e2
    have r1 : RestC μ1 (unO o) := by
      have hn1 : zN o - 1 = n := by omega
      refine ⟨?_, ?_, ?_, ?_, ?_⟩
      · show PastC μ1 (zP o) (zN o - 1) _
        rw [hn1]; exact p1
      · intro k hk
        have st0 := (b k hk).2
        exact ⟨(f1 _ _ _ (by omega)).1.trans (b k hk).1, fun hb => ⟨fun n hn => (f1 _ _ _ (by omega)).1.trans ((st0 hb).wi hn), fun g hg => ⟨(f1 _ _ _ (by omega)).1.trans ((st0 hb).dr hg), (f1 _ _ _ (by omega)).1.trans ((st0 hb).qu hg), (f1 _ _ _ (by omega)).1.trans ((st0 hb).gr hg)⟩, (f1 _ _ _ (by omega)).1.trans (st0 hb).sp, (f1 _ _ _ (by omega)).1.trans (st0 hb).da, (f1 _ _ _ (by omega)).1.trans (st0 hb).pd⟩⟩
      · exact ⟨(f1 _ _ _ (by omega)).1.trans t.1, fun i hi => ⟨(f1 _ _ _ (by omega)).1.trans (t.2 i hi).1, (f1 _ _ _ (by omega)).1.trans (t.2 i hi).2.1, (f1 _ _ _ (by omega)).1.trans (t.2 i hi).2.2⟩⟩
      · exact ⟨(f1 _ _ _ (by omega)).1.trans d.1, fun k hk => (f1 _ _ _ (by omega)).1.trans (d.2 k hk)⟩
      · exact (f1 _ _ _ (by omega)).1.trans e
    refine ⟨μ2, ?_, hc.mk ?_ ?_ w2 a2, r1.fr g2 rfl⟩
    · simp only [↓ob_eq e1, nI_10, ↓ob_eq e2, b01I, Bool.not_false, ↓reduceIte]
    · rintro i k ⟨-, rfl | rfl⟩ <;> exact (g2.R rfl).trans (f1 _ _ _ (by omega)).2.2
    · exact (g2.R rfl).trans (f1 _ _ _ (by omega)).2.2
/-! hold, restore -/
def cHo (x : Int32) : Bool := inR x (nI 0) (nI 2)
def nHold (o : Ob) (x : Int32) : Ob := if cHo x = true then wB o (up (zB o) (cl x) true) (up (zV o) (cl x) (zS o)) else o
theorem nHold_ok {o : Ob} (h : OkO o) (x : Int32) : OkO (nHold o x) := by
  unfold nHold
  split
  · obtain ⟨a, b, n, d, e, f, g⟩ := h
    refine ⟨a, b, n, d, fun k hk (hb : up (zB o) (cl x) true k = true) => ?_, f, g⟩
    show StOK (zP o) (up (zV o) (cl x) (zS o) k)
    by_cases z : k = cl x
    · subst z; rw [up_s]; exact b
    · rw [up_n _ _ z] at hb ⊢; exact e k hk hb
  · exact h
theorem s_hold_e {μ : Mem} {p : Nat} {o : Ob} (ok : OkO o) (h : InvC μ p o) (x : Int32) : ∃ μ', s_hold x μ = some (b01I (cHo x), μ') ∧ InvC μ' p (nHold o x) := by
  have h0 := h
  obtain ⟨hk, hS, hN, -⟩ := ok
  obtain ⟨hc, hr⟩ := h
  have e1 := s_isFrom_r x (nI 0) (nI 2) μ
  unfold s_hold nHold
  cases c : inR x (nI 0) (nI 2) with
  | false =>
    rw [c] at e1
    have cf : cHo x = false := c
    rw [cf]
    refine ⟨μ, ?_, h0⟩
    simp only [↓ob_eq e1, b01I, Bool.false_eq_true, ↓reduceIte]
  | true =>
    rw [c] at e1
    have ct : cHo x = true := c
    rw [ct]
    obtain ⟨s, -, hs2, rfl⟩ := inR_t (by omega) (by omega) c
    obtain ⟨μ1, e2, s1⟩ := st_become_e (i := s + 44) hk hc.wo.st (by omega)
    have g1 := f_st_become e2
    have off : ∀ r i k, ¬ (26 ≤ r ∧ r ≤ 30 ∧ i = s + 44) → inT (T_st_become (s + 44) 2) r i k = false := fun r i k hh => by
      cases e : inT (T_st_become (s + 44) 2) r i k with
      | false => rfl
      | true =>
        exfalso
        obtain ⟨a, ha, hb⟩ := List.any_eq_true.mp e
        unfold T_st_become at ha
        unfold inA at hb
        simp only [List.mem_cons, List.not_mem_nil, or_false] at ha
        rcases ha with rfl | rfl | rfl | rfl | rfl | rfl | rfl <;> (simp only [Bool.and_eq_true, beq_iff_eq] at hb; omega)
    rw [if_pos rfl, cl_nI (by omega)]
    refine ⟨stI μ1 47 0 s (nI 1), ?_, ?_, ?_⟩
    · simp (disch := omega) only [↓ob_eq e1, b01I, nI_10, inB_nI, cl_nI, ↓ob_eq e2, b11, ↓reduceIte]
    · refine hc.frn (fun r i k hh => ?_)
      unfold NdC at hh
      have a1 := g1.1 r i k (off _ _ _ (by omega))
      exact ⟨by rw [mI_stI, if_neg (by omega)]; exact a1.1, a1.2.1, a1.2.2⟩
    · obtain ⟨⟨la, a1, a2, a3, a4⟩, b, t, d, e⟩ := hr
      have I : ∀ {r i k}, ¬ (26 ≤ r ∧ r ≤ 30 ∧ i = s + 44) → ¬ (r = 47 ∧ k = s) → mI (stI μ1 47 0 s (nI 1)) r i k = mI μ r i k := fun {r i k} z1 z2 => by rw [mI_stI, if_neg (by omega)]; exact g1.I (off _ _ _ z1)
      refine ⟨⟨la, a1, (I (by omega) (by omega)).trans a2, (I (by omega) (by omega)).trans a3, fun j hj => ?_⟩, fun k hk => ⟨?_, fun hb => ?_⟩, ⟨(I (by omega) (by omega)).trans t.1, fun i hi => ⟨(I (by omega) (by omega)).trans (t.2 i hi).1, (I (by omega) (by omega)).trans (t.2 i hi).2.1, (I (by omega) (by omega)).trans (t.2 i hi).2.2⟩⟩, ⟨(I (by omega) (by omega)).trans d.1, fun k hk => (I (by omega) (by omega)).trans (d.2 k hk)⟩, (I (by omega) (by omega)).trans e⟩
      · have st := a4 j hj
        exact ⟨fun n hn => (I (by omega) (by omega)).trans (st.wi hn), fun g hg => ⟨(I (by omega) (by omega)).trans (st.dr hg), (I (by omega) (by omega)).trans (st.qu hg), (I (by omega) (by omega)).trans (st.gr hg)⟩, (I (by omega) (by omega)).trans st.sp, (I (by omega) (by omega)).trans st.da, (I (by omega) (by omega)).trans st.pd⟩
      · show mI (stI μ1 47 0 s (nI 1)) 47 0 k = b01I (up (zB o) s true k)
        by_cases z : k = s
        · subst z; rw [up_s, mI_stI, if_pos ⟨rfl, rfl, rfl⟩]; rfl
        · rw [up_n _ _ z]; exact (I (by omega) (by omega)).trans (b k hk).1
      · have hb2 : up (zB o) s true k = true := hb
        show StC (stI μ1 47 0 s (nI 1)) (44 + k) (zP o) (up (zV o) s (zS o) k)
        by_cases z : k = s
        · subst z; rw [up_s, show 44 + k = k + 44 by omega]; exact s1
        · rw [up_n _ _ z] at hb2 ⊢
          have st := (b k hk).2 hb2
          exact ⟨fun n hn => (I (by omega) (by omega)).trans (st.wi hn), fun g hg => ⟨(I (by omega) (by omega)).trans (st.dr hg), (I (by omega) (by omega)).trans (st.qu hg), (I (by omega) (by omega)).trans (st.gr hg)⟩, (I (by omega) (by omega)).trans st.sp, (I (by omega) (by omega)).trans st.da, (I (by omega) (by omega)).trans st.pd⟩
def cRe (o : Ob) (x : Int32) : Bool := inR x (nI 0) (nI 2) && zB o (cl x)
def reO (o : Ob) (s : Nat) : Ob := (zP o, zV o s, (0, zH o), (zB o, zV o), zT o, (zM o, zX o), zE o)
def nRestore (o : Ob) (x : Int32) : Ob := if cRe o x = true then reO o (cl x) else o
theorem nRestore_ok {o : Ob} (h : OkO o) (x : Int32) : OkO (nRestore o x) := by
  unfold nRestore
  split
  · rename_i c
    unfold cRe at c
    rw [Bool.and_eq_true] at c
    obtain ⟨s, -, hs2, rfl⟩ := inR_t (by omega) (by omega) c.1
    rw [cl_nI (by omega)] at c ⊢
    obtain ⟨a, b, n, d, e, f, g⟩ := h
    exact ⟨a, e s (by omega) c.2, Nat.zero_le _, fun j (hj : j < 0) => by omega, e, f, g⟩
  · exact h
theorem s_restore_e {μ : Mem} {p : Nat} {o : Ob} (ok : OkO o) (h : InvC μ p o) (x : Int32) : ∃ μ', s_restore x μ = some (b01I (cRe o x), μ') ∧ InvC μ' p (nRestore o x) := by
  have h0 := h
  obtain ⟨hk, hS, hN, hH, hV, -⟩ := ok
  obtain ⟨hc, hr⟩ := h
  have e1 := s_isFrom_r x (nI 0) (nI 2) μ
  unfold s_restore nRestore
  cases c : inR x (nI 0) (nI 2) with
  | false =>
    rw [c] at e1
    have cf : cRe o x = false := by unfold cRe; rw [c]; rfl
    rw [cf]
    refine ⟨μ, ?_, h0⟩
    simp only [↓ob_eq e1, b01I, Bool.false_eq_true, ↓reduceIte]
  | true =>
    rw [c] at e1
    obtain ⟨s, -, hs2, rfl⟩ := inR_t (by omega) (by omega) c
    have ce : cRe o (nI s) = zB o s := by unfold cRe; rw [c, cl_nI (by omega)]; rfl
    rw [ce, cl_nI (by omega)]
    have h47 := (hr.2.1 s (by omega)).1
    cases cb : zB o s with
    | false =>
      rw [cb] at h47
      refine ⟨μ, ?_, h0⟩
      simp (disch := omega) only [↓ob_eq e1, b01I, nI_10, inB_nI, cl_nI, h47, Bool.false_eq_true, ↓reduceIte]
    | true =>
      rw [cb] at h47
      obtain ⟨μ1, e2, s1⟩ := st_become_e (i := 2) hk ((hr.2.1 s (by omega)).2 cb) (by omega)
      rw [show 44 + s = s + 44 by omega] at e2
      have g1 := f_st_become e2
      have off : ∀ r i k, ¬ (26 ≤ r ∧ r ≤ 30 ∧ i = 2) → inT (T_st_become 2 (s + 44)) r i k = false := fun r i k hh => by
        cases e : inT (T_st_become 2 (s + 44)) r i k with
        | false => rfl
        | true =>
          exfalso
          obtain ⟨a, ha, hb⟩ := List.any_eq_true.mp e
          unfold T_st_become at ha
          unfold inA at hb
          simp only [List.mem_cons, List.not_mem_nil, or_false] at ha
          rcases ha with rfl | rfl | rfl | rfl | rfl | rfl | rfl <;> (simp only [Bool.and_eq_true, beq_iff_eq] at hb; omega)
      have w1 : WoC μ1 0 p (zP o) (zV o s) := by
        have w := hc.wo
        refine ⟨w.p2, ?_, ⟨?_, ?_, ?_, ?_, fun f hf => ?_, fun n hn => ?_, fun n hn => ?_⟩, ?_, s1⟩
        · rw [g1.R (off _ _ _ (by omega))]; exact w.r
        · rw [g1.I (off _ _ _ (by omega))]; exact w.pl.lg
        · rw [g1.I (off _ _ _ (by omega))]; exact w.pl.fd
        · rw [g1.I (off _ _ _ (by omega))]; exact w.pl.no
        · rw [g1.I (off _ _ _ (by omega))]; exact w.pl.sd
        · rw [g1.I (off _ _ _ (by omega))]; exact w.pl.ar hf
        · rw [g1.I (off _ _ _ (by omega))]; exact w.pl.lo hn
        · rw [g1.I (off _ _ _ (by omega))]; exact w.pl.to hn
        · exact w.la.fr2 g1 (fun r k hh => off _ _ _ (by omega))
      obtain ⟨μ2, e3, w2, a2⟩ := wo_settle_e hk (hV s (by omega) cb) w1
      have g2 := f_wo_settle e3
      have r1 : RestC μ1 o := hr.fn (fun r i k hh => g1.I (off _ _ _ (by omega)))
      have r2 := r1.fr g2 rfl
      have g3 : Fr [(44, none, some 2)] μ2 (stI μ2 44 0 2 (nI 0)) := Fr.stI (Fr.rf _ _) (iT 0 rfl inA_ns)
      have c3 : CCore μ2 p (zP o) (zV o s) := hc.mk (by
        rintro i k ⟨-, rfl | rfl⟩ <;> exact (g2.R rfl).trans (g1.R (off _ _ _ (by omega)))) ((g2.R rfl).trans (g1.R (off _ _ _ (by omega)))) w2 a2
      refine ⟨stI μ2 44 0 2 (nI 0), ?_, ?_, ?_⟩
      · simp (disch := omega) only [↓ob_eq e1, b01I, nI_10, inB_nI, cl_nI, h47, ↓ob_eq e2, ↓ob_eq e3, ↓reduceIte]
      · rw [if_pos rfl]
        exact c3.frn (fun r i k hh => ⟨by unfold NdC at hh; rw [mI_stI, if_neg (by omega)], rfl, rfl⟩)
      · rw [if_pos rfl]
        obtain ⟨⟨la, b1, b2, b3, b4⟩, b, t, d, e⟩ := r2
        refine ⟨⟨la, b1, ?_, ?_, fun j (hj : j < 0) => by omega⟩, b, t, d, e⟩
        · rw [mI_stI, if_neg (by omega)]; exact b2
        · rw [mI_stI, if_pos ⟨rfl, rfl, rfl⟩]; rfl

/-! read: the class -/
def byB (o : Ob) (k : Nat) : Nat := cl (zX o k &&& nI 255)
def tksO (o : Ob) : Tks := (tks (byB o) (zM o) 2001 0, zM o)
def rdO (o : Ob) (s : Sg) : Ob := (plG s, stG s, (0, zH o), (fun _ => false, zV o), (0, tF (zT o), tH (zT o), tB (zT o)), (0, zX o), -1)
def rdE (o : Ob) (x : Int32) : Ob := (zP o, zS o, (zN o, zH o), (zB o, zV o), zT o, (0, zX o), x)
def rRead (o : Ob) : Int32 := nI (rdF (tksO o)).1
def nRead (o : Ob) : Ob := match gText (tksO o) with
  | .error φ => rdE o φ.2
  | .ok s => if (yL s).1 = 0 then rdO o s else rdE o (yL s).2
theorem byT_o {o : Ob} (h : OkO o) : ByT (zX o) (byB o) (zM o) := fun k hk => byOK_By (h.2.2.2.2.2.2.2 k hk)
theorem gText_I {o : Ob} (h : OkO o) {s : Sg} (e : gText (tksO o) = .ok s) : SgI (tksO o) s ∧ SgG s := gTells_I (ZOK_tks (B := byB o) h.2.2.2.2.2.2.1) 401 (sg0_I _) sg0_G e
theorem rdE_ok {o : Ob} (h : OkO o) (x : Int32) : OkO (rdE o x) := by
  obtain ⟨a1, a2, a3, a4, a5, a6, a7, a8⟩ := h
  exact ⟨a1, a2, a3, a4, a5, a6, Nat.zero_le _, fun k hk => absurd hk (Nat.not_lt_zero _)⟩
theorem nRead_ok {o : Ob} (h : OkO o) : OkO (nRead o) := by
  unfold nRead
  cases e : gText (tksO o) with
  | error φ => exact rdE_ok h _
  | ok s =>
    dsimp only
    obtain ⟨hs, hg⟩ := gText_I h e
    by_cases c : (yL s).1 = 0
    · rw [if_pos c]
      obtain ⟨b1, b2⟩ := plG_ok hs hg c
      exact ⟨b1, b2, Nat.zero_le _, fun j hj => absurd hj (Nat.not_lt_zero _), fun k hk hb => (by cases hb), ⟨Nat.zero_le _, fun i hi => absurd hi (Nat.not_lt_zero _)⟩, Nat.zero_le _, fun k hk => absurd hk (Nat.not_lt_zero _)⟩
    · rw [if_neg c]; exact rdE_ok h _
theorem StC.kc {ip : Nat} {μ μ' : Mem} {w : Nat} {P : Pl} {S : Nat → Int32} (h : StC μ w P S) (g : Kc ip μ μ') (hw : w ≠ ip) : StC μ' w P S := by
  obtain ⟨a, b, c, d, e⟩ := h
  exact ⟨fun n hn => (g _ _ _ (by omega)).1.trans (a n hn), fun f hf => ⟨(g _ _ _ (by omega)).1.trans (b f hf).1, (g _ _ _ (by omega)).1.trans (b f hf).2.1, (g _ _ _ (by omega)).1.trans (b f hf).2.2⟩, (g _ _ _ (by omega)).1.trans c, (g _ _ _ (by omega)).1.trans d, (g _ _ _ (by omega)).1.trans e⟩
theorem RestC.kc {ip : Nat} {μ μ' : Mem} {o : Ob} (h : RestC μ o) (g : Kc ip μ μ') (i2 : ip < 2) : RestC μ' o := by
  obtain ⟨⟨la, a1, a2, a3, a4⟩, b, t, d, e⟩ := h
  exact ⟨⟨la, a1, (g _ _ _ (by omega)).1.trans a2, (g _ _ _ (by omega)).1.trans a3, fun j hj => (a4 j hj).kc g (by omega)⟩, fun k hk => ⟨(g _ _ _ (by omega)).1.trans (b k hk).1, fun hb => ((b k hk).2 hb).kc g (by omega)⟩, ⟨(g _ _ _ (by omega)).1.trans t.1, fun i hi => ⟨(g _ _ _ (by omega)).1.trans (t.2 i hi).1, (g _ _ _ (by omega)).1.trans (t.2 i hi).2.1, (g _ _ _ (by omega)).1.trans (t.2 i hi).2.2⟩⟩, ⟨(g _ _ _ (by omega)).1.trans d.1, fun k hk => (g _ _ _ (by omega)).1.trans (d.2 k hk)⟩, (g _ _ _ (by omega)).1.trans e⟩
theorem CCore.kc {p : Nat} {μ μ' : Mem} {P : Pl} {S : Nat → Int32} (h : CCore μ p P S) (g : Kc (1 - p) μ μ') : CCore μ' p P S := by
  obtain ⟨c1, c2, c3, ⟨p2, c4, ⟨a1, a2, a3, a4, a5, a6, a7⟩, ⟨cs, l1, l2, l3⟩, st⟩, wa⟩ := h
  refine ⟨(g _ _ _ (by omega)).2.2.trans c1, (g _ _ _ (by omega)).2.2.trans c2, (g _ _ _ (by omega)).2.2.trans c3, ⟨p2, (g _ _ _ (by omega)).2.2.trans c4, ⟨(g _ _ _ (by omega)).1.trans a1, (g _ _ _ (by omega)).1.trans a2, (g _ _ _ (by omega)).1.trans a3, (g _ _ _ (by omega)).1.trans a4, fun f hf => (g _ _ _ (by omega)).1.trans (a5 f hf), fun n hn => (g _ _ _ (by omega)).1.trans (a6 n hn), fun n hn => (g _ _ _ (by omega)).1.trans (a7 n hn)⟩, ⟨cs, l1, (g _ _ _ (by omega)).1.trans l2, fun k hk => ?_⟩, st.kc g (by omega)⟩, wa.eq (fun r k h1 h2 => ⟨(g _ _ _ (by omega)).1, (g _ _ _ (by omega)).2.1⟩)⟩
  obtain ⟨s, b1, b2, b3⟩ := l3 k hk
  exact ⟨s, (g _ _ _ (by omega)).1.trans b1, b2, fun i hi => (g _ _ _ (by omega)).1.trans (b3 i hi)⟩
theorem InvC.ten {μ : Mem} {p : Nat} {o : Ob} (h : InvC μ p o) (x : Int32) : InvC (stI (stI μ 10 0 1 (nI 0)) 10 0 2 x) p (rdE o x) := by
  obtain ⟨hc, ⟨la, a1, a2, a3, a4⟩, b, t, d, e⟩ := h
  have N : ∀ r i k, ¬ (r = 10 ∧ (k = 1 ∨ k = 2)) → mI (stI (stI μ 10 0 1 (nI 0)) 10 0 2 x) r i k = mI μ r i k := fun r i k hh => by rw [mI_stI, if_neg (by omega), mI_stI, if_neg (by omega)]
  have S : ∀ {w S}, StC μ w (zP o) S → StC (stI (stI μ 10 0 1 (nI 0)) 10 0 2 x) w (zP o) S := fun {w S} hs => by
    obtain ⟨s1, s2, s3, s4, s5⟩ := hs
    exact ⟨fun n hn => (N _ _ _ (by omega)).trans (s1 n hn), fun f hf => ⟨(N _ _ _ (by omega)).trans (s2 f hf).1, (N _ _ _ (by omega)).trans (s2 f hf).2.1, (N _ _ _ (by omega)).trans (s2 f hf).2.2⟩, (N _ _ _ (by omega)).trans s3, (N _ _ _ (by omega)).trans s4, (N _ _ _ (by omega)).trans s5⟩
  refine ⟨hc.frn (fun r i k hh => ⟨N r i k (by unfold NdC at hh; omega), rfl, rfl⟩), ⟨la, a1, (N _ _ _ (by omega)).trans a2, (N _ _ _ (by omega)).trans a3, fun j hj => S (a4 j hj)⟩, fun k hk => ⟨(N _ _ _ (by omega)).trans (b k hk).1, fun hb => S ((b k hk).2 hb)⟩, ⟨(N _ _ _ (by omega)).trans t.1, fun i hi => ⟨(N _ _ _ (by omega)).trans (t.2 i hi).1, (N _ _ _ (by omega)).trans (t.2 i hi).2.1, (N _ _ _ (by omega)).trans (t.2 i hi).2.2⟩⟩, ⟨?_, fun k hk => absurd hk (Nat.not_lt_zero _)⟩, ?_⟩
  · rw [mI_stI, if_neg (by omega), mI_stI, if_pos ⟨rfl, rfl, rfl⟩]; rfl
  · rw [mI_stI, if_pos ⟨rfl, rfl, rfl⟩]; rfl
theorem fillZ_e (μ : Mem) : ∃ μ', s_beginPlan_L64 (nI 0) μ = some ((), μ') ∧ ∀ k, k < 3 → mI μ' 47 0 k = nI 0 := by
  unfold s_beginPlan_L64
  refine fixN_up (fun i (self : Int32 → Mem → Option (Unit × Mem)) => ∀ μ, (∀ k, k < i → mI μ 47 0 k = nI 0) → ∃ μ', self (nI i) μ = some ((), μ') ∧ ∀ k, k < 3 → mI μ' 47 0 k = nI 0) 3 ?_ ?_ 60000 0 (by omega) (by omega) μ (fun k hk => absurd hk (Nat.not_lt_zero _))
  · intro i self hi ih μ hq
    unfold s_beginPlan_B64
    simp (disch := omega) only [nI_leF, inB_nI, cl_nI, nI_add, show nI 0 &&& 1 = nI 0 from rfl, ↓reduceIte]
    refine ih _ (fun k hk => ?_)
    rw [mI_stI]
    by_cases e : k = i
    · rw [if_pos ⟨rfl, rfl, e⟩]
    · rw [if_neg (by omega)]; exact hq k (by omega)
  · intro self μ hq
    unfold s_beginPlan_B64
    simp (disch := omega) only [nI_leT, ↓reduceIte]
    exact ⟨μ, rfl, hq⟩
/-- a plan read is a plan -/
theorem PnC.pl {Z : Tks} {ip : Nat} {μ : Mem} {s : Sg} (h : PnC ip μ s) (hs : SgI Z s) (hg : SgG s) (h0 : (yL s).1 = 0) : PlC μ ip (plG s) ∧ StC μ ip (plG s) (stG s) := by
  obtain ⟨a0, a1, a2, a3, a4, a5, a6, a7, a8, a9, b0, b1, b2⟩ := h
  obtain ⟨s1, s2, s3, -⟩ := hs
  obtain ⟨g1, g2, -⟩ := hg h0
  refine ⟨⟨a1, a2, a3, a4, a9, fun n hn => ?_, fun n hn => ?_⟩, fun n hn => ?_, fun f hf => ?_, ?_, ?_, ?_⟩
  · obtain ⟨⟨l, h1, h2⟩, -⟩ := g1 n hn
    rw [(b0 n hn).1]
    show _ = nI (cl (yA s 2 n))
    rw [h2, cl_nI (by omega)]
  · obtain ⟨-, h3, -⟩ := g1 n hn
    rw [(b0 n hn).2.1]
    show _ = nI (cl (yA s 3 n))
    rcases h3 with ⟨l, h1, h2⟩ | ⟨f, h1, h2⟩ | h2
    · rw [h2, cl_nI (by omega)]
    · rw [h2, cl_nI (by omega)]
    · rw [h2, cl_nI (by omega)]
  · have hn2 : n < (yC s).2.2 := hn
    rw [(b0 n hn).2.2, stG_w s3 hn2]
  · have hf2 : f < (yC s).2.1 := hf
    obtain ⟨c1, c2⟩ := b1 f (by omega)
    rw [if_pos hf2] at c1 c2
    exact ⟨c1.trans (stG_d s2 hf2).symm, c2.trans (stG_q s2 hf2).symm, (b2 f (by omega)).trans (stG_g (by omega)).symm⟩
  · exact a5.trans (stG_s s).1.symm
  · exact a6.1.trans (stG_s s).2.1.symm
  · exact a6.2.trans (stG_s s).2.2.symm
theorem s_begin_e {Z : Tks} {μ : Mem} {p : Nat} {o : Ob} {s : Sg} (h : InvC μ p (rdE o (-1))) (p2 : p < 2) (q : PnC (1 - p) μ s) (l : LwC (1 - p) μ s) (hs : SgI Z s) (hg : SgG s) (h0 : (yL s).1 = 0) : ∃ μ', s_beginPlan (stR (stR μ 10 0 3 (1 - p)) 10 0 4 p) = some ((), μ') ∧ InvC μ' (1 - p) (rdO o s) := by
  obtain ⟨hk, hS⟩ := plG_ok hs hg h0
  obtain ⟨pl, st⟩ := q.pl hs hg h0
  have i2 := q.i2
  have s4 := hs.2.2.2.2.2.2.2.1
  generalize hip : 1 - p = ip at *
  generalize hM : stR (stR (stR (stR μ 10 0 3 ip) 10 0 4 p) 31 0 0 ip) 31 1 0 ip = M
  have gI : ∀ r i, mI M r i = mI μ r i := fun r i => by rw [← hM]; rfl
  have m4 : mR M 10 0 3 = ip := by rw [← hM, mR_stR, if_neg (by omega), mR_stR, if_neg (by omega), mR_stR, if_neg (by omega), mR_stR, if_pos ⟨rfl, rfl, rfl⟩]
  have m5 : mR M 10 0 4 = p := by rw [← hM, mR_stR, if_neg (by omega), mR_stR, if_neg (by omega), mR_stR, if_pos ⟨rfl, rfl, rfl⟩]
  have m0 : mR M 31 0 0 = ip := by rw [← hM, mR_stR, if_neg (by omega), mR_stR, if_pos ⟨rfl, rfl, rfl⟩]
  have m1 : mR M 31 1 0 = ip := by rw [← hM, mR_stR, if_pos ⟨rfl, rfl, rfl⟩]
  have n4 : mR (stR (stR μ 10 0 3 ip) 10 0 4 p) 10 0 3 = ip := by rw [mR_stR, if_neg (by omega), mR_stR, if_pos ⟨rfl, rfl, rfl⟩]
  have n5 : mR (stR (stR (stR μ 10 0 3 ip) 10 0 4 p) 31 0 0 ip) 10 0 3 = ip := by rw [mR_stR, if_neg (by omega)]; exact n4
  have st' : StC M ip (plG s) (stG s) := by
    obtain ⟨a, b, c, d, e⟩ := st
    exact ⟨fun n hn => by rw [gI]; exact a n hn, fun f hf => ⟨by rw [gI]; exact (b f hf).1, by rw [gI]; exact (b f hf).2.1, by rw [gI]; exact (b f hf).2.2⟩, by rw [gI]; exact c, by rw [gI]; exact d, by rw [gI]; exact e⟩
  obtain ⟨μ6, e6, t6⟩ := st_become_e (i := 2) hk st' (by omega)
  have g6 := f_st_become e6
  have w6 : WoC μ6 0 ip (plG s) (stG s) := by
    refine ⟨i2, (g6.R rfl).trans m0, ?_, ?_, t6⟩
    · obtain ⟨a1, a2, a3, a4, a5, a6, a7⟩ := pl
      exact ⟨(g6.I rfl).trans (by rw [gI]; exact a1), (g6.I rfl).trans (by rw [gI]; exact a2), (g6.I rfl).trans (by rw [gI]; exact a3), (g6.I rfl).trans (by rw [gI]; exact a4), fun f hf => (g6.I rfl).trans (by rw [gI]; exact a5 f hf), fun n hn => (g6.I rfl).trans (by rw [gI]; exact a6 n hn), fun n hn => (g6.I rfl).trans (by rw [gI]; exact a7 n hn)⟩
    · obtain ⟨cs, l1, l2, l3⟩ := l
      refine ⟨cs, by omega, (g6.I rfl).trans (by rw [gI]; exact l2), fun k hk => ?_⟩
      obtain ⟨a, b1, b2, b3⟩ := l3 k hk
      exact ⟨a, (g6.I rfl).trans (by rw [gI]; exact b1), b2, fun i hi => (g6.I rfl).trans (by rw [gI]; exact b3 i hi)⟩
  obtain ⟨μ7, e7, w7, a7⟩ := wo_settle_e hk hS w6
  have g7 := f_wo_settle e7
  obtain ⟨μ9, e9, z9⟩ := fillZ_e (stI (stI μ7 44 0 2 (nI 0)) 48 0 3 (nI 0))
  have g9 := f_s_beginPlan_L64 e9 (Fr.rf T_s_beginPlan_L64 _) (sbc (sa_m 0 rfl) sbn)
  have c7 : CCore μ7 ip (plG s) (stG s) := ⟨(g7.R rfl).trans ((g6.R rfl).trans m4), (g7.R rfl).trans ((g6.R rfl).trans (by rw [m5]; omega)), (g7.R rfl).trans ((g6.R rfl).trans m1), w7, a7⟩
  have K : ∀ r i k, r ≠ 44 → r ≠ 47 → r ≠ 48 → mI μ9 r i k = mI μ7 r i k ∧ mL μ9 r i k = mL μ7 r i k ∧ mR μ9 r i k = mR μ7 r i k := fun r i k h1 h2 h3 => by
    have o : inT T_s_beginPlan_L64 r i k = false := by
      unfold inT T_s_beginPlan_L64 inA
      simp [Ne.symm h2]
    exact ⟨(g9.I o).trans (by rw [mI_stI, if_neg (by omega), mI_stI, if_neg (by omega)]), g9.L o, g9.R o⟩
  have O : ∀ {r k}, (r = 10 ∨ (r = 44 ∧ k = 1)) → mI μ9 r 0 k = mI μ r 0 k := fun {r k} hr => by
    have o9 : inT T_s_beginPlan_L64 r 0 k = false := by rcases hr with rfl | ⟨rfl, -⟩ <;> rfl
    have o7 : inT (T_wo_settle 0) r 0 k = false := by rcases hr with rfl | ⟨rfl, -⟩ <;> rfl
    have o6 : inT (T_st_become 2 ip) r 0 k = false := by rcases hr with rfl | ⟨rfl, -⟩ <;> rfl
    rw [g9.I o9, mI_stI, if_neg (by omega), mI_stI, if_neg (by omega), g7.I o7, g6.I o6, gI]
  obtain ⟨-, ⟨la, a1, a2, -, -⟩, -, -, d, e⟩ := h
  refine ⟨μ9, ?_, c7.frn (fun r i k hh => K r i k (by unfold NdC at hh; omega) (by unfold NdC at hh; omega) (by unfold NdC at hh; omega)), ⟨la, a1, (O (Or.inr ⟨rfl, rfl⟩)).trans a2, ?_, fun j hj => absurd hj (Nat.not_lt_zero _)⟩, fun k hk => ⟨(z9 k hk).trans rfl, fun hb => (by cases hb)⟩, ⟨?_, fun i hi => absurd hi (Nat.not_lt_zero _)⟩, ⟨(O (Or.inl rfl)).trans d.1, fun k hk => absurd hk (Nat.not_lt_zero _)⟩, (O (Or.inl rfl)).trans e⟩
  · unfold s_beginPlan
    simp only [n4, n5, i2, hM, ↓mb_e, m4, ↓ob_eq e6, ↓ob_eq e7, e9, ↓reduceIte]
  · rw [g9.I rfl, mI_stI, if_neg (by omega), mI_stI, if_pos ⟨rfl, rfl, rfl⟩]; rfl
  · rw [g9.I rfl, mI_stI, if_pos ⟨rfl, rfl, rfl⟩]; rfl
theorem s_read_e {μ : Mem} {p : Nat} {o : Ob} (ok : OkO o) (h : InvC μ p o) : ∃ μ' p', s_read μ = some (rRead o, μ') ∧ InvC μ' p' (nRead o) := by
  have p2 := h.1.p2
  have d := h.2.2.2.2.1
  obtain ⟨μ1, e1, a1, k1, b1, c1⟩ := readText_e (μ := μ) (ip := 1 - p) ok.2.2.2.2.2.2.1 (byT_o ok) d.2 (by omega)
  have hZ : (tks (byB o) (zM o) 2001 0, zM o) = tksO o := rfl
  rw [hZ] at e1 a1 b1 c1
  have h1 : InvC μ1 p o := ⟨h.1.kc k1, h.2.kc k1 (by omega)⟩
  have r5 : mR μ 10 0 4 = 1 - p := h.1.2.1
  have f1 : mI (stI μ1 10 0 1 (nI 0)) 12 0 1 = (rdF (tksO o)).2 := by rw [mI_stI, if_neg (by omega)]; exact a1
  have h2 := h1.ten (rdF (tksO o)).2
  have head : s_read μ = if nI (rdF (tksO o)).1 = nI 0 then (ob (s_beginPlan (stR (stR (stI (stI μ1 10 0 1 (nI 0)) 10 0 2 (rdF (tksO o)).2) 10 0 3 (1 - p)) 10 0 4 p)) fun _ μ19 => some (nI (rdF (tksO o)).1, μ19)) else some (nI (rdF (tksO o)).1, stI (stI μ1 10 0 1 (nI 0)) 10 0 2 (rdF (tksO o)).2) := by
    have m4 : mR (stI (stI μ1 10 0 1 (nI 0)) 10 0 2 (rdF (tksO o)).2) 10 0 3 = p := h2.1.1
    have m5 : mR (stI (stI μ1 10 0 1 (nI 0)) 10 0 2 (rdF (tksO o)).2) 10 0 4 = 1 - p := h2.1.2.1
    unfold s_read
    rw [r5, if_pos (by omega), d.1, ob_eq e1, f1, mb_e, m4, m5, if_pos p2, if_pos (show 1 - p < 2 by omega), mb_e]
  rw [head]
  unfold rRead nRead
  cases e : gText (tksO o) with
  | error φ =>
    have eF : rdF (tksO o) = φ := by unfold rdF; rw [e]
    have := b1 φ e
    rw [eF] at h2 ⊢
    rw [if_neg (nI_ne (show ¬ φ.1 = 0 by omega) (by omega) (by omega))]
    exact ⟨_, p, rfl, h2⟩
  | ok s =>
    have eF : rdF (tksO o) = yL s := by unfold rdF; rw [e]
    obtain ⟨hs, hg⟩ := gText_I ok e
    obtain ⟨q, l⟩ := c1 s e
    have s6 := hs.2.2.2.2.2.1
    rw [eF] at h2 ⊢
    dsimp only
    by_cases c : (yL s).1 = 0
    · rw [if_pos (congrArg nI c), if_pos c]
      have l1 := (hg c).2.2.2.1
      rw [l1] at h2 ⊢
      have g : Fr [(10, none, none)] μ1 (stI (stI μ1 10 0 1 (nI 0)) 10 0 2 (-1)) := Fr.stI (Fr.stI (Fr.rf _ _) (iT 0 rfl inA_nn)) (iT 0 rfl inA_nn)
      obtain ⟨μ2, e2, i2⟩ := s_begin_e h2 p2 (q.fr g rfl) (l.fr g rfl (Nat.le_refl _) rfl) hs hg c
      rw [ob_eq e2]
      exact ⟨μ2, 1 - p, rfl, i2⟩
    · rw [if_neg (nI_ne c (by omega) (by omega)), if_neg c]
      exact ⟨_, p, rfl, h2⟩

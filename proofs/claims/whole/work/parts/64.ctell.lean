/-! the class reads: what a text tells but laws -/
def PnC (ip : Nat) (μ : Mem) (s : Sg) : Prop := ip < 2 ∧ mI μ 18 ip 0 = nI (yC s).1 ∧ mI μ 18 ip 1 = nI (yC s).2.1 ∧ mI μ 18 ip 2 = nI (yC s).2.2 ∧ mI μ 18 ip 3 = yA s 0 0 ∧ mI μ 26 ip 4 = yA s 0 1 ∧ (mI μ 26 ip 5 = nI 0 ∧ mI μ 26 ip 6 = nI 0) ∧ (∀ l w, (lgs (yN s))[l]? = some w → mL μ 19 ip l = oL ((w : Nat) : Int)) ∧ (∀ f w, (fds (yN s))[f]? = some w → mL μ 20 ip f = oL ((w : Nat) : Int)) ∧ (∀ f, f < (yC s).2.1 → mI μ 21 ip f = yA s 1 f) ∧ (∀ n, n < (yC s).2.2 → mI μ 22 ip n = yA s 2 n ∧ mI μ 23 ip n = yA s 3 n ∧ mI μ 27 ip n = yA s 4 n) ∧ (∀ f, f < 6 → mI μ 28 ip f = (if f < (yC s).2.1 then yA s 5 f else (-2 : Int32)) ∧ mI μ 29 ip f = if f < (yC s).2.1 then yA s 6 f else nI 0) ∧ ∀ f, f < 6 → mI μ 30 ip f = nI 0
theorem PnC.i2 {ip : Nat} {μ : Mem} {s : Sg} (h : PnC ip μ s) : ip < 2 := h.1
theorem PnC.c0 {ip : Nat} {μ : Mem} {s : Sg} (h : PnC ip μ s) : mI μ 18 ip 0 = nI (yC s).1 := h.2.1
theorem PnC.c1 {ip : Nat} {μ : Mem} {s : Sg} (h : PnC ip μ s) : mI μ 18 ip 1 = nI (yC s).2.1 := h.2.2.1
theorem PnC.c2 {ip : Nat} {μ : Mem} {s : Sg} (h : PnC ip μ s) : mI μ 18 ip 2 = nI (yC s).2.2 := h.2.2.2.1
theorem PnC.fr {ip : Nat} {μ μ' : Mem} {s : Sg} {T : List At} (h : PnC ip μ s) (g : Fr T μ μ') (o : offR [18, 19, 20, 21, 22, 23, 26, 27, 28, 29, 30] T = true) : PnC ip μ' s := by
  obtain ⟨a0, a1, a2, a3, a4, a5, a6, a7, a8, a9, b0, b1, b2⟩ := h
  exact ⟨a0, (g.I (offR_f o rfl _ _)).trans a1, (g.I (offR_f o rfl _ _)).trans a2, (g.I (offR_f o rfl _ _)).trans a3, (g.I (offR_f o rfl _ _)).trans a4, (g.I (offR_f o rfl _ _)).trans a5, ⟨(g.I (offR_f o rfl _ _)).trans a6.1, (g.I (offR_f o rfl _ _)).trans a6.2⟩, fun l w h => (g.L (offR_f o rfl _ _)).trans (a7 l w h), fun l w h => (g.L (offR_f o rfl _ _)).trans (a8 l w h), fun f h => (g.I (offR_f o rfl _ _)).trans (a9 f h), fun n h => ⟨(g.I (offR_f o rfl _ _)).trans (b0 n h).1, (g.I (offR_f o rfl _ _)).trans (b0 n h).2.1, (g.I (offR_f o rfl _ _)).trans (b0 n h).2.2⟩, fun f h => ⟨(g.I (offR_f o rfl _ _)).trans (b1 f h).1, (g.I (offR_f o rfl _ _)).trans (b1 f h).2⟩, fun f h => (g.I (offR_f o rfl _ _)).trans (b2 f h)⟩
theorem PnC.eq {ip : Nat} {μ : Mem} {s s' : Sg} (h : PnC ip μ s) (e1 : yN s' = yN s) (e2 : yC s' = yC s) (e3 : yA s' = yA s) : PnC ip μ s' := by
  unfold PnC
  rw [e1, e2, e3]
  exact h
theorem rd_logNamed_e {ip : Nat} {μ : Mem} {Z : Tks} {s : Sg} (hi : mR μ 12 0 3 = ip) (h : PnC ip μ s) (hs : SgI Z s) {v : Nat} (hv : v < 1000000000000) : rd_logNamed (oL (v : Int)) μ = some (lkW 0 v (yN s), μ) := by
  have i2 := h.i2
  have h0 := h.c0
  have h7 := h.2.2.2.2.2.2.2.1
  obtain ⟨s0, s1, s2, s3, s4, -⟩ := hs
  have len := (s3.len (by omega)).1
  rw [lkW_L v s3 (by omega)]
  refine fixN_up (fun i (self : Int32 → Mem → Option (Int32 × Mem)) => self (nI i) μ = some (idxF i v ((lgs (yN s)).drop i), μ)) (yC s).1 ?_ ?_ 60000 0 (by omega) (by omega)
  · intro i self hi2 ih
    have li : i < (lgs (yN s)).length := by omega
    have g := h7 i (lgs (yN s))[i] (List.getElem?_eq_getElem li)
    have bw : (lgs (yN s))[i] < 1000000000000 := by
      have hm : (lgs (yN s))[i] ∈ lgs (yN s) := List.getElem_mem li
      unfold lgs at hm
      obtain ⟨q, hq, e⟩ := List.mem_filterMap.mp hm
      split at e
      · have e' := Option.some.inj e
        have hh := s4 q hq
        rw [e'] at hh
        exact hh
      · cases e
    rw [List.drop_eq_getElem_cons li]
    unfold rd_logNamed_B2 idxF
    simp (disch := omega) only [hi, i2, h0, nI_leF, inB_nI, cl_nI, g, lg_eq, nI_add, ↓reduceIte]
    by_cases c : (lgs (yN s))[i] = v
    · rw [if_pos c, if_pos (by rw [c])]
    · rw [if_neg c, if_neg (by rw [(oL_cmp bw hv).2]; exact c)]; exact ih
  · intro self
    unfold rd_logNamed_B2
    simp (disch := omega) only [hi, i2, h0, nI_leT, ↓reduceIte]
    rw [List.drop_eq_nil_of_le (by omega)]
    rfl
theorem rd_fieldNamed_e {ip : Nat} {μ : Mem} {Z : Tks} {s : Sg} (hi : mR μ 12 0 3 = ip) (h : PnC ip μ s) (hs : SgI Z s) {v : Nat} (hv : v < 1000000000000) : rd_fieldNamed (oL (v : Int)) μ = some (lkW 10 v (yN s), μ) := by
  have i2 := h.i2
  have h0 := h.c1
  have h7 := h.2.2.2.2.2.2.2.2.1
  obtain ⟨s0, s1, s2, s3, s4, -⟩ := hs
  have len := (s3.len (by omega)).2.1
  rw [lkW_F v s3 (by omega) (by omega)]
  refine fixN_up (fun i (self : Int32 → Mem → Option (Int32 × Mem)) => self (nI i) μ = some (idxF i v ((fds (yN s)).drop i), μ)) (yC s).2.1 ?_ ?_ 60000 0 (by omega) (by omega)
  · intro i self hi2 ih
    have li : i < (fds (yN s)).length := by omega
    have g := h7 i (fds (yN s))[i] (List.getElem?_eq_getElem li)
    have bw : (fds (yN s))[i] < 1000000000000 := by
      have hm : (fds (yN s))[i] ∈ fds (yN s) := List.getElem_mem li
      unfold fds at hm
      obtain ⟨q, hq, e⟩ := List.mem_filterMap.mp hm
      split at e
      · cases e
      · have e' := Option.some.inj e
        have hh := s4 q hq
        rw [e'] at hh
        exact hh
    rw [List.drop_eq_getElem_cons li]
    unfold rd_fieldNamed_B2 idxF
    simp (disch := omega) only [hi, i2, h0, nI_leF, inB_nI, cl_nI, g, lg_eq, nI_add, ↓reduceIte]
    by_cases c : (fds (yN s))[i] = v
    · rw [if_pos c, if_pos (by rw [c])]
    · rw [if_neg c, if_neg (by rw [(oL_cmp bw hv).2]; exact c)]; exact ih
  · intro self
    unfold rd_fieldNamed_B2
    simp (disch := omega) only [hi, i2, h0, nI_leT, ↓reduceIte]
    rw [List.drop_eq_nil_of_le (by omega)]
    rfl
theorem gNew_I {Z : Tks} {s r : Sg} (hs : SgI Z s) (h : gNew Z s = .ok r) : SgI Z r ∧ yT r = yT s + 1 ∧ yN r = yN s ∧ yC r = yC s ∧ yA r = yA s ∧ yW r = yW s ∧ tkd Z (yT s) = 40 ∧ yT s ≠ 400 ∧ ((yL r).1 = 0 → inN (tvl Z (yT s)) (yN s) = false ∧ yL r = yL s) := by
  obtain ⟨q, h1, h2⟩ := bG_ok h
  obtain ⟨rfl, h3, h4⟩ := gTake_ok h1
  have g := hs.wyT h3 (by omega)
  split at h2
  · cases h2
    obtain ⟨b1, b2, b3, b4, b5⟩ := lat_T Z 3 (yT s) (wyT s (yT s + 1))
    exact ⟨g.later (by omega) (Nat.lt_succ_self _), b1, b2, b3, b4, b5, h4, h3, fun z => absurd z (lat_nz (by omega))⟩
  · rename_i c
    cases h2
    exact ⟨g, rfl, rfl, rfl, rfl, rfl, h4, h3, fun _ => ⟨by simpa using c, rfl⟩⟩
theorem rd_takeNewName_e {Z : Tks} {ip : Nat} {μ : Mem} {s : Sg} (h : CuC Z ip μ s) (p : PnC ip μ s) (hs : SgI Z s) (hz : ZOK Z) : CX (rd_takeNewName μ) (QC Z ip μ) (gNew Z s) := by
  unfold rd_takeNewName gNew
  refine (rd_take_e h hs hz (show 40 < 44 by omega)).b (fun r ν e hq => ?_)
  obtain ⟨h1, g1⟩ := hq
  obtain ⟨rfl, k1, k2⟩ := gTake_ok e
  have hs1 := hs.wyT k1 (by omega)
  have tk := rd_taken_e h1 hs1 (i := yT s) rfl (Or.inl k2)
  have v4 := hz.2.2.2.2.1 _ k2
  have p1 : PnC ip ν (wyT s (yT s + 1)) := p.fr g1 rfl
  have l1 : rd_logNamed (oL ((tvl Z (yT s) : Nat) : Int)) ν = some (lkW 0 (tvl Z (yT s)) (yN s), ν) := rd_logNamed_e h1.2.1 p1 hs1 v4
  have l2 : rd_fieldNamed (oL ((tvl Z (yT s) : Nat) : Int)) ν = some (lkW 10 (tvl Z (yT s)) (yN s), ν) := rd_fieldNamed_e h1.2.1 p1 hs1 v4
  obtain ⟨ν2, e2, h2, g2⟩ := rd_failLater_e h1 hs1 (c := 3) (i := yT s) rfl (by omega)
  have ie := inN_lk (tvl Z (yT s)) hs.2.2.2.1 (by have := hs.1; omega) (by have := hs.2.1; omega)
  rw [ob_eq tk, ob_eq l1]
  by_cases c1 : lkW 0 (tvl Z (yT s)) (yN s) = -1
  · rw [if_pos c1, ob_eq tk, ob_eq l2]
    by_cases c2 : lkW 10 (tvl Z (yT s)) (yN s) = -1
    · rw [if_pos c2, if_neg (fun z => ie.mp z ⟨c1, c2⟩)]
      exact ⟨ν, rfl, h1, g1⟩
    · rw [if_neg c2, ob_eq e2, if_pos (ie.mpr (fun z => c2 z.2))]
      exact ⟨ν2, rfl, h2, Fr.tr g2 g1⟩
  · rw [if_neg c1, ob_eq e2, if_pos (ie.mpr (fun z => c1 z.1))]
    exact ⟨ν2, rfl, h2, Fr.tr g2 g1⟩
def CP (Z : Tks) (ip : Nat) (s : Sg) (μ : Mem) : Prop := CuC Z ip μ s ∧ PnC ip μ s
theorem snoc_get {l : List Nat} {v i w : Nat} (h : (l ++ [v])[i]? = some w) : (i < l.length ∧ l[i]? = some w) ∨ (i = l.length ∧ w = v) := by
  rcases Nat.lt_trichotomy i l.length with c | c | c
  · rw [List.getElem?_append_left c] at h
    exact Or.inl ⟨c, h⟩
  · rw [List.getElem?_append_right (by omega), c, Nat.sub_self] at h
    exact Or.inr ⟨c, by simpa using h.symm⟩
  · rw [List.getElem?_eq_none (by simp; omega)] at h
    cases h
theorem PnC.adLog {Z : Tks} {ip : Nat} {μ : Mem} {s : Sg} (h : PnC ip μ s) (hs : SgI Z s) {v : Nat} : PnC ip (stI (stL μ 19 ip (yC s).1 (oL (v : Int))) 18 ip 0 (nI ((yC s).1 + 1))) (adLog v s) := by
  obtain ⟨a0, a1, a2, a3, a4, a5, a6, a7, a8, a9, b0, b1, b2⟩ := h
  have len := (hs.2.2.2.1.len (by have := hs.1; omega)).1
  obtain ⟨lg, lf⟩ := lgs_L (yN s) v (i := (yC s).1) (by have := hs.1; omega)
  refine ⟨a0, by rw [mI_stI, if_pos ⟨rfl, rfl, rfl⟩]; rfl, ?_, ?_, ?_, ?_, ⟨?_, ?_⟩, fun l w hw => ?_, fun f w hw => ?_, fun f hf => ?_, fun n hn => ⟨?_, ?_, ?_⟩, fun f hf => ⟨?_, ?_⟩, fun f hf => ?_⟩
  · rw [mI_stI, if_neg (by omega)]; exact a2
  · rw [mI_stI, if_neg (by omega)]; exact a3
  · rw [mI_stI, if_neg (by omega)]; exact a4
  · rw [mI_stI, if_neg (by omega)]; exact a5
  · rw [mI_stI, if_neg (by omega)]; exact a6.1
  · rw [mI_stI, if_neg (by omega)]; exact a6.2
  · have hw2 : (lgs (yN s ++ [(v, (yC s).1)]))[l]? = some w := hw
    rw [lg] at hw2
    rw [mL_stI, mL_stL]
    rcases snoc_get hw2 with ⟨z1, z2⟩ | ⟨z1, z2⟩
    · rw [if_neg (by omega)]; exact a7 l w z2
    · rw [if_pos ⟨rfl, rfl, by omega⟩, z2]
  · have hw2 : (fds (yN s ++ [(v, (yC s).1)]))[f]? = some w := hw
    rw [lf] at hw2
    rw [mL_stI, mL_stL, if_neg (by omega)]; exact a8 f w hw2
  · rw [mI_stI, if_neg (by omega)]; exact a9 f hf
  · rw [mI_stI, if_neg (by omega)]; exact (b0 n hn).1
  · rw [mI_stI, if_neg (by omega)]; exact (b0 n hn).2.1
  · rw [mI_stI, if_neg (by omega)]; exact (b0 n hn).2.2
  · rw [mI_stI, if_neg (by omega)]; exact (b1 f hf).1
  · rw [mI_stI, if_neg (by omega)]; exact (b1 f hf).2
  · rw [mI_stI, if_neg (by omega)]; exact b2 f hf
theorem rd_readLog_e {Z : Tks} {ip : Nat} {μ : Mem} {s : Sg} (h : CuC Z ip μ s) (p : PnC ip μ s) (hs : SgI Z s) (hz : ZOK Z) (k0 : tkd Z (yT s) ≠ 43) : CX (rd_readLog μ) (CP Z ip) (gLog Z s) := by
  have i2 := p.i2
  have s0 := hs.1
  unfold rd_readLog gLog
  rw [h.2.1, if_pos i2, p.c0]
  by_cases c : (yC s).1 = 4
  · rw [if_pos c, if_neg (by rw [nI_ltF (by omega) (by omega)]; exact id)]
    exact (rd_fail_e h hs (Or.inr rfl)).t
  · rw [if_neg c, if_pos (nI_lt (by omega) (by omega))]
    refine (rd_pass_e h hs).b (fun r ν e hq => ?_)
    obtain ⟨h1, g1⟩ := hq
    obtain ⟨rfl, k1⟩ := gPass_ok e
    have hs1 := hs.wyT k1 k0
    have p1 : PnC ip ν (wyT s (yT s + 1)) := p.fr g1 rfl
    refine (rd_takeNewName_e h1 p1 hs1 hz).b (fun q ν2 e2 hq2 => ?_)
    obtain ⟨h2, g2⟩ := hq2
    obtain ⟨hs2, t2, n2, c2, a2, -, k2, -, -⟩ := gNew_I hs1 e2
    have p2 : PnC ip ν2 q := (p1.fr g2 rfl).eq n2 c2 a2
    have tk := rd_taken_e h2 hs2 (i := yT (wyT s (yT s + 1))) t2 (Or.inl k2)
    have cq : (yC q).1 = (yC s).1 := by rw [c2]; rfl
    have p0 := p2.c0
    generalize hM : stL ν2 19 ip (yC q).1 (oL ((tvl Z (yT (wyT s (yT s + 1))) : Nat) : Int)) = M
    have f1 : mR M 12 0 3 = ip := by rw [← hM]; exact h2.2.1
    have f2 : mI M 18 ip 0 = nI (yC q).1 := by rw [← hM]; exact p0
    simp (disch := omega) only [h2.2.1, i2, ↓ob_eq tk, p0, inB_nI, cl_nI, ↓mb_e, hM, f1, f2, nI_add, ↓reduceIte]
    have h3 : CuC Z ip (stI M 18 ip 0 (nI ((yC q).1 + 1))) q := by
      rw [← hM]
      exact h2.fr (T := [(19, none, none), (18, none, none)]) (Fr.stI (Fr.stL (Fr.rf _ _) (iT 0 rfl inA_nn)) (iT 1 rfl inA_nn)) rfl
    refine ((rd_take_e h3 hs2 hz (show 30 < 44 by omega)).map (fun n ν3 e3 hq3 => ?_)).t
    obtain ⟨h4, g4⟩ := hq3
    obtain ⟨rfl, k3, k4⟩ := gTake_ok e3
    refine ⟨h4, ?_⟩
    have p4 := (p2.adLog hs2 (v := tvl Z (yT (wyT s (yT s + 1))))).fr (by rw [hM]; exact g4) rfl
    exact p4
theorem up2_e (A : Nat → Nat → Int32) (i k : Nat) (v : Int32) (a b : Nat) : up2 A i k v a b = if a = i ∧ b = k then v else A a b := by
  unfold up2
  by_cases c : a = i
  · subst c
    rw [up_s]
    by_cases d : b = k
    · subst d; rw [up_s, if_pos ⟨rfl, rfl⟩]
    · rw [up_n _ _ d, if_neg (fun z => d z.2)]
  · rw [up_n _ _ c, if_neg (fun z => c z.1)]
theorem PnC.adFld1 {Z : Tks} {ip : Nat} {μ : Mem} {s : Sg} (h : PnC ip μ s) (hs : SgI Z s) {v : Nat} : PnC ip (stI (stL μ 20 ip (yC s).2.1 (oL (v : Int))) 18 ip 1 (nI ((yC s).2.1 + 1))) (adFld v (mI μ 21 ip (yC s).2.1) s) := by
  obtain ⟨a0, a1, a2, a3, a4, a5, a6, a7, a8, a9, b0, b1, b2⟩ := h
  have len := (hs.2.2.2.1.len (by have := hs.1; omega)).2.1
  obtain ⟨lg, lf⟩ := lgs_F (yN s) v (yC s).2.1
  have A' : ∀ a b, yA (adFld v (mI μ 21 ip (yC s).2.1) s) a b = if a = 6 ∧ b = (yC s).2.1 then nI 0 else if a = 5 ∧ b = (yC s).2.1 then (-2 : Int32) else if a = 1 ∧ b = (yC s).2.1 then mI μ 21 ip (yC s).2.1 else yA s a b := fun a b => by
    show up2 (up2 (up2 (yA s) 1 (yC s).2.1 _) 5 (yC s).2.1 (-2)) 6 (yC s).2.1 (nI 0) a b = _
    rw [up2_e, up2_e, up2_e]
  have C1 : (yC (adFld v (mI μ 21 ip (yC s).2.1) s)).2.1 = (yC s).2.1 + 1 := rfl
  have C2 : (yC (adFld v (mI μ 21 ip (yC s).2.1) s)).2.2 = (yC s).2.2 := rfl
  refine ⟨a0, ?_, by rw [mI_stI, if_pos ⟨rfl, rfl, rfl⟩]; rfl, ?_, ?_, ?_, ⟨?_, ?_⟩, fun l w hw => ?_, fun f w hw => ?_, fun f hf => ?_, fun n hn => ⟨?_, ?_, ?_⟩, fun f hf => ⟨?_, ?_⟩, fun f hf => ?_⟩
  · rw [mI_stI, if_neg (by omega)]; exact a1
  · rw [mI_stI, if_neg (by omega)]; exact a3
  · rw [mI_stI, if_neg (by omega), A', if_neg (by omega), if_neg (by omega), if_neg (by omega)]; exact a4
  · rw [mI_stI, if_neg (by omega), A', if_neg (by omega), if_neg (by omega), if_neg (by omega)]; exact a5
  · rw [mI_stI, if_neg (by omega)]; exact a6.1
  · rw [mI_stI, if_neg (by omega)]; exact a6.2
  · have hw2 : (lgs (yN s ++ [(v, 10 + (yC s).2.1)]))[l]? = some w := hw
    rw [lg] at hw2
    rw [mL_stI, mL_stL, if_neg (by omega)]; exact a7 l w hw2
  · have hw2 : (fds (yN s ++ [(v, 10 + (yC s).2.1)]))[f]? = some w := hw
    rw [lf] at hw2
    rw [mL_stI, mL_stL]
    rcases snoc_get hw2 with ⟨z1, z2⟩ | ⟨z1, z2⟩
    · rw [if_neg (by omega)]; exact a8 f w z2
    · rw [if_pos ⟨rfl, rfl, by omega⟩, z2]
  · rw [C1] at hf
    rw [mI_stI, if_neg (by omega), A', if_neg (by omega), if_neg (by omega), mI_stL]
    by_cases z : f = (yC s).2.1
    · rw [if_pos ⟨rfl, z⟩, z]
    · rw [if_neg (by omega)]; exact a9 f (by omega)
  · rw [C2] at hn
    rw [mI_stI, if_neg (by omega), A', if_neg (by omega), if_neg (by omega), if_neg (by omega)]; exact (b0 n hn).1
  · rw [C2] at hn
    rw [mI_stI, if_neg (by omega), A', if_neg (by omega), if_neg (by omega), if_neg (by omega)]; exact (b0 n hn).2.1
  · rw [C2] at hn
    rw [mI_stI, if_neg (by omega), A', if_neg (by omega), if_neg (by omega), if_neg (by omega)]; exact (b0 n hn).2.2
  · have g := (b1 f hf).1
    rw [mI_stI, if_neg (by omega), A', C1, mI_stL, g]
    by_cases z : f < (yC s).2.1
    · rw [if_pos z, if_pos (by omega), if_neg (by omega), if_neg (by omega), if_neg (by omega)]
    · rw [if_neg z]
      by_cases z2 : f = (yC s).2.1
      · rw [if_pos (by omega), if_neg (by omega), if_pos ⟨rfl, z2⟩]
      · rw [if_neg (by omega)]
  · have g := (b1 f hf).2
    rw [mI_stI, if_neg (by omega), A', C1, mI_stL, g]
    by_cases z : f < (yC s).2.1
    · rw [if_pos z, if_pos (by omega), if_neg (by omega), if_neg (by omega), if_neg (by omega)]
    · rw [if_neg z]
      by_cases z2 : f = (yC s).2.1
      · rw [if_pos (by omega), if_pos ⟨rfl, z2⟩]
      · rw [if_neg (by omega)]
  · rw [mI_stI, if_neg (by omega)]; exact b2 f hf
theorem PnC.area {ip : Nat} {μ : Mem} {s : Sg} {v : Nat} {x0 x : Int32} (h : PnC ip μ (adFld v x0 s)) : PnC ip (stI μ 21 ip (yC s).2.1 x) (adFld v x s) := by
  obtain ⟨a0, a1, a2, a3, a4, a5, a6, a7, a8, a9, b0, b1, b2⟩ := h
  have A' : ∀ x a b, yA (adFld v x s) a b = if a = 6 ∧ b = (yC s).2.1 then nI 0 else if a = 5 ∧ b = (yC s).2.1 then (-2 : Int32) else if a = 1 ∧ b = (yC s).2.1 then x else yA s a b := fun x a b => by
    show up2 (up2 (up2 (yA s) 1 (yC s).2.1 _) 5 (yC s).2.1 (-2)) 6 (yC s).2.1 (nI 0) a b = _
    rw [up2_e, up2_e, up2_e]
  have AA : ∀ a b, ¬ (a = 1 ∧ b = (yC s).2.1) → yA (adFld v x s) a b = yA (adFld v x0 s) a b := fun a b hh => by
    rw [A', A']
    simp only [hh, ↓reduceIte]
  refine ⟨a0, a1, a2, a3, ?_, ?_, a6, a7, a8, fun f hf => ?_, fun n hn => ⟨?_, ?_, ?_⟩, fun f hf => ⟨?_, ?_⟩, fun f hf => ?_⟩
  · rw [AA _ _ (by omega)]; exact a4
  · rw [AA _ _ (by omega)]; exact a5
  · by_cases z : f = (yC s).2.1
    · subst z
      rw [mI_stI, if_pos ⟨rfl, rfl, rfl⟩, A', if_neg (by omega), if_neg (by omega), if_pos ⟨rfl, rfl⟩]
    · rw [mI_stI, if_neg (by omega), AA _ _ (by omega)]; exact a9 f hf
  · rw [AA _ _ (by omega)]; exact (b0 n hn).1
  · rw [AA _ _ (by omega)]; exact (b0 n hn).2.1
  · rw [AA _ _ (by omega)]; exact (b0 n hn).2.2
  · rw [AA _ _ (by omega)]; exact (b1 f hf).1
  · rw [AA _ _ (by omega)]; exact (b1 f hf).2
  · exact b2 f hf
theorem oL_i32 {v : Nat} (h : v < 2147483648) : Int64.toInt32 (oL (v : Int)) = nI v := by
  rw [← oL_nI h]
  exact Int32.toInt32_toInt64 (nI v)
theorem rd_readField_e {Z : Tks} {ip : Nat} {μ : Mem} {s : Sg} (h : CuC Z ip μ s) (p : PnC ip μ s) (hs : SgI Z s) (hz : ZOK Z) (k0 : tkd Z (yT s) ≠ 43) : CX (rd_readField μ) (CP Z ip) (gFld Z s) := by
  have i2 := p.i2
  have s0 := hs.2.1
  unfold rd_readField gFld
  rw [h.2.1, if_pos i2, p.c1]
  by_cases c : (yC s).2.1 = 6
  · rw [if_pos c, if_neg (by rw [nI_ltF (by omega) (by omega)]; exact id)]
    exact (rd_fail_e h hs (Or.inr rfl)).t
  · rw [if_neg c, if_pos (nI_lt (by omega) (by omega))]
    refine (rd_pass_e h hs).b (fun r ν e hq => ?_)
    obtain ⟨h1, g1⟩ := hq
    obtain ⟨rfl, k1⟩ := gPass_ok e
    have hs1 := hs.wyT k1 k0
    have p1 : PnC ip ν (wyT s (yT s + 1)) := p.fr g1 rfl
    refine (rd_takeNewName_e h1 p1 hs1 hz).b (fun q ν2 e2 hq2 => ?_)
    obtain ⟨h2, g2⟩ := hq2
    obtain ⟨hs2, t2, n2, c2, a2, -, k2, -, -⟩ := gNew_I hs1 e2
    have p2 : PnC ip ν2 q := (p1.fr g2 rfl).eq n2 c2 a2
    have tk := rd_taken_e h2 hs2 (i := yT (wyT s (yT s + 1))) t2 (Or.inl k2)
    generalize hv : tvl Z (yT (wyT s (yT s + 1))) = v at *
    have cq : (yC q).2.1 = (yC s).2.1 := by rw [c2]; rfl
    have p0 := p2.c1
    generalize hM : stL ν2 20 ip (yC q).2.1 (oL (v : Int)) = M
    have f1 : mR M 12 0 3 = ip := by rw [← hM]; exact h2.2.1
    have f2 : mI M 18 ip 1 = nI (yC q).2.1 := by rw [← hM]; exact p0
    simp (disch := omega) only [h2.2.1, i2, ↓ob_eq tk, p0, inB_nI, cl_nI, ↓mb_e, hM, f1, f2, nI_add, ↓reduceIte]
    have h3 : CuC Z ip (stI M 18 ip 1 (nI ((yC q).2.1 + 1))) q := by
      rw [← hM]
      exact h2.fr (T := [(20, none, none), (18, none, none)]) (Fr.stI (Fr.stL (Fr.rf _ _) (iT 0 rfl inA_nn)) (iT 1 rfl inA_nn)) rfl
    have p3 : PnC ip (stI M 18 ip 1 (nI ((yC q).2.1 + 1))) (adFld v (mI ν2 21 ip (yC q).2.1) q) := by
      rw [← hM]
      exact p2.adFld1 hs2
    refine (rd_takeNumber_e h3 hs2 hz (show 1 < 10000 by omega) (show 99 < 10000 by omega)).b (fun n ν3 e3 hq3 => ?_)
    obtain ⟨h4, g4⟩ := hq3
    obtain ⟨hs4, t4, n4, c4, a4, -, -⟩ := gNum_I hs2 e3
    obtain ⟨k3, k4, -⟩ := gNum_ok e3
    have p4 := p3.fr g4 rfl
    have p4c : mI ν3 18 ip 1 = nI ((yC q).2.1 + 1) := p4.c1
    have v4 := hz.2.2.2.1 _ k4
    have tk2 := rd_taken_e h4 hs4 (i := yT q) t4 (Or.inr k4)
    simp (disch := omega) only [h4.2.1, i2, ↓ob_eq tk2, p4c, nI_sub1, Nat.add_sub_cancel, inB_nI, cl_nI, ↓mb_e, oL_i32, ↓reduceIte]
    have h5 : CuC Z ip (stI ν3 21 ip (yC q).2.1 (nI (tvl Z (yT q)))) n := h4.fr (T := [(21, none, none)]) (Fr.stI (Fr.rf _ _) (iT 0 rfl inA_nn)) rfl
    refine ((rd_take_e h5 hs4 hz (show 30 < 44 by omega)).map (fun m ν4 e4 hq4 => ?_)).t
    obtain ⟨h6, g6⟩ := hq4
    obtain ⟨rfl, k5, k6⟩ := gTake_ok e4
    refine ⟨h6, ?_⟩
    refine ((p4.area (x := nI (tvl Z (yT q)))).fr g6 rfl).eq ?_ ?_ ?_
    · show yN n ++ [(v, 10 + (yC n).2.1)] = yN q ++ [(v, 10 + (yC q).2.1)]
      rw [n4, c4]
    · show ((yC n).1, (yC n).2.1 + 1, (yC n).2.2) = ((yC q).1, (yC q).2.1 + 1, (yC q).2.2)
      rw [c4]
    · show up2 (up2 (up2 (yA n) 1 (yC n).2.1 _) 5 (yC n).2.1 (-2)) 6 (yC n).2.1 (nI 0) = up2 (up2 (up2 (yA q) 1 (yC q).2.1 _) 5 (yC q).2.1 (-2)) 6 (yC q).2.1 (nI 0)
      rw [a4, c4]

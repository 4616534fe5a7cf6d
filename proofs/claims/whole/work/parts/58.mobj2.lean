/-! the reference: undo, hold, restore, tell, forget, tape, count -/
theorem m_undo_e {μ : Mem} {lv : Nat} {o : Ob} (ok : OkO o) (h : InvM μ lv o) : ∃ μ', m_undo μ = some (b01I (!decide (zN o = 0)), μ') ∧ InvM μ' lv (nUndo o) := by
  obtain ⟨hk, hS, hN, -⟩ := ok
  unfold nUndo
  by_cases c : zN o = 0
  · rw [if_pos c, decide_eq_true c]
    refine ⟨μ, ?_, h⟩
    unfold m_undo
    rw [h.pa.1, c, if_pos rfl]; rfl
  · rw [if_neg c, decide_eq_false c]
    have e61 := h.pa.1
    have main : ∃ μ', m_undo μ = some (nI 1, μ') ∧ mI μ' 55 0 61 = nI (zN o - 1) ∧ ∀ k, k < 33 → mI μ' 88 0 k = zH o 0 k := by
      unfold m_undo
      rw [e61, if_neg (by rw [nI_eqF c (by omega) (by omega)]; exact id), nI_sub1 (by omega)]
      refine fixN_up (fun i (self : Int32 → Mem → Option (Int32 × Mem)) => ∀ μ, mI μ 55 0 61 = nI (zN o - 1) → (∀ k, k < 33 → mI μ 95 0 (33 * (zN o - 1) + k) = zH o 0 k) → (∀ k, k < i → mI μ 88 0 k = zH o 0 k) → ∃ ν, self (nI i) μ = some (nI 1, ν) ∧ mI ν 55 0 61 = nI (zN o - 1) ∧ ∀ k, k < 33 → mI ν 88 0 k = zH o 0 k) 33 ?_ ?_ 60000 0 (by omega) (by omega) _ (by rw [mI_stI, if_pos ⟨rfl, rfl, rfl⟩]) (fun k hk => ?_) (fun k hk => by omega)
      · intro i self hi ih μ h61 h95 hq
        unfold m_undo_B21
        simp (disch := omega) only [nI_leF, h61, pk_mul, nI_add, inB_nI, cl_nI, h95 i hi, ↓mb_e, ↓reduceIte]
        refine ih _ h61 h95 (fun k hk => ?_)
        rw [mI_stI]
        by_cases e : k = i
        · subst e; rw [if_pos ⟨rfl, rfl, rfl⟩]
        · rw [if_neg (fun z => e z.2.2)]; exact hq k (by omega)
      · intro self μ h61 h95 hq
        unfold m_undo_B21
        simp (disch := omega) only [nI_leT, ↓reduceIte]
        exact ⟨μ, rfl, h61, hq⟩
      · have := h.pa.2 0 k (by omega) hk
        rw [Nat.sub_zero] at this
        exact this
    obtain ⟨μ', e, a, b⟩ := main
    have g := f_m_undo e
    refine ⟨μ', e, h.co.pln g rfl rfl b, ⟨a, fun j k hj hk => ?_⟩, ?_⟩
    · have hj2 : j < zN o - 1 := hj
      have := h.pa.2 (j + 1) k (by omega) hk
      rw [show zN o - 1 - (j + 1) = zN o - 1 - 1 - j by omega] at this
      exact (g.I rfl).trans this
    · exact ⟨fun k hk => ⟨(g.I rfl).trans (h.sl k hk).1, fun hb i hi => (g.I rfl).trans ((h.sl k hk).2 hb i hi)⟩, ⟨(g.I rfl).trans h.tk.1, fun i hi => ⟨(g.I rfl).trans (h.tk.2 i hi).1, (g.I rfl).trans (h.tk.2 i hi).2.1, (g.I rfl).trans (h.tk.2 i hi).2.2⟩⟩, ⟨(g.I rfl).trans h.ta.1, fun k hk => (g.I rfl).trans (h.ta.2 k hk)⟩, (g.I rfl).trans h.pl, fun k hk => (g.L rfl).trans (h.ke k hk)⟩
theorem m_hold_e {μ : Mem} {lv : Nat} {o : Ob} (h : InvM μ lv o) (x : Int32) : ∃ μ', m_hold x μ = some (b01I (cHo x), μ') ∧ InvM μ' lv (nHold o x) := by
  have e1 := m_in_r x (nI 0) (nI 2) μ
  unfold nHold cHo
  cases c : inR x (nI 0) (nI 2) with
  | false =>
    rw [c] at e1
    refine ⟨μ, ?_, h⟩
    unfold m_hold
    simp only [↓ob_eq e1, b01I, Bool.false_eq_true, ↓reduceIte]
  | true =>
    rw [c] at e1
    obtain ⟨s, -, hs, rfl⟩ := inR_t (by omega) (by omega) c
    rw [if_pos rfl, cl_nI (by omega)]
    have main : ∃ μ', m_hold (nI s) μ = some (nI 1, μ') ∧ (∀ k, k < 3 → mI μ' 102 0 k = if k = s then nI 1 else mI μ 102 0 k) ∧ (∀ k, k < 33 → mI μ' 103 0 (33 * s + k) = zS o k) ∧ ∀ j, ¬ (33 * s ≤ j ∧ j < 33 * s + 33) → mI μ' 103 0 j = mI μ 103 0 j := by
      have hv := h.co.nw
      have h102 : ∀ k, k < 3 → mI (stI μ 102 0 s (nI 1)) 102 0 k = if k = s then nI 1 else mI μ 102 0 k := fun k hk => by
        rw [mI_stI]
        by_cases e : k = s
        · rw [if_pos ⟨rfl, rfl, e⟩, if_pos e]
        · rw [if_neg (fun z => e z.2.2), if_neg e]
      obtain ⟨v0, hv0⟩ : ∃ v0 : Nat → Int32, ∀ k, mI μ 103 0 k = v0 k := ⟨_, fun k => rfl⟩
      obtain ⟨w0, hw0⟩ : ∃ w0 : Nat → Int32, ∀ k, (if k = s then nI 1 else mI μ 102 0 k) = w0 k := ⟨_, fun k => rfl⟩
      simp only [hw0] at h102
      simp only [hv0, hw0]
      unfold m_hold
      simp (disch := omega) only [↓ob_eq e1, show b01I true = nI 1 from rfl, nI_10, inB_nI, cl_nI, show nI 1 &&& 1 = nI 1 from rfl, ↓reduceIte]
      refine fixN_up (fun i (self : Int32 → Mem → Option (Int32 × Mem)) => ∀ μ, (∀ k, k < 33 → mI μ 88 0 k = zS o k) → (∀ k, k < 3 → mI μ 102 0 k = w0 k) → (∀ k, k < i → mI μ 103 0 (33 * s + k) = zS o k) → (∀ j, ¬ (33 * s ≤ j ∧ j < 33 * s + 33) → mI μ 103 0 j = v0 j) → ∃ ν, self (nI i) μ = some (nI 1, ν) ∧ (∀ k, k < 3 → mI ν 102 0 k = w0 k) ∧ (∀ k, k < 33 → mI ν 103 0 (33 * s + k) = zS o k) ∧ ∀ j, ¬ (33 * s ≤ j ∧ j < 33 * s + 33) → mI ν 103 0 j = v0 j) 33 ?_ ?_ 60000 0 (by omega) (by omega) (stI μ 102 0 s (nI 1)) hv h102 (fun k hk => by omega) (fun j hj => hv0 j)
      · intro i self hi ih μ h88 h102 hq hr
        unfold m_hold_B20
        simp (disch := omega) only [nI_leF, pk_mul, nI_add, inB_nI, cl_nI, h88 i hi, ↓mb_e, ↓reduceIte]
        refine ih _ h88 h102 (fun k hk => ?_) (fun j hj => ?_)
        · rw [mI_stI]
          by_cases e : k = i
          · subst e; rw [if_pos ⟨rfl, rfl, rfl⟩]
          · rw [if_neg (by omega)]; exact hq k (by omega)
        · rw [mI_stI, if_neg (by omega)]; exact hr j hj
      · intro self μ h88 h102 hq hr
        unfold m_hold_B20
        simp (disch := omega) only [nI_leT, ↓reduceIte]
        exact ⟨μ, rfl, h102, hq, hr⟩
    obtain ⟨μ', e, a, b, d⟩ := main
    have g := f_m_hold e
    refine ⟨μ', e, h.co.pln g rfl rfl (fun k hk => (g.I rfl).trans (h.co.nw k hk)), ⟨(g.I rfl).trans h.pa.1, fun j k hj hk => (g.I rfl).trans (h.pa.2 j k hj hk)⟩, fun k hk => ?_, ⟨(g.I rfl).trans h.tk.1, fun i hi => ⟨(g.I rfl).trans (h.tk.2 i hi).1, (g.I rfl).trans (h.tk.2 i hi).2.1, (g.I rfl).trans (h.tk.2 i hi).2.2⟩⟩, ⟨(g.I rfl).trans h.ta.1, fun k hk => (g.I rfl).trans (h.ta.2 k hk)⟩, (g.I rfl).trans h.pl, fun k hk => (g.L rfl).trans (h.ke k hk)⟩
    show mI μ' 102 0 k = b01I (up (zB o) s true k) ∧ (up (zB o) s true k = true → ∀ i, i < 33 → mI μ' 103 0 (33 * k + i) = up (zV o) s (zS o) k i)
    rw [a k hk]
    by_cases e : k = s
    · subst e
      rw [if_pos rfl, up_s, up_s]
      exact ⟨rfl, fun _ i hi => b i hi⟩
    · rw [if_neg e, up_n _ _ e, up_n _ _ e]
      refine ⟨(h.sl k hk).1, fun hb i hi => ?_⟩
      rw [d _ (by omega)]
      exact (h.sl k hk).2 hb i hi
theorem m_restore_e {μ : Mem} {lv : Nat} {o : Ob} (h : InvM μ lv o) (x : Int32) : ∃ μ', m_restore x μ = some (b01I (cRe o x), μ') ∧ InvM μ' lv (nRestore o x) := by
  have e1 := m_in_r x (nI 0) (nI 2) μ
  unfold nRestore cRe
  cases c : inR x (nI 0) (nI 2) with
  | false =>
    rw [c] at e1
    refine ⟨μ, ?_, h⟩
    unfold m_restore
    simp only [↓ob_eq e1, b01I, Bool.false_and, Bool.false_eq_true, ↓reduceIte]
  | true =>
    rw [c] at e1
    obtain ⟨s, -, hs, rfl⟩ := inR_t (by omega) (by omega) c
    have hsl := h.sl s (by omega)
    rw [cl_nI (by omega), Bool.true_and]
    cases b : zB o s with
    | false =>
      rw [b] at hsl
      refine ⟨μ, ?_, h⟩
      unfold m_restore
      simp (disch := omega) only [↓ob_eq e1, show b01I true = nI 1 from rfl, nI_10, inB_nI, cl_nI, hsl.1, show b01I false = nI 0 from rfl, ↓reduceIte]
    | true =>
      rw [b] at hsl
      rw [if_pos rfl]
      have h103 := hsl.2 rfl
      have main : ∃ μ', m_restore (nI s) μ = some (nI 1, μ') ∧ mI μ' 55 0 61 = nI 0 ∧ ∀ k, k < 33 → mI μ' 88 0 k = zV o s k := by
        unfold m_restore
        simp (disch := omega) only [↓ob_eq e1, show b01I true = nI 1 from rfl, nI_10, inB_nI, cl_nI, hsl.1, ↓reduceIte]
        refine fixN_up (fun i (self : Int32 → Mem → Option (Int32 × Mem)) => ∀ μ, (∀ k, k < 33 → mI μ 103 0 (33 * s + k) = zV o s k) → (∀ k, k < i → mI μ 88 0 k = zV o s k) → ∃ ν, self (nI i) μ = some (nI 1, ν) ∧ mI ν 55 0 61 = nI 0 ∧ ∀ k, k < 33 → mI ν 88 0 k = zV o s k) 33 ?_ ?_ 60000 0 (by omega) (by omega) μ h103 (fun k hk => by omega)
        · intro i self hi ih μ h1 hq
          unfold m_restore_B22
          simp (disch := omega) only [nI_leF, pk_mul, nI_add, inB_nI, cl_nI, h1 i hi, ↓mb_e, ↓reduceIte]
          refine ih _ h1 (fun k hk => ?_)
          rw [mI_stI]
          by_cases e : k = i
          · subst e; rw [if_pos ⟨rfl, rfl, rfl⟩]
          · rw [if_neg (fun z => e z.2.2)]; exact hq k (by omega)
        · intro self μ h1 hq
          unfold m_restore_B22
          simp (disch := omega) only [nI_leT, ↓reduceIte]
          exact ⟨_, rfl, by rw [mI_stI, if_pos ⟨rfl, rfl, rfl⟩], hq⟩
      obtain ⟨μ', e, a, b⟩ := main
      have g := f_m_restore e
      exact ⟨μ', e, h.co.pln g rfl rfl b, ⟨a, fun j k (hj : j < 0) hk => by omega⟩, fun k hk => ⟨(g.I rfl).trans (h.sl k hk).1, fun hb i hi => (g.I rfl).trans ((h.sl k hk).2 hb i hi)⟩, ⟨(g.I rfl).trans h.tk.1, fun i hi => ⟨(g.I rfl).trans (h.tk.2 i hi).1, (g.I rfl).trans (h.tk.2 i hi).2.1, (g.I rfl).trans (h.tk.2 i hi).2.2⟩⟩, ⟨(g.I rfl).trans h.ta.1, fun k hk => (g.I rfl).trans (h.ta.2 k hk)⟩, (g.I rfl).trans h.pl, fun k hk => (g.L rfl).trans (h.ke k hk)⟩
/-! tell, forget -/
theorem InvM.told {μ μ' : Mem} {lv : Nat} {o : Ob} {T' : Tk} {T : List At} (h : InvM μ lv o) (g : Fr T μ μ') (e : T = [(98, none, none), (99, none, none), (100, none, none), (55, none, some 67)]) (t : TkM μ' T') : InvM μ' lv (wT o T') := by
  subst e
  exact ⟨h.co.pln g rfl rfl (fun k hk => (g.I rfl).trans (h.co.nw k hk)), ⟨(g.I rfl).trans h.pa.1, fun j k hj hk => (g.I rfl).trans (h.pa.2 j k hj hk)⟩, fun k hk => ⟨(g.I rfl).trans (h.sl k hk).1, fun hb i hi => (g.I rfl).trans ((h.sl k hk).2 hb i hi)⟩, t, ⟨(g.I rfl).trans h.ta.1, fun k hk => (g.I rfl).trans (h.ta.2 k hk)⟩, (g.I rfl).trans h.pl, fun k hk => (g.L rfl).trans (h.ke k hk)⟩
theorem m_tell_e {μ : Mem} {lv : Nat} {o : Ob} (ok : OkO o) (h : InvM μ lv o) (x y : Int32) (so : Bool) : ∃ μ', m_tell x y (b01I so) μ = some (rTell o x y, μ') ∧ InvM μ' lv (nTell o x y so) := by
  have k2 := ok.1.2.1
  have hk := ok.1
  have t20 := ok.2.2.2.2.2.1.1
  have t := h.tk
  have t3 := t.1
  have e0 := m_isField_e hk h.co.pl x
  have e1 := m_in_r y (nI 0) (nI 2) μ
  have no : cTe o x y = false → rTell o x y = -1 ∧ nTell o x y so = o := fun c => by unfold rTell nTell; rw [c]; exact ⟨rfl, rfl⟩
  unfold m_tell
  rw [t3]
  by_cases c0 : tN (zT o) = 20
  · obtain ⟨n1, n2⟩ := no (by unfold cTe; rw [decide_eq_true c0]; rfl)
    rw [n1, n2]
    refine ⟨μ, ?_, h⟩
    rw [if_pos (by rw [c0])]
  · rw [if_neg (by rw [nI_eqF c0 (by omega) (by omega)]; exact id)]
    cases c1 : inB x (pFd (zP o)) with
    | false =>
      obtain ⟨n1, n2⟩ := no (by unfold cTe; rw [c1]; simp)
      rw [n1, n2]
      rw [c1] at e0
      refine ⟨μ, ?_, h⟩
      simp only [↓ob_eq e0, b01I, Bool.false_eq_true, ↓reduceIte]
    | true =>
      rw [c1] at e0
      cases c2 : inR y (nI 0) (nI 2) with
      | false =>
        obtain ⟨n1, n2⟩ := no (by unfold cTe; rw [c2]; simp)
        rw [n1, n2]
        rw [c2] at e1
        refine ⟨μ, ?_, h⟩
        simp only [↓ob_eq e0, ↓ob_eq e1, b01I_t, show b01I false = nI 0 from rfl, nI_10, ↓reduceIte]
      | true =>
        have ct : cTe o x y = true := by unfold cTe; rw [c1, c2, decide_eq_false c0]; rfl
        obtain ⟨h20, f, q, rfl, hf, rfl, hq⟩ := cTe_t ok ct
        rw [c2] at e1
        unfold rTell nTell
        rw [if_pos ct, if_pos ct, cl_nI (by omega), cl_nI (by omega)]
        have g : Fr [(98, none, none), (99, none, none), (100, none, none), (55, none, some 67)] μ (stI (stI (stI (stI μ 98 0 (tN (zT o)) (nI f)) 99 0 (tN (zT o)) (nI q)) 100 0 (tN (zT o)) (b01I so)) 55 0 67 (nI (tN (zT o) + 1))) := Fr.stI (Fr.stI (Fr.stI (Fr.stI (Fr.rf _ _) (iT 0 rfl inA_nn)) (iT 1 rfl inA_nn)) (iT 2 rfl inA_nn)) (iT 3 rfl inA_ns)
        refine ⟨_, ?_, h.told g rfl ⟨?_, fun i hi => ?_⟩⟩
        · simp (disch := omega) only [↓ob_eq e0, ↓ob_eq e1, show b01I true = nI 1 from rfl, nI_10, inB_nI, cl_nI, t3, ↓mb_e, b01_and, mI_stI, Nat.reduceEqDiff, false_and, nI_add, and_self, nI_sub1, Nat.add_sub_cancel, ↓reduceIte]
        · rw [mI_stI, if_pos ⟨rfl, rfl, rfl⟩]; rfl
        · have hi2 : i < tN (zT o) + 1 := hi
          show _ = nI (up (tF (zT o)) (tN (zT o)) f i) ∧ _ = nI (up (tH (zT o)) (tN (zT o)) q i) ∧ _ = b01I (up (tB (zT o)) (tN (zT o)) so i)
          by_cases z : i = tN (zT o)
          · rw [z, up_s, up_s, up_s]
            simp [mI_stI]
          · rw [up_n _ _ z, up_n _ _ z, up_n _ _ z]
            have := t.2 i (by omega)
            simp only [mI_stI, Nat.reduceEqDiff, false_and, z, and_false, ↓reduceIte]
            exact this
theorem m_forget_e {μ : Mem} {lv : Nat} {o : Ob} (h : InvM μ lv o) : ∃ μ', m_forget μ = some (nI (tN (zT o)), μ') ∧ InvM μ' lv (nForget o) := by
  have t3 := h.tk.1
  unfold m_forget
  rw [t3]
  have g : Fr [(98, none, none), (99, none, none), (100, none, none), (55, none, some 67)] μ (stI μ 55 0 67 (nI 0)) := Fr.stI (Fr.rf _ _) (iT 3 rfl inA_ns)
  refine ⟨_, rfl, h.told g rfl ⟨?_, fun i (hi : i < 0) => by omega⟩⟩
  rw [mI_stI, if_pos ⟨rfl, rfl, rfl⟩]; rfl
/-! the tape -/
theorem InvM.tape {μ μ' : Mem} {lv : Nat} {o : Ob} {m : Nat} {X : Nat → Int32} (h : InvM μ lv o) (g : Fr [(56, none, none), (55, none, some 2)] μ μ') (h1 : mI μ' 55 0 2 = nI m) (h2 : ∀ k, k < m → mI μ' 56 0 k = X k) : InvM μ' lv (wM o m X) :=
  ⟨h.co.pln g rfl rfl (fun k hk => (g.I rfl).trans (h.co.nw k hk)), ⟨(g.I rfl).trans h.pa.1, fun j k hj hk => (g.I rfl).trans (h.pa.2 j k hj hk)⟩, fun k hk => ⟨(g.I rfl).trans (h.sl k hk).1, fun hb i hi => (g.I rfl).trans ((h.sl k hk).2 hb i hi)⟩, ⟨(g.I rfl).trans h.tk.1, fun i hi => ⟨(g.I rfl).trans (h.tk.2 i hi).1, (g.I rfl).trans (h.tk.2 i hi).2.1, (g.I rfl).trans (h.tk.2 i hi).2.2⟩⟩, ⟨h1, h2⟩, (g.I rfl).trans h.pl, fun k hk => (g.L rfl).trans (h.ke k hk)⟩
theorem m_back_e {μ : Mem} {lv : Nat} {o : Ob} (ok : OkO o) (h : InvM μ lv o) (x : Int32) : ∃ μ', m_back x μ = some (rBack o x, μ') ∧ InvM μ' lv (nBack o x) := by
  have m2 := ok.2.2.2.2.2.2.1
  have d := h.ta
  unfold m_back rBack nBack cBk
  rw [d.1]
  rcases inR_cases (x := x) (n := zM o) (by omega) with ⟨c, j, hj, rfl⟩ | ⟨c, hx⟩
  · rw [c, if_pos rfl, if_pos rfl, cl_nI (by omega)]
    have g : Fr [(56, none, none), (55, none, some 2)] μ (stI μ 55 0 2 (nI (zM o - j))) := Fr.stI (Fr.rf _ _) (iT 1 rfl inA_ns)
    refine ⟨_, ?_, h.tape g (by rw [mI_stI, if_pos ⟨rfl, rfl, rfl⟩]) (fun k hk => d.2 k (by omega))⟩
    simp (disch := omega) only [nI_ltF, nI_leT, pk_sub, mI_stI, and_self, ↓reduceIte]
  · rw [c]
    refine ⟨μ, ?_, h⟩
    rcases hx with hx | ⟨h1, h2⟩
    · rw [if_pos hx]; rfl
    · rw [if_neg h1, if_neg h2]; rfl
theorem sh8 (x : Int32) (d : Nat) (hd : d = 24 ∨ d = 16 ∨ d = 8 ∨ d = 0) : Int32.toInt8 (ushr x (nI d)) = Int32.toInt8 (x >>> (nI d &&& 31)) := by
  have main : ∀ e : Nat, e ≤ 24 → BitVec.signExtend 8 (x.toBitVec >>> e) = BitVec.signExtend 8 (BitVec.sshiftRight x.toBitVec e) := fun e he => by
    apply BitVec.eq_of_getLsbD_eq
    intro i hi
    rw [BitVec.getLsbD_signExtend, BitVec.getLsbD_signExtend, BitVec.getLsbD_ushiftRight, BitVec.getLsbD_sshiftRight]
    simp [hi, show i < 32 by omega, show e + i < 32 by omega]
  apply Int8.toBitVec_inj.mp
  rcases hd with rfl | rfl | rfl | rfl
  · exact main 24 (by omega)
  · exact main 16 (by omega)
  · exact main 8 (by omega)
  · exact main 0 (by omega)
theorem m_lays_e {μ : Mem} {x : Int32} {m : Nat} {X : Nat → Int32} (h1 : mI μ 55 0 2 = nI m) (h2 : ∀ k, k < m → mI μ 56 0 k = X k) (hm : m + 4 ≤ 2000) : ∃ μ', m_lays x μ = some ((), μ') ∧ mI μ' 55 0 2 = nI (put4 x (m, X)).1 ∧ ∀ k, k < (put4 x (m, X)).1 → mI μ' 56 0 k = (put4 x (m, X)).2 k := by
  unfold m_lays m_lays_L3
  rw [show 60000 = 59995 + 1 + 1 + 1 + 1 + 1 from rfl, fixN_s]
  have step : ∀ (self : Int32 → Mem → Option (Unit × Mem)) (μ : Mem) (d m : Nat), mI μ 55 0 2 = nI m → m < 2000 → (d = 24 ∨ d = 16 ∨ d = 8 ∨ d = 0) → m_lays_B3 x self (nI d) μ = self (nI d + (-8 : Int32)) (stI (stI μ 56 0 m (byI x d)) 55 0 2 (nI (m + 1))) := fun self μ d m h hm hd => by
    have h2 : mI (stI μ 56 0 m (byI x d)) 55 0 2 = nI m := h
    unfold byI at h2 ⊢
    rw [sh8 x d hd] at h2 ⊢
    unfold m_lays_B3
    simp (disch := omega) only [nI_ltF, h, inB_nI, cl_nI, ↓mb_e, h2, nI_add, ↓reduceIte]
  have q1 : mI (stI (stI μ 56 0 m (byI x 24)) 55 0 2 (nI (m + 1))) 55 0 2 = nI (m + 1) := by rw [mI_stI, if_pos ⟨rfl, rfl, rfl⟩]
  rw [step _ _ 24 m h1 (by omega) (by omega), show nI 24 + (-8 : Int32) = nI 16 by decide, fixN_s, step _ _ 16 (m + 1) q1 (by omega) (by omega)]
  generalize hμ2 : stI (stI (stI (stI μ 56 0 m (byI x 24)) 55 0 2 (nI (m + 1))) 56 0 (m + 1) (byI x 16)) 55 0 2 (nI (m + 1 + 1)) = μ2
  have q2 : mI μ2 55 0 2 = nI (m + 2) := by rw [← hμ2, mI_stI, if_pos ⟨rfl, rfl, rfl⟩]
  rw [show nI 16 + (-8 : Int32) = nI 8 by decide, fixN_s, step _ _ 8 (m + 2) q2 (by omega) (by omega)]
  have q3 : mI (stI (stI μ2 56 0 (m + 2) (byI x 8)) 55 0 2 (nI (m + 2 + 1))) 55 0 2 = nI (m + 3) := by rw [mI_stI, if_pos ⟨rfl, rfl, rfl⟩]
  rw [show nI 8 + (-8 : Int32) = nI 0 by decide, fixN_s, step _ _ 0 (m + 3) q3 (by omega) (by omega), fixN_s]
  unfold m_lays_B3
  rw [if_pos (show nI 0 + (-8 : Int32) < nI 0 by decide)]
  refine ⟨_, rfl, by rw [mI_stI, if_pos ⟨rfl, rfl, rfl⟩]; rfl, fun k hk => ?_⟩
  have hk2 : k < m + 4 := hk
  show _ = up (up (up (up X m (byI x 24)) (m + 1) (byI x 16)) (m + 2) (byI x 8)) (m + 3) (byI x 0) k
  rw [← hμ2]
  by_cases e3 : k = m + 3
  · subst e3; rw [up_s]; simp [mI_stI]
  · rw [up_n _ _ e3]
    by_cases e2 : k = m + 2
    · subst e2; rw [up_s]; simp [mI_stI]
    · rw [up_n _ _ e2]
      by_cases e1 : k = m + 1
      · subst e1; rw [up_s]; simp [mI_stI]
      · rw [up_n _ _ e1]
        by_cases e0 : k = m
        · subst e0; rw [up_s]; simp [mI_stI]
        · rw [up_n _ _ e0]
          simp only [mI_stI, Nat.reduceEqDiff, false_and, e3, e2, e1, e0, and_false, ↓reduceIte]
          exact h2 k (by omega)
theorem m_feed_e {μ : Mem} {lv : Nat} {o : Ob} (ok : OkO o) (h : InvM μ lv o) (a b c d e : Int32) : ∃ μ', m_feed a b c d e μ = some (rFeed o, μ') ∧ InvM μ' lv (nFeed o a b c d e) := by
  have m2 := ok.2.2.2.2.2.2.1
  have t := h.ta
  unfold rFeed nFeed
  by_cases cc : zM o + 20 ≤ 2000
  · rw [if_pos cc, if_pos cc]
    obtain ⟨μ1, e1, a1, b1⟩ := m_lays_e (x := a) t.1 t.2 (by omega)
    obtain ⟨μ2, e2, a2, b2⟩ := m_lays_e (x := b) a1 b1 (show zM o + 4 + 4 ≤ 2000 by omega)
    obtain ⟨μ3, e3, a3, b3⟩ := m_lays_e (x := c) a2 b2 (show zM o + 4 + 4 + 4 ≤ 2000 by omega)
    obtain ⟨μ4, e4, a4, b4⟩ := m_lays_e (x := d) a3 b3 (show zM o + 4 + 4 + 4 + 4 ≤ 2000 by omega)
    obtain ⟨μ5, e5, a5, b5⟩ := m_lays_e (x := e) a4 b4 (show zM o + 4 + 4 + 4 + 4 + 4 ≤ 2000 by omega)
    have ee : m_feed a b c d e μ = some (nI (zM o + 20), μ5) := by
      unfold m_feed
      simp (disch := omega) only [t.1, nI_add, nI_leT, ↓ob_eq e1, ↓ob_eq e2, ↓ob_eq e3, ↓ob_eq e4, ↓ob_eq e5, a5, ↓reduceIte]
      rfl
    refine ⟨μ5, ee, h.tape ?_ a5 b5⟩
    have := f_m_feed ee
    exact this
  · rw [if_neg cc, if_neg cc]
    refine ⟨μ, ?_, h⟩
    unfold m_feed
    simp (disch := omega) only [t.1, nI_add, nI_leF, ↓reduceIte]
theorem m_place_e {μ : Mem} {lv : Nat} {o : Ob} (h : InvM μ lv o) : m_place μ = some (zE o, μ) := by
  unfold m_place
  rw [h.pl]
/-! count -/
theorem cntB3 (b : Nat → Bool) : nI (cntB 3 b) = nI 0 + b01I (b 0) + b01I (b 1) + b01I (b 2) := by
  rw [cntB_s, cntB_s, cntB_s]
  cases b 0 <;> cases b 1 <;> cases b 2 <;> rfl
theorem m_count_e {μ : Mem} {lv : Nat} {o : Ob} (ok : OkO o) (h : InvM μ lv o) (x : Int32) : ∃ μ', m_count x μ = some (qCount o x, μ') ∧ InvM μ' lv o := by
  obtain ⟨hk, hS, hN, -⟩ := ok
  obtain ⟨μ1, e1, A1, W1, -, -, H1⟩ := m_copies_e hk hS h.co
  have I1 := h.fr (f_m_copies e1) rfl
  refine ⟨μ1, ?_, I1⟩
  have s0 := (I1.sl 0 (by omega)).1
  have s1 := (I1.sl 1 (by omega)).1
  have s2 := (I1.sl 2 (by omega)).1
  have e7 := m_cntFlow_e hk hS A1 W1
  have e12 := m_cntGr_e hk A1
  have e13 := m_canBits_e hk hS A1.pl A1.rw
  have r31 := A1.rw 31 (by omega)
  have r32 := A1.rw 32 (by omega)
  have r30 := A1.rw 30 (by omega)
  have ef : (if mI μ1 55 0 56 = nI 0 then some (nI 0, μ1) else some (nI 1, μ1)) = some (flI (zP o) (zS o), μ1) := by
    rw [W1.1]
    by_cases c : wFl (zP o) (zS o)
    · rw [flI_t c, if_neg (by rw [nI_10]; exact id)]
    · rw [flI_f c, if_pos rfl]
  have hl := A1.pl.lv
  have hl2 := A1.pl.l2
  unfold m_count qCount
  simp only [↓ob_eq e1]
  by_cases c0 : x = nI 0
  · rw [if_pos c0, if_pos c0]
    simp (disch := omega) only [hl, inB_nI, cl_nI, A1.pl.lg, ↓reduceIte]
  rw [if_neg c0, if_neg c0]
  by_cases c1 : x = nI 1
  · rw [if_pos c1, if_pos c1]
    simp (disch := omega) only [hl, inB_nI, cl_nI, A1.pl.fd, ↓reduceIte]
  rw [if_neg c1, if_neg c1]
  by_cases c2 : x = nI 2
  · rw [if_pos c2, if_pos c2]
    simp (disch := omega) only [hl, inB_nI, cl_nI, A1.pl.no, ↓reduceIte]
  rw [if_neg c2, if_neg c2]
  by_cases c3 : x = nI 3
  · rw [if_pos c3, if_pos c3, r31]
  rw [if_neg c3, if_neg c3]
  by_cases c4 : x = nI 4
  · rw [if_pos c4, if_pos c4, r32]
  rw [if_neg c4, if_neg c4]
  by_cases c5 : x = nI 5
  · rw [if_pos c5, if_pos c5, r30]
  rw [if_neg c5, if_neg c5]
  by_cases c6 : x = nI 6
  · rw [if_pos c6, if_pos c6, ef]
  rw [if_neg c6, if_neg c6]
  by_cases c7 : x = nI 7
  · rw [if_pos c7, if_pos c7, e7]
  rw [if_neg c7, if_neg c7]
  by_cases c8 : x = nI 8
  · rw [if_pos c8, if_pos c8, I1.ta.1]
  rw [if_neg c8, if_neg c8]
  by_cases c9 : x = nI 9
  · rw [if_pos c9, if_pos c9, I1.pa.1]
  rw [if_neg c9, if_neg c9]
  by_cases c10 : x = nI 10
  · rw [if_pos c10, if_pos c10, I1.tk.1]
  rw [if_neg c10, if_neg c10]
  by_cases c11 : x = nI 11
  · rw [if_pos c11, if_pos c11, s0, s1, s2, cntB3]
    cases zB o 0 <;> cases zB o 1 <;> cases zB o 2 <;> rfl
  rw [if_neg c11, if_neg c11]
  by_cases c12 : x = nI 12
  · rw [if_pos c12, if_pos c12, e12]
  rw [if_neg c12, if_neg c12]
  by_cases c13 : x = nI 13
  · rw [if_pos c13, if_pos c13]
    simp only [↓ob_eq e13]
  rw [if_neg c13, if_neg c13]

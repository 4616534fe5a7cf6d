/-! the class: tell, forget, tape, count -/
theorem RestC.t {μ : Mem} {o : Ob} (h : RestC μ o) : TkC μ (zT o) := h.2.2.1
def cTe (o : Ob) (x y : Int32) : Bool := !decide (tN (zT o) = 20) && (inB x (pFd (zP o)) && inR y (nI 0) (nI 2))
def rTell (o : Ob) (x y : Int32) : Int32 := if cTe o x y = true then nI (tN (zT o)) else -1
def tel (T : Tk) (f h : Nat) (b : Bool) : Tk := (tN T + 1, up (tF T) (tN T) f, up (tH T) (tN T) h, up (tB T) (tN T) b)
def nTell (o : Ob) (x y : Int32) (b : Bool) : Ob := if cTe o x y = true then wT o (tel (zT o) (cl x) (cl y) b) else o
theorem cTe_t {o : Ob} (ok : OkO o) {x y : Int32} (h : cTe o x y = true) : tN (zT o) < 20 ∧ ∃ f q, x = nI f ∧ f < pFd (zP o) ∧ y = nI q ∧ q ≤ 2 := by
  have k2 := ok.1.2.1
  have t20 := ok.2.2.2.2.2.1.1
  unfold cTe at h
  rw [Bool.and_eq_true, Bool.and_eq_true, Bool.not_eq_true', decide_eq_false_iff_not] at h
  obtain ⟨a, b, c⟩ := h
  rcases inB_cases x (show pFd (zP o) < 2147483648 by omega) with ⟨-, f, hf, e1⟩ | ⟨z, -⟩
  · obtain ⟨q, -, hq, e3⟩ := inR_t (by omega) (by omega) c
    exact ⟨by omega, f, q, e1, hf, e3, hq⟩
  · rw [b] at z; cases z
theorem nTell_ok {o : Ob} (h : OkO o) (x y : Int32) (b : Bool) : OkO (nTell o x y b) := by
  unfold nTell
  split
  · rename_i c
    obtain ⟨h20, f, q, rfl, hf, rfl, hq⟩ := cTe_t h c
    have k2 := h.1.2.1
    rw [cl_nI (by omega), cl_nI (by omega)]
    obtain ⟨a1, a2, a3, a4, a5, a6, a7⟩ := h
    refine ⟨a1, a2, a3, a4, a5, ⟨?_, fun i hi => ?_⟩, a7⟩
    · show tN (zT o) + 1 ≤ 20
      omega
    · have hi2 : i < tN (zT o) + 1 := hi
      show up (tF (zT o)) (tN (zT o)) f i < pFd (zP o) ∧ up (tH (zT o)) (tN (zT o)) q i ≤ 2
      by_cases z : i = tN (zT o)
      · rw [z, up_s, up_s]; exact ⟨hf, hq⟩
      · rw [up_n _ _ z, up_n _ _ z]; exact a6.2 i (by omega)
  · exact h
theorem b01_and (b : Bool) : b01I b &&& 1 = b01I b := by cases b <;> rfl
theorem s_tell_e {μ : Mem} {p : Nat} {o : Ob} (ok : OkO o) (h : InvC μ p o) (x y : Int32) (so : Bool) : ∃ μ', s_tell x y (b01I so) μ = some (rTell o x y, μ') ∧ InvC μ' p (nTell o x y so) := by
  have h0 := h
  have k2 := ok.1.2.1
  have hk := ok.1
  have t20 := ok.2.2.2.2.2.1.1
  obtain ⟨hc, hr⟩ := h
  have t3 := hr.t.1
  have e0 := s_isField_e hk hc x
  have e1 := s_isFrom_r y (nI 0) (nI 2) μ
  have no : cTe o x y = false → rTell o x y = -1 ∧ nTell o x y so = o := fun c => by unfold rTell nTell; rw [c]; exact ⟨rfl, rfl⟩
  unfold s_tell
  rw [t3]
  by_cases c0 : tN (zT o) = 20
  · obtain ⟨n1, n2⟩ := no (by unfold cTe; rw [decide_eq_true c0]; rfl)
    rw [n1, n2]
    refine ⟨μ, ?_, h0⟩
    rw [if_pos (by rw [nI_leT (by omega) (by omega)]; trivial)]
  · rw [if_neg (by rw [nI_leF (by omega) (by omega)]; exact id)]
    cases c1 : inB x (pFd (zP o)) with
    | false =>
      obtain ⟨n1, n2⟩ := no (by unfold cTe; rw [c1]; simp)
      rw [n1, n2]
      rw [c1] at e0
      refine ⟨μ, ?_, h0⟩
      simp only [↓ob_eq e0, b01I, Bool.false_eq_true, ↓reduceIte]
    | true =>
      rw [c1] at e0
      cases c2 : inR y (nI 0) (nI 2) with
      | false =>
        obtain ⟨n1, n2⟩ := no (by unfold cTe; rw [c2]; simp)
        rw [n1, n2]
        rw [c2] at e1
        refine ⟨μ, ?_, h0⟩
        simp only [↓ob_eq e0, ↓ob_eq e1, b01I_t, show b01I false = nI 0 from rfl, nI_10, ↓reduceIte]
      | true =>
        have ct : cTe o x y = true := by unfold cTe; rw [c1, c2, decide_eq_false c0]; rfl
        obtain ⟨h20, f, q, rfl, hf, rfl, hq⟩ := cTe_t ok ct
        rw [c2] at e1
        unfold rTell nTell
        rw [if_pos ct, if_pos ct, cl_nI (by omega), cl_nI (by omega)]
        have g : Fr [(49, none, none), (50, none, none), (51, none, none), (48, none, some 3)] μ (stI (stI (stI (stI μ 49 0 (tN (zT o)) (nI f)) 50 0 (tN (zT o)) (nI q)) 51 0 (tN (zT o)) (b01I so)) 48 0 3 (nI (tN (zT o) + 1))) := Fr.stI (Fr.stI (Fr.stI (Fr.stI (Fr.rf _ _) (iT 0 rfl inA_nn)) (iT 1 rfl inA_nn)) (iT 2 rfl inA_nn)) (iT 3 rfl inA_ns)
        have off : ∀ {r i k}, r < 48 → inT [(49, none, none), (50, none, none), (51, none, none), (48, none, some 3)] r i k = false := fun {r i k} hr => by
          cases e : inT [(49, none, none), (50, none, none), (51, none, none), (48, none, some 3)] r i k with
          | false => rfl
          | true =>
            exfalso
            obtain ⟨a, ha, hb⟩ := List.any_eq_true.mp e
            unfold inA at hb
            simp only [List.mem_cons, List.not_mem_nil, or_false] at ha
            rcases ha with rfl | rfl | rfl | rfl <;> (simp only [Bool.and_eq_true, beq_iff_eq] at hb; omega)
        refine ⟨_, ?_, hc.frn (fun r i k hh => g.1 r i k (off (by unfold NdC at hh; omega))), ?_⟩
        · simp (disch := omega) only [↓ob_eq e0, ↓ob_eq e1, show b01I true = nI 1 from rfl, nI_10, inB_nI, cl_nI, t3, ↓mb_e, b01_and, mI_stI, Nat.reduceEqDiff, false_and, nI_add, ↓reduceIte]
        · obtain ⟨⟨la, a1, a2, a3, a4⟩, b, t, d, e⟩ := hr
          have I : ∀ {r i k}, r < 48 → _ := fun {r i k} hr => g.I (off (r := r) (i := i) (k := k) hr)
          refine ⟨⟨la, a1, (I (by omega)).trans a2, (I (by omega)).trans a3, fun j hj => ?_⟩, fun k hk => ⟨(I (by omega)).trans (b k hk).1, fun hb => ?_⟩, ⟨?_, fun i hi => ?_⟩, ⟨(I (by omega)).trans d.1, fun k hk => (I (by omega)).trans (d.2 k hk)⟩, (I (by omega)).trans e⟩
          · exact (a4 j hj).fr g (fun _ _ _ => off (by omega)) (fun _ => off (by omega)) (fun _ => off (by omega)) (fun _ => off (by omega)) (fun _ => off (by omega))
          · exact ((b k hk).2 hb).fr g (fun _ _ _ => off (by omega)) (fun _ => off (by omega)) (fun _ => off (by omega)) (fun _ => off (by omega)) (fun _ => off (by omega))
          · rw [mI_stI, if_pos ⟨rfl, rfl, rfl⟩]; rfl
          · have hi2 : i < tN (zT o) + 1 := hi
            show _ = nI (up (tF (zT o)) (tN (zT o)) f i) ∧ _ = nI (up (tH (zT o)) (tN (zT o)) q i) ∧ _ = b01I (up (tB (zT o)) (tN (zT o)) so i)
            by_cases z : i = tN (zT o)
            · rw [z, up_s, up_s, up_s]
              simp [mI_stI]
            · rw [up_n _ _ z, up_n _ _ z, up_n _ _ z]
              have := t.2 i (by omega)
              simp only [mI_stI, Nat.reduceEqDiff, false_and, z, and_false, ↓reduceIte]
              exact this
def nForget (o : Ob) : Ob := wT o (0, tF (zT o), tH (zT o), tB (zT o))
theorem nForget_ok {o : Ob} (h : OkO o) : OkO (nForget o) := by
  obtain ⟨a1, a2, a3, a4, a5, a6, a7⟩ := h
  exact ⟨a1, a2, a3, a4, a5, ⟨Nat.zero_le _, fun i (hi : i < 0) => by omega⟩, a7⟩
theorem s_forget_e {μ : Mem} {p : Nat} {o : Ob} (h : InvC μ p o) : ∃ μ', s_forget μ = some (nI (tN (zT o)), μ') ∧ InvC μ' p (nForget o) := by
  obtain ⟨hc, hr⟩ := h
  have t3 := hr.t.1
  unfold s_forget
  rw [t3]
  refine ⟨_, rfl, hc.frn (fun r i k hh => ⟨by unfold NdC at hh; rw [mI_stI, if_neg (by omega)], rfl, rfl⟩), ?_⟩
  obtain ⟨a, b, t, d, e⟩ := hr
  refine ⟨a, b, ⟨?_, fun i (hi : i < 0) => by omega⟩, d, e⟩
  rw [mI_stI, if_pos ⟨rfl, rfl, rfl⟩]; rfl
/-! the tape -/
def cBk (o : Ob) (x : Int32) : Bool := inR x (nI 0) (nI (zM o))
def rBack (o : Ob) (x : Int32) : Int32 := if cBk o x = true then nI (zM o - cl x) else -1
def nBack (o : Ob) (x : Int32) : Ob := if cBk o x = true then wM o (zM o - cl x) (zX o) else o
theorem nBack_ok {o : Ob} (h : OkO o) (x : Int32) : OkO (nBack o x) := by
  unfold nBack
  split
  · obtain ⟨a1, a2, a3, a4, a5, a6, a7, a8⟩ := h
    refine ⟨a1, a2, a3, a4, a5, a6, ?_, fun k hk => a8 k ?_⟩
    · show zM o - cl x ≤ 2000
      omega
    · have : k < zM o - cl x := hk
      omega
  · exact h
theorem inR_cases {x : Int32} {n : Nat} (hn : n < 2147483648) : (inR x (nI 0) (nI n) = true ∧ ∃ j, j ≤ n ∧ x = nI j) ∨ (inR x (nI 0) (nI n) = false ∧ (x < nI 0 ∨ (¬ x < nI 0 ∧ ¬ x ≤ nI n))) := by
  unfold inR
  by_cases c1 : x < nI 0
  · rw [if_pos c1]; exact Or.inr ⟨rfl, Or.inl c1⟩
  · rw [if_neg c1]
    by_cases c2 : nI n < x
    · rw [if_pos c2]; exact Or.inr ⟨rfl, Or.inr ⟨c1, Int32.not_le.mpr c2⟩⟩
    · rw [if_neg c2]
      obtain ⟨j, -, hj, e⟩ := inR_t (x := x) (a := 0) (b := n) hn (Nat.zero_le _) (by unfold inR; rw [if_neg c1, if_neg c2])
      exact Or.inl ⟨rfl, j, hj, e⟩
theorem InvC.tape {μ μ' : Mem} {p : Nat} {o : Ob} {m : Nat} {X : Nat → Int32} (h : InvC μ p o) (g : Fr [(11, none, none), (10, none, some 1)] μ μ') (h1 : mI μ' 10 0 1 = nI m) (h2 : ∀ k, k < m → mI μ' 11 0 k = X k) : InvC μ' p (wM o m X) := by
  have off : ∀ {r i k}, ¬ (r = 10 ∧ k = 1) → r ≠ 11 → inT [(11, none, none), (10, none, some 1)] r i k = false := fun {r i k} a b => by
    cases e : inT [(11, none, none), (10, none, some 1)] r i k with
    | false => rfl
    | true =>
      exfalso
      obtain ⟨q, ha, hb⟩ := List.any_eq_true.mp e
      unfold inA at hb
      simp only [List.mem_cons, List.not_mem_nil, or_false] at ha
      rcases ha with rfl | rfl <;> (simp only [Bool.and_eq_true, beq_iff_eq] at hb; omega)
  obtain ⟨hc, ⟨la, a1, a2, a3, a4⟩, b, t, d, e⟩ := h
  refine ⟨hc.frn (fun r i k hh => g.1 r i k (off (by unfold NdC at hh; omega) (by unfold NdC at hh; omega))), ⟨la, a1, (g.I (off (by omega) (by omega))).trans a2, (g.I (off (by omega) (by omega))).trans a3, fun j hj => ?_⟩, fun k hk => ⟨(g.I (off (by omega) (by omega))).trans (b k hk).1, fun hb => ?_⟩, ⟨(g.I (off (by omega) (by omega))).trans t.1, fun i hi => ⟨(g.I (off (by omega) (by omega))).trans (t.2 i hi).1, (g.I (off (by omega) (by omega))).trans (t.2 i hi).2.1, (g.I (off (by omega) (by omega))).trans (t.2 i hi).2.2⟩⟩, ⟨h1, h2⟩, (g.I (off (by omega) (by omega))).trans e⟩
  · exact (a4 j hj).fr g (fun _ _ _ => off (by omega) (by omega)) (fun _ => off (by omega) (by omega)) (fun _ => off (by omega) (by omega)) (fun _ => off (by omega) (by omega)) (fun _ => off (by omega) (by omega))
  · exact ((b k hk).2 hb).fr g (fun _ _ _ => off (by omega) (by omega)) (fun _ => off (by omega) (by omega)) (fun _ => off (by omega) (by omega)) (fun _ => off (by omega) (by omega)) (fun _ => off (by omega) (by omega))
theorem s_back_e {μ : Mem} {p : Nat} {o : Ob} (ok : OkO o) (h : InvC μ p o) (x : Int32) : ∃ μ', s_back x μ = some (rBack o x, μ') ∧ InvC μ' p (nBack o x) := by
  have m2 := ok.2.2.2.2.2.2.1
  have d := h.2.2.2.2.1
  unfold s_back rBack nBack cBk
  rw [d.1]
  rcases inR_cases (x := x) (n := zM o) (by omega) with ⟨c, j, hj, rfl⟩ | ⟨c, hx⟩
  · rw [c, if_pos rfl, if_pos rfl, cl_nI (by omega)]
    have g : Fr [(11, none, none), (10, none, some 1)] μ (stI μ 10 0 1 (nI (zM o - j))) := Fr.stI (Fr.rf _ _) (iT 1 rfl inA_ns)
    refine ⟨_, ?_, h.tape g (by rw [mI_stI, if_pos ⟨rfl, rfl, rfl⟩]) (fun k hk => by rw [mI_stI, if_neg (by omega)]; exact d.2 k (by omega))⟩
    simp (disch := omega) only [nI_ltF, nI_leT, pk_sub, mI_stI, and_self, ↓reduceIte]
  · rw [c]
    refine ⟨μ, ?_, h⟩
    rcases hx with hx | ⟨h1, h2⟩
    · rw [if_pos hx]; rfl
    · rw [if_neg h1, if_neg h2]; rfl
/-- a byte of an int -/
def byI (x : Int32) (d : Nat) : Int32 := Int8.toInt32 (Int32.toInt8 (Int8.toInt32 (Int32.toInt8 (ushr x (nI d)))))
def put4 (x : Int32) (q : Nat × (Nat → Int32)) : Nat × (Nat → Int32) := (q.1 + 4, up (up (up (up q.2 q.1 (byI x 24)) (q.1 + 1) (byI x 16)) (q.1 + 2) (byI x 8)) (q.1 + 3) (byI x 0))
def fed (a b c d e : Int32) (q : Nat × (Nat → Int32)) : Nat × (Nat → Int32) := put4 e (put4 d (put4 c (put4 b (put4 a q))))
def rFeed (o : Ob) : Int32 := if zM o + 20 ≤ 2000 then nI (zM o + 20) else -1
def nFeed (o : Ob) (a b c d e : Int32) : Ob := if zM o + 20 ≤ 2000 then wM o (zM o + 20) (fed a b c d e (zM o, zX o)).2 else o
theorem put4_ok {x : Int32} {q : Nat × (Nat → Int32)} (h : ∀ k, k < q.1 → byOK (q.2 k)) : ∀ k, k < (put4 x q).1 → byOK ((put4 x q).2 k) := fun k hk => by
  have hk2 : k < q.1 + 4 := hk
  have hb : ∀ d, byOK (byI x d) := fun d => ⟨_, rfl⟩
  show byOK (up (up (up (up q.2 q.1 (byI x 24)) (q.1 + 1) (byI x 16)) (q.1 + 2) (byI x 8)) (q.1 + 3) (byI x 0) k)
  by_cases e3 : k = q.1 + 3
  · rw [e3, up_s]; exact hb _
  · rw [up_n _ _ e3]
    by_cases e2 : k = q.1 + 2
    · rw [e2, up_s]; exact hb _
    · rw [up_n _ _ e2]
      by_cases e1 : k = q.1 + 1
      · rw [e1, up_s]; exact hb _
      · rw [up_n _ _ e1]
        by_cases e0 : k = q.1
        · rw [e0, up_s]; exact hb _
        · rw [up_n _ _ e0]; exact h k (by omega)
theorem nFeed_ok {o : Ob} (h : OkO o) (a b c d e : Int32) : OkO (nFeed o a b c d e) := by
  unfold nFeed
  split
  · obtain ⟨a1, a2, a3, a4, a5, a6, a7, a8⟩ := h
    refine ⟨a1, a2, a3, a4, a5, a6, ?_, ?_⟩
    · show zM o + 20 ≤ 2000
      assumption
    · exact put4_ok (put4_ok (put4_ok (put4_ok (put4_ok (q := (zM o, zX o)) a8))))
  · exact h
theorem s_put_e {μ : Mem} {x : Int32} {m : Nat} {X : Nat → Int32} (h1 : mI μ 10 0 1 = nI m) (h2 : ∀ k, k < m → mI μ 11 0 k = X k) (hm : m + 4 ≤ 2000) : ∃ μ', s_putOnTape x μ = some ((), μ') ∧ mI μ' 10 0 1 = nI (put4 x (m, X)).1 ∧ ∀ k, k < (put4 x (m, X)).1 → mI μ' 11 0 k = (put4 x (m, X)).2 k := by
  unfold s_putOnTape s_putOnTape_L3
  rw [show 60000 = 59995 + 1 + 1 + 1 + 1 + 1 from rfl, fixN_s]
  have step : ∀ (self : Int32 → Mem → Option (Unit × Mem)) (μ : Mem) (d m : Nat), mI μ 10 0 1 = nI m → m < 2000 → d < 2147483648 → s_putOnTape_B3 x self (nI d) μ = self (nI d + (-8 : Int32)) (stI (stI μ 11 0 m (byI x d)) 10 0 1 (nI (m + 1))) := fun self μ d m h hm hd => by
    unfold s_putOnTape_B3
    have h2 : mI (stI μ 11 0 m (byI x d)) 10 0 1 = nI m := h
    unfold byI at h2
    simp (disch := omega) only [nI_ltF, h, nI_leF, inB_nI, cl_nI, ↓mb_e, h2, nI_add, ↓reduceIte]
    rfl
  have q1 : mI (stI (stI μ 11 0 m (byI x 24)) 10 0 1 (nI (m + 1))) 10 0 1 = nI (m + 1) := by rw [mI_stI, if_pos ⟨rfl, rfl, rfl⟩]
  rw [step _ _ 24 m h1 (by omega) (by omega), show nI 24 + (-8 : Int32) = nI 16 by decide, fixN_s, step _ _ 16 (m + 1) q1 (by omega) (by omega)]
  generalize hμ2 : stI (stI (stI (stI μ 11 0 m (byI x 24)) 10 0 1 (nI (m + 1))) 11 0 (m + 1) (byI x 16)) 10 0 1 (nI (m + 1 + 1)) = μ2
  have q2 : mI μ2 10 0 1 = nI (m + 2) := by rw [← hμ2, mI_stI, if_pos ⟨rfl, rfl, rfl⟩]
  rw [show nI 16 + (-8 : Int32) = nI 8 by decide, fixN_s, step _ _ 8 (m + 2) q2 (by omega) (by omega)]
  have q3 : mI (stI (stI μ2 11 0 (m + 2) (byI x 8)) 10 0 1 (nI (m + 2 + 1))) 10 0 1 = nI (m + 3) := by rw [mI_stI, if_pos ⟨rfl, rfl, rfl⟩]
  rw [show nI 8 + (-8 : Int32) = nI 0 by decide, fixN_s, step _ _ 0 (m + 3) q3 (by omega) (by omega), fixN_s]
  unfold s_putOnTape_B3
  rw [if_pos (show nI 0 + (-8 : Int32) < nI 0 by decide)]
  refine ⟨_, rfl, by rw [mI_stI, if_pos ⟨rfl, rfl, rfl⟩]; rfl, fun k hk => ?_⟩
  have hk2 : k < m + 4 := hk
  show _ = up (up (up (up X m (byI x 24)) (m + 1) (byI x 16)) (m + 2) (byI x 8)) (m + 3) (byI x 0) k
  rw [← hμ2]
  by_cases e3 : k = m + 3
  · subst e3; rw [up_s]; simp [mI_stI]
  · rw [up_n _ _ e3]
    by_cases e2 : k = m + 2
    · subst e2; rw [up_s]; simp [mI_stI]
    · rw [up_n _ _ e2]
      by_cases e1 : k = m + 1
      · subst e1; rw [up_s]; simp [mI_stI]
      · rw [up_n _ _ e1]
        by_cases e0 : k = m
        · subst e0; rw [up_s]; simp [mI_stI]
        · rw [up_n _ _ e0]
          simp only [mI_stI, Nat.reduceEqDiff, false_and, e3, e2, e1, e0, and_false, ↓reduceIte]
          exact h2 k (by omega)
theorem s_feed_e {μ : Mem} {p : Nat} {o : Ob} (ok : OkO o) (h : InvC μ p o) (a b c d e : Int32) : ∃ μ', s_feed a b c d e μ = some (rFeed o, μ') ∧ InvC μ' p (nFeed o a b c d e) := by
  have m2 := ok.2.2.2.2.2.2.1
  have t := h.2.2.2.2.1
  unfold rFeed nFeed
  by_cases cc : zM o + 20 ≤ 2000
  · rw [if_pos cc, if_pos cc]
    obtain ⟨μ1, e1, a1, b1⟩ := s_put_e (x := a) t.1 t.2 (by omega)
    obtain ⟨μ2, e2, a2, b2⟩ := s_put_e (x := b) a1 b1 (show zM o + 4 + 4 ≤ 2000 by omega)
    obtain ⟨μ3, e3, a3, b3⟩ := s_put_e (x := c) a2 b2 (show zM o + 4 + 4 + 4 ≤ 2000 by omega)
    obtain ⟨μ4, e4, a4, b4⟩ := s_put_e (x := d) a3 b3 (show zM o + 4 + 4 + 4 + 4 ≤ 2000 by omega)
    obtain ⟨μ5, e5, a5, b5⟩ := s_put_e (x := e) a4 b4 (show zM o + 4 + 4 + 4 + 4 + 4 ≤ 2000 by omega)
    have ee : s_feed a b c d e μ = some (nI (zM o + 20), μ5) := by
      unfold s_feed
      simp (disch := omega) only [t.1, nI_add, nI_leT, ↓ob_eq e1, ↓ob_eq e2, ↓ob_eq e3, ↓ob_eq e4, ↓ob_eq e5, a5, ↓reduceIte]
      rfl
    refine ⟨μ5, ee, h.tape ?_ a5 b5⟩
    have := f_s_feed ee
    exact this
  · rw [if_neg cc, if_neg cc]
    refine ⟨μ, ?_, h⟩
    unfold s_feed
    simp (disch := omega) only [t.1, nI_add, nI_leF, ↓reduceIte]
/-! count -/
noncomputable def qCount (o : Ob) (x : Int32) : Int32 :=
  if x = nI 0 then nI (pLg (zP o)) else if x = nI 1 then nI (pFd (zP o)) else if x = nI 2 then nI (pNo (zP o)) else if x = nI 3 then zS o 31 else if x = nI 4 then zS o 32 else if x = nI 5 then zS o 30 else if x = nI 6 then flI (zP o) (zS o) else if x = nI 7 then sumI (pFd (zP o)) (flow (zP o) (zS o)) else if x = nI 8 then nI (zM o) else if x = nI 9 then nI (zN o) else if x = nI 10 then nI (tN (zT o)) else if x = nI 11 then nI (cntB 3 (zB o)) else if x = nI 12 then grAll (zP o) (zS o) else if x = nI 13 then bitI 24 (canS (zP o) (zS o)) else -1
theorem s_slots_e {μ : Mem} {P : Pl} {b : Nat → Bool} {V : Nat → Nat → Int32} (h : SlotC μ P b V) : s_slotsThatHold μ = some (nI (cntB 3 b), μ) := by
  refine fixN_up (fun i (self : Int32 → Int32 → Mem → Option (Int32 × Mem)) => self (nI (cntB i b)) (nI i) μ = some (nI (cntB 3 b), μ)) 3 ?_ ?_ 60000 0 (by omega) (by omega)
  · intro i self hi ih
    have h1 := (h i hi).1
    rw [cntB_s] at ih
    unfold s_slotsThatHold_B4
    cases c : b i with
    | false =>
      rw [c] at h1 ih
      simp (disch := omega) only [nI_leF, inB_nI, cl_nI, h1, show b01I false = nI 0 from rfl, nI_add, ↓reduceIte]
      exact ih
    | true =>
      rw [c] at h1 ih
      simp (disch := omega) only [nI_leF, inB_nI, cl_nI, h1, show b01I true = nI 1 from rfl, nI_10, nI_add, ↓reduceIte]
      exact ih
  · intro self
    unfold s_slotsThatHold_B4
    simp (disch := omega) only [nI_leT, ↓reduceIte]
theorem s_count_e {μ : Mem} {p : Nat} {o : Ob} (ok : OkO o) (h : InvC μ p o) (x : Int32) : s_count x μ = some (qCount o x, μ) := by
  obtain ⟨hk, hS, hN, -⟩ := ok
  obtain ⟨hc, hr⟩ := h
  have hp2 := hc.p2
  obtain ⟨⟨la, -, -, a3, -⟩, b, t, d, e⟩ := hr
  have e7 := s_flowAll_e hk hc
  have e11 := s_slots_e b
  have e12 := wo_grownOfAll_e hk hc.wo
  have e13 := s_canBe_e hk hS hc
  have ef : (if mI μ 32 0 0 = nI 0 then some (nI 0, μ) else some (nI 1, μ)) = some (flI (zP o) (zS o), μ) := by
    rw [hc.wa.fl]
    by_cases c : wFl (zP o) (zS o)
    · rw [flI_t c, if_neg (by rw [nI_10]; exact id)]
    · rw [flI_f c, if_pos rfl]
  unfold s_count qCount
  simp only [hc.pn, hp2, hc.wo.pl.lg, hc.wo.pl.fd, hc.wo.pl.no, hc.wo.st.da, hc.wo.st.pd, hc.wo.st.sp, ef, ↓ob_eq e7, d.1, a3, t.1, ↓ob_eq e11, ↓ob_eq e12, ↓ob_eq e13, ↓reduceIte]
  by_cases c0 : x = nI 0
  · rw [if_pos c0, if_pos c0]
  rw [if_neg c0, if_neg c0]
  by_cases c1 : x = nI 1
  · rw [if_pos c1, if_pos c1]
  rw [if_neg c1, if_neg c1]
  by_cases c2 : x = nI 2
  · rw [if_pos c2, if_pos c2]
  rw [if_neg c2, if_neg c2]
  by_cases c3 : x = nI 3
  · rw [if_pos c3, if_pos c3]
  rw [if_neg c3, if_neg c3]
  by_cases c4 : x = nI 4
  · rw [if_pos c4, if_pos c4]
  rw [if_neg c4, if_neg c4]
  by_cases c5 : x = nI 5
  · rw [if_pos c5, if_pos c5]
  rw [if_neg c5, if_neg c5]
  by_cases c6 : x = nI 6
  · rw [if_pos c6, if_pos c6]
  rw [if_neg c6, if_neg c6]
  by_cases c7 : x = nI 7
  · rw [if_pos c7, if_pos c7]
  rw [if_neg c7, if_neg c7]
  by_cases c8 : x = nI 8
  · rw [if_pos c8, if_pos c8]
  rw [if_neg c8, if_neg c8]
  by_cases c9 : x = nI 9
  · rw [if_pos c9, if_pos c9]
  rw [if_neg c9, if_neg c9]
  by_cases c10 : x = nI 10
  · rw [if_pos c10, if_pos c10]
  rw [if_neg c10, if_neg c10]
  by_cases c11 : x = nI 11
  · rw [if_pos c11, if_pos c11]
  rw [if_neg c11, if_neg c11]
  by_cases c12 : x = nI 12
  · rw [if_pos c12, if_pos c12]
  rw [if_neg c12, if_neg c12]
  by_cases c13 : x = nI 13
  · rw [if_pos c13, if_pos c13]
  rw [if_neg c13, if_neg c13]
theorem s_place_e {μ : Mem} {p : Nat} {o : Ob} (h : InvC μ p o) : s_place μ = some (zE o, μ) := by
  unfold s_place
  rw [h.2.2.2.2.2]

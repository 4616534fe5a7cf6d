/-! the law: its cases and its loop (printed by program) -/
abbrev lq (q : Nat) : List (Nat × V) := [(0, vr 1 0), (1, vr 10 0), (2, vr 55 0), (3, vi (nI q))]
def chA (pc j : Nat) : Bool := insOK 300 pc (.aload_n 0, 0, 0, 0, 0) && (insOK 300 (pc + 1) (.iload_n 3, 3, 0, 0, 0) && (insOK 300 (pc + 2) (.iconst (j : Int), 0, 0, 0, 0) && (insOK 300 (pc + 3) (.iadd, 0, 0, 0, 0) && (insOK 300 (pc + 4) (.iaload, 0, 0, 0, 0) && decide (Int32.ofInt (j : Int) = nI j)))))
def chB (pc : Nat) : Bool := insOK 300 pc (.ifCond .eq 7, pc + 7, 0, 0, 0) && (insOK 300 (pc + 3) (.iconst 1, 0, 0, 0, 0) && (insOK 300 (pc + 4) (.goto 4, pc + 8, 0, 0, 0) && insOK 300 (pc + 7) (.iconst 0, 0, 0, 0, 0)))
def aOK : Nat → List (Nat × Bool) → Bool
  | _, [] => true
  | pc, (j, true) :: t => chA pc j && (chB (pc + 5) && aOK (pc + 5 + 8) t)
  | pc, (j, false) :: t => chA pc j && aOK (pc + 5) t
def aLen : List (Nat × Bool) → Nat
  | [] => 0
  | (_, true) :: t => 5 + 8 + aLen t
  | (_, false) :: t => 5 + aLen t
def aVl (xs : Nat → Int32) (q : Nat) : Nat × Bool → V
  | (j, true) => vi (b01I (!decide (xs (q + j) = 0)))
  | (j, false) => vi (xs (q + j))
section LawCases
variable {p : Program} {l : Launch} {e : Env} {R : Room} {s : State} {m : MethodId} {args : Array Value} {below : List Frame} {meth meth0 : Method} {c : Code} {G : GC} {Z : State → Prop} {md pc : Nat} {ls : List (Nat × V)} {st As : List V} {μ : Mem} {nc ns : Nat} {Q' : Option V → Mem → Prop}
theorem xl_arg (C : Cx G 300 p R s m args meth0 c) {L : Nat} {xs : Nat → Int32} (X : Sx G s L xs) (hL : L ≤ 3072) {q j : Nat} (hk : chA pc j = true) (hq : q + j < L) (kk : Wlw p l e R s m args below meth c G Z md (pc + 5) (lq q) (vi (xs (q + j)) :: st) μ nc ns) : Wlw p l e R s m args below meth c G Z md pc (lq q) st μ nc ns := by
  unfold chA at hk
  simp only [Bool.and_eq_true, decide_eq_true_eq] at hk
  obtain ⟨h1, h2, h3, h4, h5, h6⟩ := hk
  refine xl_aload_n C (i := 0) (r := 1) (j := 0) (ok_dec h1 (fun _ _ _ _ z => by cases z)) rfl ?_
  refine xl_iload_n C (i := 3) (x := nI q) (ok_dec h2 (fun _ _ _ _ z => by cases z)) rfl ?_
  refine xl_iconst C (ok_dec h3 (fun _ _ _ _ z => by cases z)) ?_
  refine xl_iadd C (ok_dec h4 (fun _ _ _ _ z => by cases z)) ?_
  rw [h6, nI_add]
  refine xl_siald C X (ok_dec h5 (fun _ _ _ _ z => by cases z)) (vp_in_nI hq (by omega)) ?_
  rw [nI_clamp (by omega)]
  exact kk
theorem xl_bool (C : Cx G 300 p R s m args meth0 c) {v : Int32} (hk : chB pc = true) (kk : Wlw p l e R s m args below meth c G Z md (pc + 8) ls (vi (b01I (!decide (v = 0))) :: st) μ nc ns) : Wlw p l e R s m args below meth c G Z md pc ls (vi v :: st) μ nc ns := by
  unfold chB at hk
  simp only [Bool.and_eq_true] at hk
  obtain ⟨h1, h2, h3, h4⟩ := hk
  refine xl_if_eq C (t := pc + 7) (ok_dec h1 (fun _ _ _ _ z => by cases z)) (by omega) (fun z => ?_) (fun z => ?_)
  · have e : b01I (!decide (v = 0)) = Int32.ofInt 0 := by rw [decide_eq_true z]; rfl
    rw [e] at kk
    exact xl_iconst C (ok_dec h4 (fun _ _ _ _ z => by cases z)) kk
  · have e : b01I (!decide (v = 0)) = Int32.ofInt 1 := by rw [decide_eq_false z]; rfl
    rw [e] at kk
    refine xl_iconst C (ok_dec h2 (fun _ _ _ _ z => by cases z)) ?_
    exact xl_goto C (t := pc + 8) (ok_dec h3 (fun _ _ _ _ z => by cases z)) (by omega) kk
theorem xl_args (C : Cx G 300 p R s m args meth0 c) {L : Nat} {xs : Nat → Int32} (X : Sx G s L xs) (hL : L ≤ 3072) {q : Nat} (t : List (Nat × Bool)) : ∀ (pc : Nat) (st : List V), aOK pc t = true → (∀ a ∈ t, q + a.1 < L) → Wlw p l e R s m args below meth c G Z md (pc + aLen t) (lq q) ((t.map (aVl xs q)).reverse ++ st) μ nc ns → Wlw p l e R s m args below meth c G Z md pc (lq q) st μ nc ns := by
  induction t with
  | nil =>
    intro pc st _ _ kk
    have e : pc + aLen [] = pc := rfl
    have e2 : (([] : List (Nat × Bool)).map (aVl xs q)).reverse ++ st = st := rfl
    rw [e, e2] at kk
    exact kk
  | cons x t ih =>
    intro pc st h hq kk
    obtain ⟨j, b⟩ := x
    cases b with
    | true =>
      unfold aOK at h
      rw [Bool.and_eq_true, Bool.and_eq_true] at h
      obtain ⟨h1, h2, h3⟩ := h
      refine xl_arg C X hL h1 (hq (j, true) List.mem_cons_self) ?_
      refine xl_bool C h2 ?_
      refine ih _ _ h3 (fun a ha => hq a (List.mem_cons_of_mem _ ha)) ?_
      have e : pc + aLen ((j, true) :: t) = pc + 5 + 8 + aLen t := by
        show pc + (5 + 8 + aLen t) = _
        omega
      rw [e, List.map_cons, List.reverse_cons, List.append_assoc] at kk
      exact kk
    | false =>
      unfold aOK at h
      rw [Bool.and_eq_true] at h
      obtain ⟨h1, h3⟩ := h
      refine xl_arg C X hL h1 (hq (j, false) List.mem_cons_self) ?_
      refine ih _ _ h3 (fun a ha => hq a (List.mem_cons_of_mem _ ha)) ?_
      have e : pc + aLen ((j, false) :: t) = pc + 5 + aLen t := by
        show pc + (5 + aLen t) = _
        omega
      rw [e, List.map_cons, List.reverse_cons, List.append_assoc] at kk
      exact kk
theorem xl_call8 (C : Cx G 300 p R s m args meth0 c) {n a cc d : Nat} (hk : insOK 300 pc (.invokevirtual n, a, 108, cc, d) = true) (hi : 0 < mC μ 10) (hn : As.length = cc) (hA : ((vr 10 0 :: As).map catV).sum ≤ d) (hst : (st.map catV).sum ≤ 8) (hR : nc ≤ R.cells ∧ ns ≤ R.slots)
    (hc : Wp md md a 0 (largs 0 (vr 10 0 :: As)) [] μ 0 0 Q') (kk : ∀ r μ', Q' r μ' → mC μ 0 ≤ mC μ' 0 → Wlw p l e R s m args below meth c G Z md (pc + 3) ls (r.toList ++ st) μ' nc ns) : Wlw p l e R s m args below meth c G Z md pc ls (As.reverse ++ vr 10 0 :: st) μ nc ns := by
  have ho := ok_own hk
  have hd := ok_dec hk (fun _ _ _ _ z => by cases z)
  have hx0 := hk
  unfold insOK at hx0
  rw [Bool.and_eq_true, Bool.and_eq_true] at hx0
  have hx : ((mlk (mOwn 300)).any (fun e => e.1 == n && (e.2.1 == a && e.2.2.1 == 1)) && (virtT.any (fun e => e.1 == a) && (callOK 300 a cc d && (mAc a == 0 && (mAs a == 0 && (mOwn a + 100 == 108 && decide (mOwn a < 10))))))) = true := hx0.2.2
  simp only [Bool.and_eq_true, decide_eq_true_eq, beq_iff_eq] at hx
  obtain ⟨hl, hv, hcl, ha1, ha2, hb, h10⟩ := hx
  obtain ⟨hm, rfl, rfl, hfr, hlo⟩ := call_mOK hcl
  obtain ⟨e, he, hp⟩ := any_of hv
  have hp := eq_of_beq hp
  subst hp
  have hl' : (mlk (mOwn 300)).any (fun x => x.1 == n && (x.2.1 == e.1 && x.2.2.1 == 1)) = true := by
    obtain ⟨x, hx, hp⟩ := any_of hl
    exact List.any_eq_true.mpr ⟨x, hx, by simpa using hp⟩
  have h8 : rkd 10 = 8 := rfl
  refine xl_virtual C (k2 := e.1) hd hm (ml_of ho hl' (by decide)) ⟨in_G (virt_ok e he).1 rfl, lwG_mem (List.mem_of_getElem? (virt_ok e he).2) rfl⟩ (by omega) h10 hi hn hfr hlo (by rw [ha1]; exact hR.1) (by rw [ha2]; exact hR.2) hst hA hc (fun r μ' hq hm => ?_)
  rw [ha1, ha2]
  exact kk r μ' hq hm
theorem xl_call9 (C : Cx G 300 p R s m args meth0 c) {n a cc d : Nat} (hk : insOK 300 pc (.invokevirtual n, a, 109, cc, d) = true) (hi : 0 < mC μ 55) (hn : As.length = cc) (hA : ((vr 55 0 :: As).map catV).sum ≤ d) (hst : (st.map catV).sum ≤ 8) (hR : nc ≤ R.cells ∧ ns ≤ R.slots)
    (hc : Wp md md a 0 (largs 0 (vr 55 0 :: As)) [] μ 0 0 Q') (kk : ∀ r μ', Q' r μ' → mC μ 0 ≤ mC μ' 0 → Wlw p l e R s m args below meth c G Z md (pc + 3) ls (r.toList ++ st) μ' nc ns) : Wlw p l e R s m args below meth c G Z md pc ls (As.reverse ++ vr 55 0 :: st) μ nc ns := by
  have ho := ok_own hk
  have hd := ok_dec hk (fun _ _ _ _ z => by cases z)
  have hx0 := hk
  unfold insOK at hx0
  rw [Bool.and_eq_true, Bool.and_eq_true] at hx0
  have hx : ((mlk (mOwn 300)).any (fun e => e.1 == n && (e.2.1 == a && e.2.2.1 == 1)) && (virtT.any (fun e => e.1 == a) && (callOK 300 a cc d && (mAc a == 0 && (mAs a == 0 && (mOwn a + 100 == 109 && decide (mOwn a < 10))))))) = true := hx0.2.2
  simp only [Bool.and_eq_true, decide_eq_true_eq, beq_iff_eq] at hx
  obtain ⟨hl, hv, hcl, ha1, ha2, hb, h10⟩ := hx
  obtain ⟨hm, rfl, rfl, hfr, hlo⟩ := call_mOK hcl
  obtain ⟨e, he, hp⟩ := any_of hv
  have hp := eq_of_beq hp
  subst hp
  have hl' : (mlk (mOwn 300)).any (fun x => x.1 == n && (x.2.1 == e.1 && x.2.2.1 == 1)) = true := by
    obtain ⟨x, hx, hp⟩ := any_of hl
    exact List.any_eq_true.mpr ⟨x, hx, by simpa using hp⟩
  have h9 : rkd 55 = 9 := rfl
  refine xl_virtual C (k2 := e.1) hd hm (ml_of ho hl' (by decide)) ⟨in_G (virt_ok e he).1 rfl, lwG_mem (List.mem_of_getElem? (virt_ok e he).2) rfl⟩ (by omega) h10 hi hn hfr hlo (by rw [ha1]; exact hR.1) (by rw [ha2]; exact hR.2) hst hA hc (fun r μ' hq hm => ?_)
  rw [ha1, ha2]
  exact kk r μ' hq hm
def caseOK (pc : Nat) (t : List (Nat × Bool)) (n1 a1 d1 n2 a2 d2 : Nat) (off : Int) : Bool :=
  insOK 300 pc (.aload_n 1, 1, 0, 0, 0) && (aOK (pc + 1) t && (insOK 300 (pc + 1 + aLen t) (.invokevirtual n1, a1, 108, t.length, d1) && (insOK 300 (pc + 1 + aLen t + 3) (.aload_n 2, 2, 0, 0, 0) && (aOK (pc + 1 + aLen t + 3 + 1) t && (insOK 300 (pc + 1 + aLen t + 3 + 1 + aLen t) (.invokevirtual n2, a2, 109, t.length, d2) && (insOK 300 (pc + 1 + aLen t + 3 + 1 + aLen t + 3) (.if_icmp .eq off, 1212, 0, 0, 0) && (decide (t.length + 1 ≤ d1) && (decide (t.length + 1 ≤ d2) && (t.all (fun a => decide (a.1 ≤ 5)) && decide (((pc + 1 + aLen t + 3 + 1 + aLen t + 3 : Nat) : Int) + off = ((1212 : Nat) : Int)))))))))))
theorem aVl_cat (xs : Nat → Int32) (q : Nat) : ∀ t : List (Nat × Bool), ((t.map (aVl xs q)).map catV).sum = t.length
  | [] => rfl
  | (j, true) :: t => by
    rw [List.map_cons, List.map_cons, List.sum_cons, aVl_cat xs q t, List.length_cons, show catV (aVl xs q (j, true)) = 1 from rfl]
    omega
  | (j, false) :: t => by
    rw [List.map_cons, List.map_cons, List.sum_cons, aVl_cat xs q t, List.length_cons, show catV (aVl xs q (j, false)) = 1 from rfl]
    omega
theorem xl_case (C : Cx G 300 p R s m args meth0 c) {L : Nat} {xs : Nat → Int32} (X : Sx G s L xs) (hL : L ≤ 3072) {q : Nat} {o : Ob} (hq : q + 6 ≤ L) (hR : nc ≤ R.cells ∧ ns ≤ R.slots) {t : List (Nat × Bool)} {n1 a1 d1 n2 a2 d2 : Nat} {off : Int} (hk : caseOK pc t n1 a1 d1 n2 a2 d2 off = true) {fs fm : Mem → Option (Int32 × Mem)} (tw : Twin fs fm)
    (hs : ∀ μ z, fs μ = some z → CC μ → Wp 2 2 a1 0 (largs 0 (vr 10 0 :: t.map (aVl xs q))) [] μ 0 0 (RIc z)) (hm : ∀ μ z, fm μ = some z → CM μ → Wp 2 2 a2 0 (largs 0 (vr 55 0 :: t.map (aVl xs q))) [] μ 0 0 (RIm z))
    (K : Kst μ o) (cm : CM μ) (n0 : 374 ≤ mC μ 0) (kk : ∀ μ' o', Kst μ' o' → CM μ' → 374 ≤ mC μ' 0 → Wlw p l e R s m args below meth c G Z 2 1212 (lq q) [] μ' nc ns) : Wlw p l e R s m args below meth c G Z 2 pc (lq q) [] μ nc ns := by
  unfold caseOK at hk
  simp only [Bool.and_eq_true, decide_eq_true_eq] at hk
  obtain ⟨h1, h2, h3, h4, h5, h6, h7, h8, h9, h10, h11⟩ := hk
  have ht : ∀ a ∈ t, q + a.1 < L := fun a ha => by
    have := of_decide_eq_true (List.all_eq_true.mp h10 a ha)
    omega
  obtain ⟨a, μ1, μ2, o', e1, e2, K2⟩ := tw μ o K
  have c10 : cap 10 = 1 := rfl
  have c55 : cap 55 = 1 := rfl
  have lq0 : ∀ As : List V, As.reverse ++ [vr 10 0] = As.reverse ++ vr 10 0 :: [] := fun _ => rfl
  refine xl_aload_n C (i := 1) (r := 10) (j := 0) (ok_dec h1 (fun _ _ _ _ z => by cases z)) rfl ?_
  refine xl_args C X hL t _ _ h2 ht ?_
  refine xl_call8 C h3 (by rw [cm 10 (by omega) (by omega)]; omega) (by rw [List.length_map]) (by rw [List.map_cons, List.sum_cons, aVl_cat, show catV (vr 10 0) = 1 from rfl]; omega) (by decide) hR (hs μ _ e1 cm.cc) (fun r ν hqr hmono => ?_)
  obtain ⟨rfl, ee, hC1⟩ := hqr
  have ee : μ1 = ν := ee.symm
  subst ee
  have cm1 : CM μ1 := hC1.cm (show 374 ≤ mC μ1 0 by omega)
  show Wlw p l e R s m args below meth c G Z 2 _ (lq q) [vi a] μ1 nc ns
  refine xl_aload_n C (i := 2) (r := 55) (j := 0) (ok_dec h4 (fun _ _ _ _ z => by cases z)) rfl ?_
  refine xl_args C X hL t _ _ h5 ht ?_
  refine xl_call9 C h6 (by rw [cm1 55 (by omega) (by omega)]; omega) (by rw [List.length_map]) (by rw [List.map_cons, List.sum_cons, aVl_cat, show catV (vr 55 0) = 1 from rfl]; omega) (by show (([vi a] : List V).map catV).sum ≤ 8; rw [List.map_cons, List.sum_cons]; show 1 + 0 ≤ 8; omega) hR (hm μ1 _ e2 cm1) (fun r ν hqr hmono2 => ?_)
  obtain ⟨rfl, ee, hC2⟩ := hqr
  have ee : μ2 = ν := ee.symm
  subst ee
  have cm2 : CM μ2 := hC2
  show Wlw p l e R s m args below meth c G Z 2 _ (lq q) [vi a, vi a] μ2 nc ns
  exact xl_icmp_eq C (t := 1212) (ok_dec h7 (fun _ _ _ _ z => by cases z)) h11 (fun _ => kk μ2 o' K2 cm2 (by omega)) (fun z => absurd rfl z)
end LawCases

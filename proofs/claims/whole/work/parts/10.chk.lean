/-! the check of one instruction, and what it gives -/
def callOK (k a c d : Nat) : Bool := decide (a < 300) && (c == mArg a && (d == mLoc a && (decide (mFr a + 1 ≤ mFr k) && decide (8 + (mLoc a + 11) + mLo a ≤ mLo k))))
def insOK (k pc : Nat) (i : Ins) : Bool := decide (mOwn k < 18) && match i with
  | (i, a, b, c, d) => (match decode (mB k) pc with
    | .ok (j, n) => decide (j = i) && (match i with | .tableswitch .. => true | _ => n == ilen i)
    | _ => false) && match i with
    | .getfield n => (flk (mOwn k)).any (fun e => e.1 == n && (e.2.1 == a && e.2.2.1 == b)) && (c == kty (clTy a b) && decide (c < 3))
    | .putfield n => (flk (mOwn k)).any (fun e => e.1 == n && (e.2.1 == a && e.2.2.1 == b)) && ((match c with | 0 => decide (clTy a b = .int) | 1 => decide (clTy a b = .long) | 2 => decide (kty (clTy a b) = 2) | _ => decide (clTy a b = .boolean)) && (!(clT a b).2.2.2 || (decide ((mY k).name = "<init>") && a == mOwn k)))
    | .if_icmp n m => decide ((pc : Int) + m = (a : Int))
    | .ifCond n m => decide ((pc : Int) + m = (a : Int))
    | .goto n => decide ((pc : Int) + n = (a : Int))
    | .tableswitch dflt lo hi offs => (dflt :: offs.toList).all (fun t => decide (0 ≤ (pc : Int) + t)) && decide ((offs.size : Int) = hi - lo + 1)
    | .istore_n n => decide ((n : Nat) = a) && decide ((n : Nat) + 0 < mLoc k)
    | .astore_n n => decide ((n : Nat) = a) && decide ((n : Nat) + 0 < mLoc k)
    | .lstore_n n => decide ((n : Nat) = a) && decide ((n : Nat) + 1 < mLoc k)
    | .iload_n n => decide ((n : Nat) = a)
    | .lload_n n => decide ((n : Nat) = a)
    | .aload_n n => decide ((n : Nat) = a)
    | .istore n => decide ((n : Nat) = a) && decide ((n : Nat) + 0 < mLoc k)
    | .astore n => decide ((n : Nat) = a) && decide ((n : Nat) + 0 < mLoc k)
    | .lstore n => decide ((n : Nat) = a) && decide ((n : Nat) + 1 < mLoc k)
    | .iload n => decide ((n : Nat) = a)
    | .lload n => decide ((n : Nat) = a)
    | .aload n => decide ((n : Nat) = a)
    | .iinc n m => decide (n = a) && decide (n < mLoc k)
    | .bipush n => decide ((Int8.ofInt n).toInt32 = Int32.ofInt n)
    | .sipush n => decide ((Int16.ofInt n).toInt32 = Int32.ofInt n)
    | .ldc n => match b with | 0 => (cik (mOwn k)).any (fun e => e.1 == n && e.2.1 == a) | _ => mOwn k == 5 && (n == idxS a && decide (a < 2))
    | .ldc_w n => (cik (mOwn k)).any (fun e => e.1 == n && e.2.1 == a)
    | .ldc2_w n => (clg (mOwn k)).any (fun e => e.1 == n && e.2.1 == a)
    | .invokestatic n => match b with | 0 => (mlk (mOwn k)).any (fun e => e.1 == n && (e.2.1 == a && e.2.2.1 == 0)) && (statT.any (fun e => e.1 == a) && (callOK k a c d && (mAc a == 0 && mAs a == 0))) | _ => (alk (mOwn k)).any (fun e => e.1 == n) && (decide (1 ≤ mFr k) && decide (26 ≤ mLo k))
    | .invokevirtual n => match b with | 6 => (slk (mOwn k)).any (fun e => e.1 == n && e.2.1 == 6) && (mOwn k == 5 && (decide (5 ≤ mFr k) && decide (100 ≤ mLo k))) | 7 => (slk (mOwn k)).any (fun e => e.1 == n && e.2.1 == 7) && (mOwn k == 5 && (decide (5 ≤ mFr k) && decide (100 ≤ mLo k))) | _ => (mlk (mOwn k)).any (fun e => e.1 == n && (e.2.1 == a && e.2.2.1 == 1)) && (virtT.any (fun e => e.1 == a) && (callOK k a c d && (mAc a == 0 && (mAs a == 0 && (mOwn a + 100 == b && decide (mOwn a < 10))))))
    | .invokespecial n => match b with | 4 => (olk (mOwn k)).any (fun e => e.1 == n) && (decide (1 ≤ mFr k) && decide (20 ≤ mLo k)) | _ => (mlk (mOwn k)).any (fun e => e.1 == n && (e.2.1 == a && (e.2.2.1 == b && (b == 2 || b == 3)))) && (iniT.any (fun e => e.1 == a) && callOK k a c d)
    | .new n => (clk (mOwn k)).any (fun e => e.1 == n && e.2.1 == rkd a) && decide (rkd a < 10)
    | .newarray n => decide (10 ≤ rkd a) && (decide (rkd a ≤ 13) && decide (newarray.typeOf n = ety (rkd a - 10)))
    | .anewarray n => (clk (mOwn k)).any (fun e => e.1 == n && e.2.1 == 3) && decide (rkd a = 14)
    | .multianewarray n m => decide (m = 2) && ((clkM (mOwn k)).any (fun e => e.1 == n && e.2.1 == rkd b) && (decide (rkd a = 15 ∨ rkd a = 16) && (decide (rkd b + 5 = rkd a) && decide (rel a 0 = b))))
    | .ireturn => match a with | 0 => decide (mRet k = some .int) | _ => decide (mRet k = some .boolean)
    | .lreturn => decide (mRet k = some .long)
    | .return_ => decide (mRet k = none)
    | _ => true
theorem ok_dec {k pc : Nat} {i : Instr} {a b c d : Nat} (h : insOK k pc (i, a, b, c, d) = true) (hs : ∀ w x y z, i ≠ .tableswitch w x y z) : decode (mB k) pc = .ok (i, ilen i) := by
  unfold insOK at h
  simp only [Bool.and_eq_true] at h
  have h1 := h.2.1
  split at h1
  · rename_i j n hj
    simp only [Bool.and_eq_true, decide_eq_true_eq] at h1
    obtain ⟨e1, e2⟩ := h1
    subst e1
    have := eq_of_beq e2
    subst this
    exact hj
  · cases h1
theorem ok_own {k pc : Nat} {i : Ins} (h : insOK k pc i = true) : mOwn k < 18 := by
  unfold insOK at h
  simp only [Bool.and_eq_true, decide_eq_true_eq] at h
  exact h.1
theorem any_of {α : Type} {l : List α} {p : α → Bool} (h : l.any p = true) : ∃ e ∈ l, p e = true := by simpa using h
theorem in_G {w : Cond} {n : Nat} (h : tables_1[n]? = some w) (g : goodWord w = true) : w ∈ lwG := lwG_mem (List.mem_append_right _ (List.mem_of_getElem? h)) g
theorem call_mOK {k a c d : Nat} (h : callOK k a c d = true) : mOK a ∧ c = mArg a ∧ d = mLoc a ∧ mFr a + 1 ≤ mFr k ∧ 8 + (mLoc a + 11) + mLo a ≤ mLo k := by
  unfold callOK at h
  simp only [Bool.and_eq_true, decide_eq_true_eq, beq_iff_eq] at h
  obtain ⟨h1, h2, h3, h4, h5⟩ := h
  refine ⟨?_, h2, h3, h4, h5⟩
  have hm : ∃ e ∈ codeT, e.1 = a := by
    have : ∀ j, j < 300 → (codeT.getD j (0, 0, 0)).1 = j := by decide +kernel
    have hl : codeT.length = 300 := by decide +kernel
    refine ⟨codeT.getD a (0, 0, 0), ?_, this a h1⟩
    rw [List.getD_eq_getElem?_getD, List.getElem?_eq_getElem (by rw [hl]; exact h1)]
    exact List.getElem_mem _
  obtain ⟨e, he, rfl⟩ := hm
  obtain ⟨m1, m2, m3, m4⟩ := meth_ok e he
  exact ⟨m1, m2, lwG_mem (List.mem_append_right _ (codew_ok _ h1)) rfl, in_G (init_ok e he) rfl, m3, m4⟩
theorem fl_of {k n a b : Nat} (ho : mOwn k < 18) (h : (flk (mOwn k)).any (fun e => e.1 == n && (e.2.1 == a && e.2.2.1 == b)) = true) : flW k n a b := by
  obtain ⟨e, he, hp⟩ := any_of h
  simp only [Bool.and_eq_true, beq_iff_eq] at hp
  obtain ⟨rfl, rfl, rfl⟩ := hp
  obtain ⟨h1, h2, h3⟩ := flk_ok _ ho e he
  exact ⟨h1, h2, in_G h3 rfl⟩
theorem ml_of {k n a b : Nat} (ho : mOwn k < 18) (h : (mlk (mOwn k)).any (fun e => e.1 == n && (e.2.1 == a && e.2.2.1 == b)) = true) (h3 : b ≠ 3) : Cond.methodLink (oNm (mOwn k)) n (mY a) ∈ lwG := by
  obtain ⟨e, he, hp⟩ := any_of h
  simp only [Bool.and_eq_true, beq_iff_eq] at hp
  obtain ⟨rfl, rfl, rfl⟩ := hp
  have := mlk_ok _ ho e he
  rw [if_neg h3] at this
  exact in_G this rfl
theorem mn_of {k n a b : Nat} (ho : mOwn k < 18) (h : (mlk (mOwn k)).any (fun e => e.1 == n && (e.2.1 == a && e.2.2.1 == b)) = true) (h3 : b = 3) : Cond.methodLinkNest (oNm (mOwn k)) n (mY a) "SluiceLogs" ∈ nestW := by
  obtain ⟨e, he, hp⟩ := any_of h
  simp only [Bool.and_eq_true, beq_iff_eq] at hp
  obtain ⟨rfl, rfl, rfl⟩ := hp
  have := mlk_ok _ ho e he
  rw [if_pos h3] at this
  exact List.mem_filter.mpr ⟨List.mem_of_getElem? this, rfl⟩
theorem room_0 {k a nc ns : Nat} (h1 : mAc a = 0) (h2 : mAs a = 0) (h : nc ≤ mAc k ∧ ns ≤ mAs k) : nc + mAc a ≤ mAc k ∧ ns + mAs a ≤ mAs k := by rw [h1, h2]; exact h
theorem clT_own : ∀ c, c < 10 → ∀ j, j < clN c → (clT c j).1 = oNm c := by decide +kernel
theorem arrW {j : Nat} (h : j < 4) : Cond.arrayClass (ety j) ∈ lwG := by
  obtain ⟨h1, h2, h3, h4⟩ := arrc_ok
  rcases (show j = 0 ∨ j = 1 ∨ j = 2 ∨ j = 3 by omega) with rfl | rfl | rfl | rfl
  · exact in_G h1 rfl
  · exact in_G h2 rfl
  · exact in_G h3 rfl
  · exact in_G h4 rfl
theorem slk_of {k n q : Nat} (hx : ((slk (mOwn k)).any (fun e => e.1 == n && e.2.1 == q) && (mOwn k == 5 && (decide (5 ≤ mFr k) && decide (100 ≤ mLo k)))) = true) : ∃ e ∈ slk (mOwn k), (e.1 = n ∧ e.2.1 = q) ∧ mOwn k = 5 ∧ 5 ≤ mFr k ∧ 100 ≤ mLo k := by
  simp only [Bool.and_eq_true, decide_eq_true_eq, beq_iff_eq] at hx
  obtain ⟨e, he, hp⟩ := any_of hx.1
  simp only [Bool.and_eq_true, beq_iff_eq] at hp
  exact ⟨e, he, hp, hx.2⟩
theorem virt_case {md md' k pc n a b c d : Nat} {F : Kont} {Q : Option V → Mem → Prop} {ls : List (Nat × V)} {st : List V} {μ : Mem} {nc ns : Nat} (ho : mOwn k < 18) (hd : decode (mB k) pc = .ok (.invokevirtual n, 3))
    (hx : ((mlk (mOwn k)).any (fun e => e.1 == n && (e.2.1 == a && e.2.2.1 == 1)) && (virtT.any (fun e => e.1 == a) && (callOK k a c d && (mAc a == 0 && (mAs a == 0 && (mOwn a + 100 == b && decide (mOwn a < 10))))))) = true)
    (hq0 : nc ≤ mAc k ∧ ns ≤ mAs k) (hF : ∀ ls st μ nc ns, F (pc + 3) ls st μ nc ns → Wp md md' k (pc + 3) ls st μ nc ns Q)
    (h : popN c [] st fun As st => popR st fun r j st => rkd r + 100 = b ∧ j < mC μ r ∧ stOK st (vr r j :: As) d ∧ Wp md md a 0 (largs 0 (vr r j :: As)) [] μ 0 0 (fun r μ' => F (pc + 3) ls (r.toList ++ st) μ' nc ns)) : Wp md md' k pc ls st μ nc ns Q := by
  simp only [Bool.and_eq_true, decide_eq_true_eq, beq_iff_eq] at hx
  obtain ⟨hl, hv, hc, ha1, ha2, hb, h10⟩ := hx
  obtain ⟨hm, rfl, rfl, hfr, hlo⟩ := call_mOK hc
  obtain ⟨e, he, hp⟩ := any_of hv
  have hp := eq_of_beq hp
  subst hp
  have hnc := room_0 ha1 ha2 hq0
  obtain ⟨As, t, hn, rfl, h2⟩ := popN_of _ _ _ h
  rw [List.append_nil] at h2
  obtain ⟨r, j, t, rfl, g1, g2, ⟨g3, g4⟩, h3⟩ := popR_of h2
  have hl' : (mlk (mOwn k)).any (fun x => x.1 == n && (x.2.1 == e.1 && x.2.2.1 == 1)) = true := by
    obtain ⟨x, hx, hp⟩ := any_of hl
    exact List.any_eq_true.mpr ⟨x, hx, hp⟩
  refine w_virtual hd hm (ml_of ho hl' (by decide)) ⟨in_G (virt_ok e he).1 rfl, lwG_mem (List.mem_of_getElem? (virt_ok e he).2) rfl⟩ (by omega) h10 g2 hn ⟨hfr, hlo, hnc.1, hnc.2, g3, g4⟩ (w_post (fun r μ' q => ?_) h3)
  rw [ha1, ha2]; exact hF _ _ _ _ _ q
theorem spec_case {md md' k pc n a b c d : Nat} {F : Kont} {Q : Option V → Mem → Prop} {ls : List (Nat × V)} {st : List V} {μ : Mem} {nc ns : Nat} (ho : mOwn k < 18) (hd : decode (mB k) pc = .ok (.invokespecial n, 3))
    (hx : ((mlk (mOwn k)).any (fun e => e.1 == n && (e.2.1 == a && (e.2.2.1 == b && (b == 2 || b == 3)))) && (iniT.any (fun e => e.1 == a) && callOK k a c d)) = true)
    (hF : ∀ ls st μ nc ns, F (pc + 3) ls st μ nc ns → Wp md md' k (pc + 3) ls st μ nc ns Q)
    (h : popN c [] st fun As st => popR st fun r j st => 10 ≤ r ∧ j < mC μ r ∧ stOK st (vr r j :: As) d ∧ nc + mAc a ≤ mAc k ∧ ns + mAs a ≤ mAs k ∧ Wp md md a 0 (largs 0 (vr r j :: As)) [] μ 0 0 (fun r μ' => F (pc + 3) ls (r.toList ++ st) μ' (nc + mAc a) (ns + mAs a))) : Wp md md' k pc ls st μ nc ns Q := by
  simp only [Bool.and_eq_true, beq_iff_eq] at hx
  obtain ⟨hl, hv, hc⟩ := hx
  obtain ⟨hm, rfl, rfl, hfr, hlo⟩ := call_mOK hc
  obtain ⟨e, he, hp⟩ := any_of hv
  have hp := eq_of_beq hp
  subst hp
  obtain ⟨As, t, hn, rfl, h2⟩ := popN_of _ _ _ h
  rw [List.append_nil] at h2
  obtain ⟨r, j, t, rfl, g1, g2, ⟨g3, g4⟩, g5, g6, h⟩ := popR_of h2
  obtain ⟨i1, i2, i3⟩ := ini_ok e he
  obtain ⟨x, hx, hp⟩ := any_of hl
  simp only [Bool.and_eq_true, Bool.or_eq_true, beq_iff_eq] at hp
  obtain ⟨p1, p2, p3, p4⟩ := hp
  have hl' : (mlk (mOwn k)).any (fun x => x.1 == n && (x.2.1 == e.1 && x.2.2.1 == b)) = true := List.any_eq_true.mpr ⟨x, hx, by simp [p1, p2, p3]⟩
  rcases p4 with rfl | rfl
  · exact w_init hd hm (ml_of ho hl' (by decide)) (in_G i1 rfl) i2 i3 g1 g2 hn ⟨hfr, hlo, g5, g6, g3, g4⟩ (w_post (fun r μ' q => hF _ _ _ _ _ q) h)
  · exact w_initN hd hm (mn_of ho hl' rfl) (in_G i1 rfl) i2 i3 g1 g2 hn ⟨hfr, hlo, g5, g6, g3, g4⟩ (w_post (fun r μ' q => hF _ _ _ _ _ q) h)
set_option maxRecDepth 100000 in
set_option maxHeartbeats 4000000 in
theorem step_ok {md md' k pc : Nat} {F J : Kont} {Q : Option V → Mem → Prop} {i : Ins} {ls : List (Nat × V)} {st : List V} {μ : Mem} {nc ns : Nat} (hok : insOK k pc i = true)
    (hF : ∀ ls st μ nc ns, F (pc + ilen i.1) ls st μ nc ns → Wp md md' k (pc + ilen i.1) ls st μ nc ns Q) (hJ : ∀ t ls st μ nc ns, J t ls st μ nc ns → Wp md md' k t ls st μ nc ns Q)
    (hq0 : nc ≤ mAc k ∧ ns ≤ mAs k) (h : step md md' k F J Q i pc ls st μ nc ns) : Wp md md' k pc ls st μ nc ns Q := by
  obtain ⟨i, a, b, c, d⟩ := i
  have ho := ok_own hok
  have hx0 := hok
  unfold insOK at hx0
  rw [Bool.and_eq_true, Bool.and_eq_true] at hx0
  have hx := hx0.2.2
  clear hx0
  have hd := fun hs => ok_dec hok hs
  cases i
  case iadd =>
    obtain ⟨y, t, rfl, h⟩ := popI_of h
    obtain ⟨x, t, rfl, h⟩ := popI_of h
    exact w_iadd (hd (fun _ _ _ _ z => by cases z)) (hF _ _ _ _ _ h)
  case isub =>
    obtain ⟨y, t, rfl, h⟩ := popI_of h
    obtain ⟨x, t, rfl, h⟩ := popI_of h
    exact w_isub (hd (fun _ _ _ _ z => by cases z)) (hF _ _ _ _ _ h)
  case imul =>
    obtain ⟨y, t, rfl, h⟩ := popI_of h
    obtain ⟨x, t, rfl, h⟩ := popI_of h
    exact w_imul (hd (fun _ _ _ _ z => by cases z)) (hF _ _ _ _ _ h)
  case iand =>
    obtain ⟨y, t, rfl, h⟩ := popI_of h
    obtain ⟨x, t, rfl, h⟩ := popI_of h
    exact w_iand (hd (fun _ _ _ _ z => by cases z)) (hF _ _ _ _ _ h)
  case ior =>
    obtain ⟨y, t, rfl, h⟩ := popI_of h
    obtain ⟨x, t, rfl, h⟩ := popI_of h
    exact w_ior (hd (fun _ _ _ _ z => by cases z)) (hF _ _ _ _ _ h)
  case ixor =>
    obtain ⟨y, t, rfl, h⟩ := popI_of h
    obtain ⟨x, t, rfl, h⟩ := popI_of h
    exact w_ixor (hd (fun _ _ _ _ z => by cases z)) (hF _ _ _ _ _ h)
  case ishl =>
    obtain ⟨y, t, rfl, h⟩ := popI_of h
    obtain ⟨x, t, rfl, h⟩ := popI_of h
    exact w_ishl (hd (fun _ _ _ _ z => by cases z)) (hF _ _ _ _ _ h)
  case ishr =>
    obtain ⟨y, t, rfl, h⟩ := popI_of h
    obtain ⟨x, t, rfl, h⟩ := popI_of h
    exact w_ishr (hd (fun _ _ _ _ z => by cases z)) (hF _ _ _ _ _ h)
  case iushr =>
    obtain ⟨y, t, rfl, h⟩ := popI_of h
    obtain ⟨x, t, rfl, h⟩ := popI_of h
    exact w_iushr (hd (fun _ _ _ _ z => by cases z)) (hF _ _ _ _ _ h)
  case idiv =>
    obtain ⟨y, t, rfl, h⟩ := popI_of h
    obtain ⟨x, t, rfl, h⟩ := popI_of h
    exact w_idiv (hd (fun _ _ _ _ z => by cases z)) h.1 (hF _ _ _ _ _ h.2)
  case irem =>
    obtain ⟨y, t, rfl, h⟩ := popI_of h
    obtain ⟨x, t, rfl, h⟩ := popI_of h
    exact w_irem (hd (fun _ _ _ _ z => by cases z)) h.1 (hF _ _ _ _ _ h.2)
  case ladd =>
    obtain ⟨y, t, rfl, h⟩ := popL_of h
    obtain ⟨x, t, rfl, h⟩ := popL_of h
    exact w_ladd (hd (fun _ _ _ _ z => by cases z)) (hF _ _ _ _ _ h)
  case lsub =>
    obtain ⟨y, t, rfl, h⟩ := popL_of h
    obtain ⟨x, t, rfl, h⟩ := popL_of h
    exact w_lsub (hd (fun _ _ _ _ z => by cases z)) (hF _ _ _ _ _ h)
  case lmul =>
    obtain ⟨y, t, rfl, h⟩ := popL_of h
    obtain ⟨x, t, rfl, h⟩ := popL_of h
    exact w_lmul (hd (fun _ _ _ _ z => by cases z)) (hF _ _ _ _ _ h)
  case lcmp =>
    obtain ⟨y, t, rfl, h⟩ := popL_of h
    obtain ⟨x, t, rfl, h⟩ := popL_of h
    exact w_lcmp (hd (fun _ _ _ _ z => by cases z)) (hF _ _ _ _ _ h)
  case ldiv =>
    obtain ⟨y, t, rfl, h⟩ := popL_of h
    obtain ⟨x, t, rfl, h⟩ := popL_of h
    exact w_ldiv (hd (fun _ _ _ _ z => by cases z)) h.1 (hF _ _ _ _ _ h.2)
  case lrem =>
    obtain ⟨y, t, rfl, h⟩ := popL_of h
    obtain ⟨x, t, rfl, h⟩ := popL_of h
    exact w_lrem (hd (fun _ _ _ _ z => by cases z)) h.1 (hF _ _ _ _ _ h.2)
  case i2l =>
    obtain ⟨x, t, rfl, h⟩ := popI_of h
    exact w_i2l (hd (fun _ _ _ _ z => by cases z)) (hF _ _ _ _ _ h)
  case i2b =>
    obtain ⟨x, t, rfl, h⟩ := popI_of h
    exact w_i2b (hd (fun _ _ _ _ z => by cases z)) (hF _ _ _ _ _ h)
  case l2i =>
    obtain ⟨x, t, rfl, h⟩ := popL_of h
    exact w_l2i (hd (fun _ _ _ _ z => by cases z)) (hF _ _ _ _ _ h)
  case iconst n =>
    exact w_iconst (hd (fun _ _ _ _ z => by cases z)) (hF _ _ _ _ _ h)
  case bipush n =>
    have e := of_decide_eq_true hx
    refine w_bipush (hd (fun _ _ _ _ z => by cases z)) ?_
    rw [e]
    exact hF _ _ _ _ _ h
  case sipush n =>
    have e := of_decide_eq_true hx
    refine w_sipush (hd (fun _ _ _ _ z => by cases z)) ?_
    rw [e]
    exact hF _ _ _ _ _ h
  case lconst n =>
    exact w_lconst (hd (fun _ _ _ _ z => by cases z)) (hF _ _ _ _ _ h)
  case ldc n =>
    clear hok
    match b, hx, h with
    | 0, hx, h =>
      obtain ⟨e, he, hp⟩ := any_of hx
      simp only [Bool.and_eq_true, beq_iff_eq] at hp
      have hw := in_G (cik_ok _ ho e he) rfl
      rw [hp.1, hp.2] at hw
      exact w_ldc (hd (fun _ _ _ _ z => by cases z)) hw (hF _ _ _ _ _ h)
    | b + 1, hx, h =>
      replace hx : (mOwn k == 5 && (n == idxS a && decide (a < 2))) = true := hx
      simp only [Bool.and_eq_true, beq_iff_eq, decide_eq_true_eq] at hx
      exact w_ldcS (hd (fun _ _ _ _ z => by cases z)) hx.1 hx.2.1 hx.2.2 (hF _ _ _ _ _ h)
  case ldc_w n =>
    obtain ⟨e, he, hp⟩ := any_of hx
    simp only [Bool.and_eq_true, beq_iff_eq] at hp
    have hw := in_G (cik_ok _ ho e he) rfl
    rw [hp.1, hp.2] at hw
    exact w_ldc_w (hd (fun _ _ _ _ z => by cases z)) hw (hF _ _ _ _ _ h)
  case ldc2_w n =>
    obtain ⟨e, he, hp⟩ := any_of hx
    simp only [Bool.and_eq_true, beq_iff_eq] at hp
    have hw := in_G (clg_ok _ ho e he) rfl
    rw [hp.1, hp.2] at hw
    exact w_ldc2_w (hd (fun _ _ _ _ z => by cases z)) hw (hF _ _ _ _ _ h)
  case iload_n n =>
    have ea := of_decide_eq_true hx
    subst ea
    obtain ⟨v, hv, h⟩ := ld_of h
    obtain ⟨x, t, e, h⟩ := popI_of h
    cases e
    exact w_iload_n (hd (fun _ _ _ _ z => by cases z)) hv (hF _ _ _ _ _ h)
  case lload_n n =>
    have ea := of_decide_eq_true hx
    subst ea
    obtain ⟨v, hv, h⟩ := ld_of h
    obtain ⟨x, t, e, h⟩ := popL_of h
    cases e
    exact w_lload_n (hd (fun _ _ _ _ z => by cases z)) hv (hF _ _ _ _ _ h)
  case aload_n n =>
    have ea := of_decide_eq_true hx
    subst ea
    obtain ⟨v, hv, h⟩ := ld_of h
    obtain ⟨r, j, t, e, h⟩ := popR_of h
    cases e
    exact w_aload_n (hd (fun _ _ _ _ z => by cases z)) hv (hF _ _ _ _ _ h)
  case istore_n n =>
    rw [Bool.and_eq_true] at hx
    have ea := of_decide_eq_true hx.1
    subst ea
    obtain ⟨x, t, rfl, h⟩ := popI_of h
    exact w_istore_n (hd (fun _ _ _ _ z => by cases z)) (of_decide_eq_true hx.2) (hF _ _ _ _ _ h)
  case lstore_n n =>
    rw [Bool.and_eq_true] at hx
    have ea := of_decide_eq_true hx.1
    subst ea
    obtain ⟨x, t, rfl, h⟩ := popL_of h
    exact w_lstore_n (hd (fun _ _ _ _ z => by cases z)) (of_decide_eq_true hx.2) (hF _ _ _ _ _ h)
  case astore_n n =>
    rw [Bool.and_eq_true] at hx
    have ea := of_decide_eq_true hx.1
    subst ea
    obtain ⟨r, j, t, rfl, h⟩ := popR_of h
    exact w_astore_n (hd (fun _ _ _ _ z => by cases z)) (of_decide_eq_true hx.2) (hF _ _ _ _ _ h)
  case iload n =>
    have ea := of_decide_eq_true hx
    subst ea
    obtain ⟨v, hv, h⟩ := ld_of h
    obtain ⟨x, t, e, h⟩ := popI_of h
    cases e
    exact w_iload (hd (fun _ _ _ _ z => by cases z)) hv (hF _ _ _ _ _ h)
  case lload n =>
    have ea := of_decide_eq_true hx
    subst ea
    obtain ⟨v, hv, h⟩ := ld_of h
    obtain ⟨x, t, e, h⟩ := popL_of h
    cases e
    exact w_lload (hd (fun _ _ _ _ z => by cases z)) hv (hF _ _ _ _ _ h)
  case aload n =>
    have ea := of_decide_eq_true hx
    subst ea
    obtain ⟨v, hv, h⟩ := ld_of h
    obtain ⟨r, j, t, e, h⟩ := popR_of h
    cases e
    exact w_aload (hd (fun _ _ _ _ z => by cases z)) hv (hF _ _ _ _ _ h)
  case istore n =>
    rw [Bool.and_eq_true] at hx
    have ea := of_decide_eq_true hx.1
    subst ea
    obtain ⟨x, t, rfl, h⟩ := popI_of h
    exact w_istore (hd (fun _ _ _ _ z => by cases z)) (of_decide_eq_true hx.2) (hF _ _ _ _ _ h)
  case lstore n =>
    rw [Bool.and_eq_true] at hx
    have ea := of_decide_eq_true hx.1
    subst ea
    obtain ⟨x, t, rfl, h⟩ := popL_of h
    exact w_lstore (hd (fun _ _ _ _ z => by cases z)) (of_decide_eq_true hx.2) (hF _ _ _ _ _ h)
  case astore n =>
    rw [Bool.and_eq_true] at hx
    have ea := of_decide_eq_true hx.1
    subst ea
    obtain ⟨r, j, t, rfl, h⟩ := popR_of h
    exact w_astore (hd (fun _ _ _ _ z => by cases z)) (of_decide_eq_true hx.2) (hF _ _ _ _ _ h)
  case iinc n m =>
    rw [Bool.and_eq_true] at hx
    have ea := of_decide_eq_true hx.1
    subst ea
    obtain ⟨v, hv, h⟩ := ld_of h
    obtain ⟨x, t, e, h⟩ := popI_of h
    cases e
    exact w_iinc (hd (fun _ _ _ _ z => by cases z)) hv (of_decide_eq_true hx.2) (hF _ _ _ _ _ h)
  case if_icmp n m =>
    obtain ⟨y, t, rfl, h⟩ := popI_of h
    obtain ⟨x, t, rfl, h⟩ := popI_of h
    have e := of_decide_eq_true hx
    cases n
    case eq => exact w_icmp_eq (hd (fun _ _ _ _ z => by cases z)) e (fun z => hJ _ _ _ _ _ _ (h.1 z)) (fun z => hF _ _ _ _ _ (h.2 z))
    case ne => exact w_icmp_ne (hd (fun _ _ _ _ z => by cases z)) e (fun z => hJ _ _ _ _ _ _ (h.1 z)) (fun z => hF _ _ _ _ _ (h.2 z))
    case lt => exact w_icmp_lt (hd (fun _ _ _ _ z => by cases z)) e (fun z => hJ _ _ _ _ _ _ (h.1 z)) (fun z => hF _ _ _ _ _ (h.2 z))
    case ge => exact w_icmp_ge (hd (fun _ _ _ _ z => by cases z)) e (fun z => hJ _ _ _ _ _ _ (h.1 z)) (fun z => hF _ _ _ _ _ (h.2 z))
    case gt => exact w_icmp_gt (hd (fun _ _ _ _ z => by cases z)) e (fun z => hJ _ _ _ _ _ _ (h.1 z)) (fun z => hF _ _ _ _ _ (h.2 z))
    case le => exact w_icmp_le (hd (fun _ _ _ _ z => by cases z)) e (fun z => hJ _ _ _ _ _ _ (h.1 z)) (fun z => hF _ _ _ _ _ (h.2 z))
  case ifCond n m =>
    obtain ⟨x, t, rfl, h⟩ := popI_of h
    have e := of_decide_eq_true hx
    cases n
    case eq => exact w_if_eq (hd (fun _ _ _ _ z => by cases z)) e (fun z => hJ _ _ _ _ _ _ (h.1 z)) (fun z => hF _ _ _ _ _ (h.2 z))
    case ne => exact w_if_ne (hd (fun _ _ _ _ z => by cases z)) e (fun z => hJ _ _ _ _ _ _ (h.1 z)) (fun z => hF _ _ _ _ _ (h.2 z))
    case lt => exact w_if_lt (hd (fun _ _ _ _ z => by cases z)) e (fun z => hJ _ _ _ _ _ _ (h.1 z)) (fun z => hF _ _ _ _ _ (h.2 z))
    case ge => exact w_if_ge (hd (fun _ _ _ _ z => by cases z)) e (fun z => hJ _ _ _ _ _ _ (h.1 z)) (fun z => hF _ _ _ _ _ (h.2 z))
    case gt => exact w_if_gt (hd (fun _ _ _ _ z => by cases z)) e (fun z => hJ _ _ _ _ _ _ (h.1 z)) (fun z => hF _ _ _ _ _ (h.2 z))
    case le => exact w_if_le (hd (fun _ _ _ _ z => by cases z)) e (fun z => hJ _ _ _ _ _ _ (h.1 z)) (fun z => hF _ _ _ _ _ (h.2 z))
  case goto n =>
    exact w_goto (hd (fun _ _ _ _ z => by cases z)) (of_decide_eq_true hx) (hJ _ _ _ _ _ _ h)
  case tableswitch dflt lo hi offs =>
    obtain ⟨x, t, rfl, h⟩ := popI_of h
    rw [Bool.and_eq_true] at hx
    have h1 : ∀ t ∈ dflt :: offs.toList, 0 ≤ (pc : Int) + t := fun t ht => of_decide_eq_true (List.all_eq_true.mp hx.1 t ht)
    have h2 := of_decide_eq_true hx.2
    have hdec : ∃ n, decode (mB k) pc = .ok (.tableswitch dflt lo hi offs, n) := by
      have hq := hok
      unfold insOK at hq
      simp only [Bool.and_eq_true] at hq
      have hq := hq.2.1
      split at hq
      · rename_i j n hj
        simp only [Bool.and_eq_true, decide_eq_true_eq] at hq
        exact ⟨n, by rw [hj, hq.1]⟩
      · cases hq
    obtain ⟨n, hdec⟩ := hdec
    refine w_switch hdec h1 h2 (hJ _ _ _ _ _ _ ?_)
    by_cases z : x.toInt < lo ∨ hi < x.toInt
    · rw [if_pos z]; exact h.1 z
    · rw [if_neg z]
      have hlen : offs.toList.length = offs.size := Array.length_toList
      exact swC_of offs.toList lo (x.toInt - lo).toNat h.2 (by omega) (by omega)
  case getfield n =>
    clear hok
    obtain ⟨r, j, t, rfl, h1, h2, h⟩ := popR_of h
    rw [Bool.and_eq_true, Bool.and_eq_true] at hx
    have hf := fl_of ho hx.1
    have hc := eq_of_beq hx.2.1
    refine w_getfield (hd (fun _ _ _ _ z => by cases z)) hf h1 h2 ?_
    unfold getV
    rw [h1, ← hc]
    match c, of_decide_eq_true hx.2.2, h with
    | 0, _, h => exact hF _ _ _ _ _ h
    | 1, _, h => exact hF _ _ _ _ _ h
    | 2, _, h =>
      obtain ⟨j', rfl, h⟩ := h
      exact hF _ _ _ _ _ h
  case putfield n =>
    clear hok
    rw [Bool.and_eq_true, Bool.and_eq_true] at hx
    have hf := fl_of ho hx.1
    have hfin : (clT a b).2.2.2 = false ∨ ((mY k).name = "<init>" ∧ (clT a b).1 = oNm (mOwn k)) := by
      have := hx.2.2
      simp only [Bool.or_eq_true, Bool.and_eq_true, Bool.not_eq_true', decide_eq_true_eq, beq_iff_eq] at this
      rcases this with z | z
      · exact Or.inl z
      · exact Or.inr ⟨z.1, by rw [← z.2]; exact clT_own a hf.1 b hf.2.1⟩
    have hq := hx.2.1
    match c, hq, h with
    | 0, hq, h =>
      have hty := of_decide_eq_true hq
      obtain ⟨x, t, rfl, h⟩ := popI_of h
      obtain ⟨r, j, t, rfl, h1, h2, h⟩ := popR_of h
      exact w_putfield (hd (fun _ _ _ _ z => by cases z)) hf hfin h1 h2 (show kty (clTy (rkd r) b) = 0 ∧ narrow (clTy (rkd r) b) (.int x) = .int x ∧ fits (clTy (rkd r) b) (.int x) = true by rw [h1, hty]; exact ⟨rfl, rfl, rfl⟩) (hF _ _ _ _ _ h)
    | 1, hq, h =>
      have hty := of_decide_eq_true hq
      obtain ⟨x, t, rfl, h⟩ := popL_of h
      obtain ⟨r, j, t, rfl, h1, h2, h⟩ := popR_of h
      exact w_putfield (hd (fun _ _ _ _ z => by cases z)) hf hfin h1 h2 (show clTy (rkd r) b = .long by rw [h1, hty]) (hF _ _ _ _ _ h)
    | 2, hq, h =>
      have hty := of_decide_eq_true hq
      obtain ⟨r', j', t, rfl, h⟩ := popR_of h
      obtain ⟨r, j, t, rfl, h1, h2, h3, h4, h5, h⟩ := popR_of h
      exact w_putfield (hd (fun _ _ _ _ z => by cases z)) hf hfin h1 h2 (show kty (clTy (rkd r) b) = 2 ∧ r' = rel r b ∧ (isS r b = 0 ∨ md < isS r b) ∧ j' < mC μ r' from ⟨by rw [h1]; exact hty, h3, h4, h5⟩) (hF _ _ _ _ _ h)
    | c + 3, hq, h =>
      have hty : clTy a b = .boolean := of_decide_eq_true hq
      obtain ⟨x, t, rfl, h⟩ := popI_of h
      obtain ⟨r, j, t, rfl, h1, h2, h3, h⟩ := popR_of h
      refine w_putfield (hd (fun _ _ _ _ z => by cases z)) hf hfin h1 h2 (show kty (clTy (rkd r) b) = 0 ∧ narrow (clTy (rkd r) b) (.int x) = .int x ∧ fits (clTy (rkd r) b) (.int x) = true from ?_) (hF _ _ _ _ _ h)
      rw [h1, hty]
      rcases h3 with rfl | rfl <;> exact ⟨rfl, by decide, by decide⟩
  case iaload =>
    obtain ⟨j, t, rfl, h⟩ := popI_of h
    obtain ⟨r, i, t, rfl, h1, h2, h3, h⟩ := popR_of h
    exact w_iaload (hd (fun _ _ _ _ z => by cases z)) h1 h2 h3 (hF _ _ _ _ _ h)
  case laload =>
    obtain ⟨j, t, rfl, h⟩ := popI_of h
    obtain ⟨r, i, t, rfl, h1, h2, h3, h⟩ := popR_of h
    exact w_laload (hd (fun _ _ _ _ z => by cases z)) h1 h2 h3 (hF _ _ _ _ _ h)
  case baload =>
    obtain ⟨j, t, rfl, h⟩ := popI_of h
    obtain ⟨r, i, t, rfl, h1, h2, h3, h⟩ := popR_of h
    rcases h1 with h1 | h1
    · exact w_baloadZ (hd (fun _ _ _ _ z => by cases z)) h1 h2 h3 (hF _ _ _ _ _ h)
    · exact w_baloadB (hd (fun _ _ _ _ z => by cases z)) h1 h2 h3 (hF _ _ _ _ _ h)
  case aaload =>
    obtain ⟨j, t, rfl, h⟩ := popI_of h
    obtain ⟨r, i, t, rfl, h1, h2, h3, j2, rfl, h⟩ := popR_of h
    exact w_aaload (hd (fun _ _ _ _ z => by cases z)) h1 h2 h3 (hF _ _ _ _ _ h)
  case iastore =>
    obtain ⟨x, t, rfl, h⟩ := popI_of h
    obtain ⟨j, t, rfl, h⟩ := popI_of h
    obtain ⟨r, i, t, rfl, h1, h2, h3, h⟩ := popR_of h
    exact w_iastore (hd (fun _ _ _ _ z => by cases z)) h1 h2 h3 (hF _ _ _ _ _ h)
  case lastore =>
    obtain ⟨x, t, rfl, h⟩ := popL_of h
    obtain ⟨j, t, rfl, h⟩ := popI_of h
    obtain ⟨r, i, t, rfl, h1, h2, h3, h⟩ := popR_of h
    exact w_lastore (hd (fun _ _ _ _ z => by cases z)) h1 h2 h3 (hF _ _ _ _ _ h)
  case bastore =>
    obtain ⟨x, t, rfl, h⟩ := popI_of h
    obtain ⟨j, t, rfl, h⟩ := popI_of h
    obtain ⟨r, i, t, rfl, h1, h2, h3, h⟩ := popR_of h
    rcases h1 with h1 | h1
    · rw [if_pos h1] at h; exact w_bastoreZ (hd (fun _ _ _ _ z => by cases z)) h1 h2 h3 (hF _ _ _ _ _ h)
    · rw [if_neg (by omega)] at h; exact w_bastoreB (hd (fun _ _ _ _ z => by cases z)) h1 h2 h3 (hF _ _ _ _ _ h)
  case aastore =>
    obtain ⟨r', i', t, rfl, h⟩ := popR_of h
    obtain ⟨j, t, rfl, h⟩ := popI_of h
    obtain ⟨r, i, t, rfl, h1, h2, h3, h4, h5, h6, h7, h⟩ := popR_of h
    exact w_aastore (hd (fun _ _ _ _ z => by cases z)) h1 h2 h3 h4 h5 h6 h7 (hF _ _ _ _ _ h)
  case arraylength =>
    obtain ⟨r, i, t, rfl, h1, h2, h⟩ := popR_of h
    exact w_arraylength (hd (fun _ _ _ _ z => by cases z)) h1 h2 (hF _ _ _ _ _ h)
  case dup =>
    obtain ⟨v, t, rfl, h1, h⟩ := pop1_of h
    exact w_dup (hd (fun _ _ _ _ z => by cases z)) h1 (hF _ _ _ _ _ h)
  case dup2 =>
    obtain ⟨v, t, rfl, h⟩ := pop1_of h
    obtain ⟨w, t, rfl, h1, h2, h⟩ := pop1_of h
    exact w_dup2 (hd (fun _ _ _ _ z => by cases z)) h1 h2 (hF _ _ _ _ _ h)
  case ireturn =>
    clear hok
    obtain ⟨x, t, rfl, rfl, h1, h2, h3, h4, h9⟩ := popI_of h
    match a, hx, h2 with
    | 0, hx, _ => exact w_ireturn (hd (fun _ _ _ _ z => by cases z)) h1 (of_decide_eq_true hx) rfl h3 h4 h9
    | a + 1, hx, h2 =>
      have hz : narrow .boolean (.int x) = .int x := by
        rcases h2 with z | rfl | rfl
        · omega
        · decide
        · decide
      exact w_ireturn (ty := .boolean) (hd (fun _ _ _ _ z => by cases z)) h1 (of_decide_eq_true hx) hz h3 h4 h9
  case lreturn =>
    obtain ⟨x, t, rfl, rfl, h1, h3, h4, h⟩ := popL_of h
    exact w_lreturn (hd (fun _ _ _ _ z => by cases z)) h1 (of_decide_eq_true hx) h3 h4 h
  case return_ =>
    obtain ⟨rfl, h1, h3, h4, h⟩ := h
    exact w_return (hd (fun _ _ _ _ z => by cases z)) h1 (of_decide_eq_true hx) h3 h4 h
  case invokestatic n =>
    clear hok
    match b, hx, h with
    | 0, hx, h =>
      replace hx := hx
      simp only [Bool.and_eq_true] at hx
      obtain ⟨hl, hs, hc, ha1, ha2⟩ := hx
      obtain ⟨hm, rfl, rfl, hfr, hlo⟩ := call_mOK hc
      obtain ⟨e, he, hp⟩ := any_of hs
      have hp := eq_of_beq hp
      subst hp
      have ha1 := eq_of_beq ha1
      have ha2 := eq_of_beq ha2
      obtain ⟨As, t, hn, rfl, ⟨hs1, hs2⟩, h⟩ := popN_of _ _ _ h
      rw [List.append_nil] at hs2 h
      have hnc := room_0 ha1 ha2 hq0
      refine w_static (hd (fun _ _ _ _ z => by cases z)) hm (ml_of ho hl (by decide)) (in_G (stat_ok e he) rfl) hn ⟨hfr, hlo, ?_, ?_, hs1, hs2⟩ (w_post (fun r μ' q => ?_) h)
      · exact hnc.1
      · exact hnc.2
      · rw [ha1, ha2]; exact hF _ _ _ _ _ q
    | b + 1, hx, h =>
      replace hx : ((alk (mOwn k)).any (fun e => e.1 == n) && (decide (1 ≤ mFr k) && decide (26 ≤ mLo k))) = true := hx
      simp only [Bool.and_eq_true, decide_eq_true_eq] at hx
      obtain ⟨e, he, hp⟩ := any_of hx.1
      have hp := eq_of_beq hp
      subst hp
      obtain ⟨x, t, rfl, h⟩ := popI_of h
      obtain ⟨dp, t, rfl, h⟩ := popI_of h
      obtain ⟨r, j, t, rfl, h⟩ := popR_of h
      obtain ⟨sp, t, rfl, h⟩ := popI_of h
      obtain ⟨r', j', t, rfl, g1, g2, g3, g4, g5, g6, g7, g8, g9, g10, h⟩ := popR_of h
      obtain ⟨m1, m2, m3, -⟩ := misc_ok
      exact w_copy (hd (fun _ _ _ _ z => by cases z)) ⟨in_G (alk_ok _ ho e he) rfl, in_G m1 rfl, in_G m2 rfl, in_G m3 rfl⟩ g2 g3 g4 g5 g6 g7 g8 g9 g10 ⟨hx.2.1, hx.2.2, g1⟩ (hF _ _ _ _ _ h)
  case invokevirtual n =>
    clear hok
    by_cases hb6 : b = 6
    · subst hb6
      obtain ⟨e, he, hp, h5, hr⟩ := slk_of hx
      obtain ⟨r, i, t, rfl, g1, g2, g3, hf⟩ := popR_of h
      subst g1
      exact w_length (hd (fun _ _ _ _ z => by cases z)) h5 (slk_58 he h5 hp) g2 g3 hr hq0 (hF _ _ _ _ _ hf)
    · by_cases hb7 : b = 7
      · subst hb7
        obtain ⟨e, he, hp, h5, hr⟩ := slk_of hx
        obtain ⟨j, t, rfl, h⟩ := popI_of h
        obtain ⟨r, i, t, rfl, g1, g2, g3, g4, hf⟩ := popR_of h
        subst g1
        exact w_charAt (hd (fun _ _ _ _ z => by cases z)) h5 (slk_64 he h5 hp) g2 g4 g3 hr hq0 (hF _ _ _ _ _ hf)
      · rcases (show b = 0 ∨ b = 1 ∨ b = 2 ∨ b = 3 ∨ b = 4 ∨ b = 5 ∨ ∃ q, b = q + 8 from by by_cases z : 8 ≤ b; exact Or.inr (Or.inr (Or.inr (Or.inr (Or.inr (Or.inr ⟨b - 8, by omega⟩))))); omega) with rfl | rfl | rfl | rfl | rfl | rfl | ⟨q, rfl⟩ <;> exact virt_case ho (hd (fun _ _ _ _ z => by cases z)) hx hq0 hF h
  case invokespecial n =>
    clear hok
    by_cases hb4 : b = 4
    · subst hb4
      replace hx : ((olk (mOwn k)).any (fun e => e.1 == n) && (decide (1 ≤ mFr k) && decide (20 ≤ mLo k))) = true := hx
      simp only [Bool.and_eq_true, decide_eq_true_eq] at hx
      obtain ⟨e, he, hp⟩ := any_of hx.1
      have hp := eq_of_beq hp
      subst hp
      obtain ⟨r, j, t, rfl, g1, g2, g3, h⟩ := popR_of h
      obtain ⟨-, -, -, m4, m5⟩ := misc_ok
      exact w_objInit (hd (fun _ _ _ _ z => by cases z)) ⟨in_G (olk_ok _ ho e he) rfl, in_G m4 rfl, in_G m5 rfl⟩ g1 g2 ⟨hx.2.1, hx.2.2, g3⟩ (hF _ _ _ _ _ h)
    · rcases (show b = 0 ∨ b = 1 ∨ b = 2 ∨ b = 3 ∨ ∃ q, b = q + 5 from by by_cases z : 5 ≤ b; exact Or.inr (Or.inr (Or.inr (Or.inr ⟨b - 5, by omega⟩))); omega) with rfl | rfl | rfl | rfl | ⟨q, rfl⟩ <;> exact spec_case ho (hd (fun _ _ _ _ z => by cases z)) hx hF h
  case new n =>
    rw [Bool.and_eq_true] at hx
    obtain ⟨e, he, hp⟩ := any_of hx.1
    simp only [Bool.and_eq_true, beq_iff_eq] at hp
    obtain ⟨rfl, hp⟩ := hp
    have h10 := of_decide_eq_true hx.2
    have hc := clk_ok _ ho e he
    rw [hp] at hc
    obtain ⟨i1, i2⟩ := ins_ok _ h10
    obtain ⟨g1, g2, g3, h⟩ := h
    exact w_new (hd (fun _ _ _ _ z => by cases z)) h10 ⟨in_G hc rfl, in_G i1 rfl, in_G i2 rfl⟩ g1 g2 g3 (hF _ _ _ _ _ h)
  case newarray n =>
    simp only [Bool.and_eq_true, decide_eq_true_eq] at hx
    obtain ⟨x, t, rfl, g1, g2, g3, g4, g5, h⟩ := popI_of h
    exact w_newarray (hd (fun _ _ _ _ z => by cases z)) ⟨hx.1, hx.2.1⟩ hx.2.2 (arrW (by have := hx.1; have := hx.2.1; omega)) g1 g2 g3 g4 g5 (hF _ _ _ _ _ h)
  case anewarray n =>
    rw [Bool.and_eq_true] at hx
    obtain ⟨e, he, hp⟩ := any_of hx.1
    simp only [Bool.and_eq_true, beq_iff_eq] at hp
    obtain ⟨rfl, hp⟩ := hp
    have hc := clk_ok _ ho e he
    rw [hp] at hc
    obtain ⟨x, t, rfl, g1, g2, g3, g4, g5, h⟩ := popI_of h
    exact w_anewarray (hd (fun _ _ _ _ z => by cases z)) (of_decide_eq_true hx.2) (in_G hc rfl) g1 g2 g3 g4 g5 (hF _ _ _ _ _ h)
  case multianewarray n m =>
    simp only [Bool.and_eq_true, decide_eq_true_eq] at hx
    obtain ⟨rfl, hx1, hx2, hx3, hx4⟩ := hx
    obtain ⟨e, he, hp⟩ := any_of hx1
    simp only [Bool.and_eq_true, beq_iff_eq] at hp
    obtain ⟨rfl, hp⟩ := hp
    have hc := clkM_ok _ ho e he
    rw [hp] at hc
    obtain ⟨w, t, rfl, h⟩ := popI_of h
    obtain ⟨x, t, rfl, g1, g2, g3, g4, g5, g6, g7, g8, h⟩ := popI_of h
    exact w_multi (hd (fun _ _ _ _ z => by cases z)) hx2 hx3 hx4 ⟨in_G hc rfl, arrW (by rcases hx2 with z | z <;> omega)⟩ g1 g2 g3 g4 g5 g6 g7 g8 (hF _ _ _ _ _ h)
  all_goals exact False.elim h
/-! a stretch of code: from a place on until a cut -/
def run (md md' k : Nat) (J : Kont) (Q : Option V → Mem → Prop) : List Ins → Kont
  | [], pc, ls, st, μ, nc, ns => J pc ls st μ nc ns
  | i :: t, pc, ls, st, μ, nc, ns => nc ≤ mAc k ∧ ns ≤ mAs k ∧ step md md' k (run md md' k J Q t) J Q i pc ls st μ nc ns
def chkL (k : Nat) : Nat → List Ins → Bool
  | _, [] => true
  | pc, i :: t => insOK k pc i && chkL k (pc + ilen i.1) t
theorem run_ok {md md' k : Nat} {J : Kont} {Q : Option V → Mem → Prop} (hJ : ∀ t ls st μ nc ns, J t ls st μ nc ns → Wp md md' k t ls st μ nc ns Q) :
    ∀ (c : List Ins) (pc : Nat) (ls : List (Nat × V)) (st : List V) (μ : Mem) (nc ns : Nat), chkL k pc c = true → run md md' k J Q c pc ls st μ nc ns → Wp md md' k pc ls st μ nc ns Q
  | [], pc, ls, st, μ, nc, ns, _, h => hJ _ _ _ _ _ _ h
  | i :: t, pc, ls, st, μ, nc, ns, hc, h => by
    unfold chkL at hc
    rw [Bool.and_eq_true] at hc
    obtain ⟨h1, h2, h3⟩ := h
    exact step_ok hc.1 (fun ls st μ nc ns z => run_ok hJ t _ ls st μ nc ns hc.2 z) hJ ⟨h1, h2⟩ h3
/-- from a place on, over the code that tb tells, n stretches at most, until a cut: there, with the locals that live, what is to be shown is left -/
def rn (md md' k : Nat) (tb : Nat → List Ins) (cut : Nat → Option (List Nat)) (Q : Option V → Mem → Prop) : Nat → Kont
  | 0, _, _, _, _, _, _ => False
  | n + 1, pc, ls, st, μ, nc, ns => run md md' k (fun t ls st μ nc ns => match cut t with
    | some live => Wp md md' k t (lmask live ls) st μ nc ns Q
    | none => rn md md' k tb cut Q n t ls st μ nc ns) Q (tb pc) pc ls st μ nc ns
theorem rn_ok {md md' k : Nat} {tb : Nat → List Ins} {cut : Nat → Option (List Nat)} {Q : Option V → Mem → Prop} (hc : ∀ t, chkL k t (tb t) = true) :
    ∀ (n pc : Nat) (ls : List (Nat × V)) (st : List V) (μ : Mem) (nc ns : Nat), rn md md' k tb cut Q n pc ls st μ nc ns → Wp md md' k pc ls st μ nc ns Q
  | 0, pc, ls, st, μ, nc, ns, h => h.elim
  | n + 1, pc, ls, st, μ, nc, ns, h => by
    refine run_ok (fun t ls st μ nc ns z => ?_) (tb pc) pc ls st μ nc ns (hc pc) h
    split at z
    · exact w_mask z
    · exact rn_ok hc n t ls st μ nc ns z

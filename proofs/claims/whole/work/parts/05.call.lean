/-! calls -/
theorem aov_moved {j : Nat} (hj : j = 4 ∨ j = 5 ∨ j = 6) {u U : State} (hvm : u.vm.Alike U.vm) (h : aov (ety j) u) : aov (ety j) U := by
  rcases hj with rfl | rfl | rfl
  · exact va_AO.moved hvm h
  · exact Jvm.Stand.arrayOver_alikeB hvm h
  · exact Jvm.Stand.arrayOver_alikeB hvm h
theorem nest_is {w : Cond} (h : w ∈ nestW) : ∃ a i x y, w = .methodLinkNest a i x y := by
  have := (List.mem_filter.mp h).2
  cases w <;> first | exact ⟨_, _, _, _, rfl⟩ | cases this
theorem KG.warm {G : GC} {s U : State} (hW : s.WarmedH U.vm) (h : KG G s) : KG G U := by
  obtain ⟨h1, h2, h3, h4, h5⟩ := h
  refine ⟨va_K.moved hW.alike h1, fun w hw => ?_, aov_moved (Or.inl rfl) hW.alike h3, aov_moved (Or.inr (Or.inl rfl)) hW.alike h4, aov_moved (Or.inr (Or.inr rfl)) hW.alike h5⟩
  obtain ⟨a, i, x, y, rfl⟩ := nest_is hw
  exact va_Nw.warmM hW (h2 _ hw)
theorem KG.same {G : GC} {s U : State} (hv : s.vm = U.vm) (h : KG G s) : KG G U := by
  have ha : s.vm.Alike U.vm := by rw [hv]; exact Vm.Alike.refl U.vm
  obtain ⟨h1, h2, h3, h4, h5⟩ := h
  refine ⟨va_K.moved ha h1, fun w hw => ?_, aov_moved (Or.inl rfl) ha h3, aov_moved (Or.inr (Or.inl rfl)) ha h4, aov_moved (Or.inr (Or.inr rfl)) ha h5⟩
  have hq := h2 w hw
  obtain ⟨a, i, x, y, rfl⟩ := nest_is hw
  exact va_Nw.same rfl hv hq
theorem KS.kept {G : GC} {s : State} {H H1 : Heap} (h : KS G s H) (hq : ∀ a : Nat, a < H.size → ¬ G.1 ≤ a → H1[a]? = H[a]?) : KS G s H1 := by
  obtain ⟨h1, h2, h3, h4, h5⟩ := h
  exact ⟨h1.kept hq, h2, h3, h4.kept hq, h5.kept hq⟩
theorem KS.warm {G : GC} {s U : State} {H : Heap} (hW : s.WarmedH U.vm) (h : KS G s H) : KS G U H := by
  obtain ⟨h1, h2, h3, h4, h5⟩ := h
  exact ⟨h1.moved hW.alike, h2.warm hW, h3.warm hW, h4.moved hW.alike, h5.moved hW.alike⟩
theorem KS.same {G : GC} {s U : State} {H : Heap} (hv : U.vm = s.vm) (h : KS G s H) : KS G U H := by
  have ha : s.vm.Alike U.vm := by rw [hv]; exact Vm.Alike.refl s.vm
  obtain ⟨h1, h2, h3, h4, h5⟩ := h
  exact ⟨h1.moved ha, h2.same hv, h3.same hv, h4.moved ha, h5.moved ha⟩
def rmM (k : Nat) : Room := { frames := mFr k, cells := mAc k, slots := mAs k, locals := mLo k }
def wsM (k : Nat) : List Cond := Cond.code (mY k) (mB k) (mLoc k) (mRet k) :: lwG
/-- a method's start -/
def PcW (G : GC) (md : Nat) (μ : Mem) (As : List V) : Array Value → State → Prop := fun a U =>
  a = (As.map (cv G)).toArray ∧ Rep G md μ U.heap ∧ KG G U ∧ G.1 ≤ U.heap.size ∧ G.2.1 < G.1 ∧ KS G U U.heap
theorem PcW_blind (G : GC) (md : Nat) (μ : Mem) (As : List V) : FrameBlind (PcW G md μ As) := fun a U g mk q =>
  ⟨q.1, q.2.1, KG.same (s := U) (U := U.calling g mk a) rfl q.2.2.1, q.2.2.2.1, q.2.2.2.2.1, KS.same (s := U) (U := U.calling g mk a) rfl q.2.2.2.2.2⟩
def catV (v : V) : Nat := if isL v = true then 2 else 1
theorem catV_cv (G : GC) (v : V) : (cv G v).category = catV v := by
  match v with
  | .inl x => rfl
  | .inr (.inl x) => rfl
  | .inr (.inr (r, i)) =>
    show (va_rf (rfv G r i)).category = 1
    cases rfv G r i <;> rfl
theorem cat_map (G : GC) (l : List V) : ((l.map (cv G)).map (fun v => v.category)).sum = (l.map catV).sum := by
  rw [List.map_map]
  congr 1
  exact List.map_congr_left fun v _ => catV_cv G v
/-- arguments as locals -/
def largs : Nat → List V → List (Nat × V)
  | _, [] => []
  | i, v :: t => (i, v) :: largs (i + catV v) t
theorem largs_ok (G : GC) : ∀ (As : List V) (i : Nat), lsC G (largs i As) = lv_args i (As.map (cv G))
  | [], i => rfl
  | v :: t, i => by
    show (i, cv G v) :: lsC G (largs (i + catV v) t) = (i, cv G v) :: lv_args (if (cv G v).category = 2 then i + 2 else i + 1) (t.map (cv G))
    rw [largs_ok G t, catV_cv]
    congr 2
    unfold catV
    by_cases h : isL v = true
    · rw [if_pos h]; rfl
    · rw [if_neg h]; rfl
theorem lg_sl_len (G : GC) : ∀ As : List V, (lg_sl (As.map (cv G))).length = (As.map catV).sum
  | [] => rfl
  | v :: t => by
    have h := lg_sl_len G t
    unfold lg_sl at h ⊢
    simp only [List.map_cons, List.flatMap_cons, List.length_append, List.sum_cons, h, catV_cv]
    unfold catV
    by_cases e : isL v = true <;> simp [e]
/-- what is known of a method that is called -/
def mOK (k : Nat) : Prop := plainFor (mY k) = true ∧ oNm (mOwn k) = (mY k).cls ∧ Cond.code (mY k) (mB k) (mLoc k) (mRet k) ∈ lwG ∧ Cond.initialized (mY k).cls ∈ lwG ∧
  ((mY k).cls ≠ "java/lang/invoke/MethodHandle" ∧ (mY k).cls ≠ "java/lang/invoke/VarHandle") ∧ (parseMethodDescriptor (mY k).desc).map (fun d => d.parameters.length) = some (mArg k)
theorem met_of {md md' k : Nat} {μ : Mem} {As : List V} {Q : Option V → Mem → Prop} (hm : mOK k) (hlen : (As.map catV).sum ≤ mLoc k) (hc : Wp md md' k 0 (largs 0 As) [] μ 0 0 Q) (G : GC) (l : Launch) :
    Met l (mY k) (wsM k) (rmM k) (PcW G md μ As) (QcW G md' Q) (mAc k) (mAs k) (fun q => G.1 ≤ q) := by
  refine va_MetF (cc := mB k) (maxL := mLoc k) (ret := mRet k) hm.1 rfl ?_
  intro p e s m args below meth c s₁ B hml hP
  obtain ⟨hargs, hR, hK, hsz, hb, hKS⟩ := hP
  subst hargs
  have hts0 : ∀ w ∈ wsM k, w.before _ s = true := atoms_spec (ws := wsM k) B.pre
  have hown : s.vm.findClass (mY k).cls = some m.cls := findClass_of_methodNamed B.named
  have C : Cx G k p (rmM k) s m (As.map (cv G)).toArray meth c := ⟨B.exec, B.bytes, hml, B.returns, B.notSynchronized, by rw [hm.2.1]; exact hown, fun w hw => hts0 w (List.mem_cons_of_mem _ hw), hK, ⟨Nat.le_refl _, Nat.le_refl _, Nat.le_refl _, Nat.le_refl _⟩, (name_of_methodNamed B.named B.method).1, hsz, hb, hKS⟩
  rw [lg_entry_eq]
  have hl := lv_entry (As.map (cv G)) (n := mLoc k) (by rw [lg_sl_len]; exact hlen)
  refine hc G p l e (rmM k) s m _ below meth c s.heap [] _ C ⟨hR, va_S.rf⟩ ?_
  rw [largs_ok]
  exact hl
section CallRules
variable {md mdc md' k k2 pc ix : Nat} {ls : List (Nat × V)} {st As : List V} {μ : Mem} {nc ns : Nat} {Q Q' : Option V → Mem → Prop}
/-- room for a call -/
def roomOK (k k2 nc ns : Nat) (st As : List V) : Prop := mFr k2 + 1 ≤ mFr k ∧ 8 + (mLoc k2 + 11) + mLo k2 ≤ mLo k ∧ nc + mAc k2 ≤ mAc k ∧ ns + mAs k2 ≤ mAs k ∧ (st.map catV).sum ≤ 8 ∧ (As.map catV).sum ≤ mLoc k2
theorem pre_at {G : GC} {R : Room} {p : Program} {s : State} {m : MethodId} {args : Array Value} {meth : Method} {c : Code} {H : Heap} {locs : List Loc} (C : Cx G k p R s m args meth c) (h : RepH G md μ s H locs) (As : List V) :
    ∀ U : State, U.heap = H → s.WarmedH U.vm → PcW G md μ As (As.map (cv G)).toArray U := by
  intro U hU hW
  have hz : s.heap.size ≤ H.size := h.2.1
  refine ⟨rfl, by rw [hU]; exact h.1, KG.warm hW C.kg, by rw [hU]; exact Nat.le_trans C.2.2.2.2.2.2.2.2.2.2.1 hz, C.2.2.2.2.2.2.2.2.2.2.2.1, ?_⟩
  rw [hU]
  exact KS.warm hW (C.2.2.2.2.2.2.2.2.2.2.2.2.kept (fun a h1 h2 => h.2.2.1 a h1 h2))
/-- behind a call -/
theorem w_back {G : GC} {p : Program} {l : Launch} {e : Env} {R : Room} {s : State} {m : MethodId} {args : Array Value} {below : List Frame} {meth : Method} {c : Code} {H : Heap} {locs : List Loc} {als : Array Slot} {st0 : List Value} {aa : Array Value}
    (C : Cx G k p R s m args meth c) (h : RepH G md μ s H locs) (hl : lv_has als (mLoc k) (lsC G ls))
    (hr : va_Run p l e R s m args below meth c H locs nc ns (mAc k2) (mAs k2) (F0 m pc als st0) (st.map (cv G)) (QcW G mdc Q' aa) (fun q => G.1 ≤ q))
    (kk : ∀ r μ', Q' r μ' → Wp mdc md' k (pc + 3) ls (r.toList ++ st) μ' (nc + mAc k2) (ns + mAs k2) Q) :
    W p l e R s m args below meth c H locs nc ns (MQ below (QcW G md' Q) args s (mAc k) (mAs k) (fun q => G.1 ≤ q)) (F0 m pc als st0) := by
  intro T hT X
  obtain ⟨v, st₀, t, T', L, h0, X', hL, e1, e2, ⟨r, μ', hv, hq, hR, hF⟩, stp⟩ := hr T hT X
  have hv' := Outcome.returned.inj hv
  subst hv'
  have hF1 : H.size ≤ T'.heap.size := by rw [e1, ← h0]; exact hF.1
  have hF2 : ∀ q : Nat, q < H.size → ¬ G.1 ≤ q → T'.heap[q]? = H[q]? := by rw [e1, ← h0]; exact hF.2
  have hS : va_S (fun q => G.1 ≤ q) s.heap T'.heap (locs ++ L) := ⟨Nat.le_trans h.2.1 hF1, fun q a b => (hF2 q (Nat.lt_of_lt_of_le a h.2.1) b).trans (h.2.2.1 q a b), fun q hq => (List.mem_append.mp hq).elim (h.2.2.2 q) (hL q)⟩
  obtain ⟨t2, a1, b1⟩ := kk r μ' hq G p l e R s m args below meth c T'.heap (locs ++ L) als C ⟨by rw [e1]; exact hR, hS⟩ hl T' rfl X'
  refine ⟨t2, stp t2 ?_, b1⟩
  have ee : (r.map (cv G)).toList ++ st.map (cv G) = (r.toList ++ st).map (cv G) := by cases r <;> simp
  rw [ee]
  exact a1
theorem fix_of {G : GC} {R : Room} {p : Program} {s : State} {m : MethodId} {args : Array Value} {meth : Method} {c : Code} (C : Cx G k p R s m args meth c) : CallFix p m c (mB k) (mLoc k) s args lwG (oNm (mOwn k)) := ⟨C.1, C.2.1, C.2.2.1, C.own, C.hts⟩
theorem callB_at {G : GC} {R : Room} {p : Program} {s : State} {m : MethodId} {args : Array Value} {meth : Method} {c : Code} (C : Cx G k p R s m args meth c) (hm : mOK k2) (hw : Cond.methodLink (oNm (mOwn k)) ix (mY k2) ∈ lwG) (hR : roomOK k k2 nc ns st As) :
    CallB R s args (oNm (mOwn k)) ix (mY k2) (mB k2) (mLoc k2) (mRet k2) (wsM k2) (rmM k2) (mAc k2) (mAs k2) (mArg k2) := by
  have hg : GoodIn lwG (wsM k2) := lwG_in fun w h => by
    rcases List.mem_cons.mp h with e | e
    · rw [e]; exact hm.2.2.1
    · exact e
  obtain ⟨r1, r2, r3, r4⟩ := C.2.2.2.2.2.2.2.2.1
  refine ⟨rfl, rfl, Nat.le_trans hR.1 r1, Nat.le_trans hR.2.1 r2, pay_in C.hts hg, List.mem_cons_self, C.hts _ hm.2.2.1, C.hts _ hm.2.2.2.1, hm.2.2.2.2.1, fun sig h => ?_, C.hts _ hw⟩
  have h2 := hm.2.2.2.2.2
  rw [h] at h2
  exact (Option.some.inj h2).symm
theorem w_static (hd : decode (mB k) pc = .ok (.invokestatic ix, 3)) (hm : mOK k2) (hw : Cond.methodLink (oNm (mOwn k)) ix (mY k2) ∈ lwG) (hs : Cond.static (mY k2) ∈ lwG) (hn : As.length = mArg k2) (hR : roomOK k k2 nc ns st As)
    (hc : Wp md mdc k2 0 (largs 0 As) [] μ 0 0 (fun r μ' => Wp mdc md' k (pc + 3) ls (r.toList ++ st) μ' (nc + mAc k2) (ns + mAs k2) Q)) : Wp md md' k pc ls (As.reverse ++ st) μ nc ns Q := by
  intro G p l e R s m args below meth c H locs als C h hl
  obtain ⟨r1, r2, r3, r4⟩ := C.2.2.2.2.2.2.2.2.1
  rw [List.map_append, List.map_reverse]
  have hr := va_runS (meth := meth) (l := l) (e := e) (below := below) (H := H) (locs := locs) (cells := nc) (slots := ns) (g := F0 m pc als ((As.map (cv G)).reverse ++ st.map (cv G))) (rest := st.map (cv G)) (fix_of C) (met_of hm hR.2.2.2.2.2 hc G l) ⟨callB_at C hm hw hR, C.hts _ hs⟩ ⟨PcW_blind G md μ As, pre_at C h As⟩ rfl (by rw [List.length_map]; exact hn) hl.1 rfl
    (by show 2 * 0 + _ ≤ 8; rw [cat_map]; have := hR.2.2.2.2.1; omega) hd ⟨Nat.le_trans hR.2.2.1 r3, Nat.le_trans hR.2.2.2.1 r4⟩
  exact w_back C h hl hr (fun r μ' q => q)
theorem recv_at {G : GC} {R : Room} {p : Program} {s : State} {m : MethodId} {args : Array Value} {meth : Method} {c : Code} {H : Heap} {locs : List Loc} (C : Cx G k p R s m args meth c) (h : RepH G md μ s H locs) {r i : Nat} (hr : rkd r < 10) (hi : i < mC μ r) :
    ∃ cellB : Cell, H[ad G r i]? = some cellB ∧ cellB.vm.isStatics = false ∧ s.vm.findClass (oNm (rkd r)) = some cellB.cls := by
  have hr1 := rkd_in (show rkd r < 50 by omega)
  have hP := h.1.at' hr1.1 hi
  rw [ent_obj hr] at hP
  exact va_recv C.kg.1 hP (ci := rkd r) (q0 := 0) (vw_at _ hr) rfl
theorem w_virtual {r i : Nat} (hd : decode (mB k) pc = .ok (.invokevirtual ix, 3)) (hm : mOK k2) (hw : Cond.methodLink (oNm (mOwn k)) ix (mY k2) ∈ lwG) (hs : Cond.instanceMethod (mY k2) ∈ lwG ∧ Cond.selects (mY k2).cls (mY k2) (mY k2) ∈ lwG) (hr : rkd r = mOwn k2) (h10 : mOwn k2 < 10) (hi : i < mC μ r)
    (hn : As.length = mArg k2) (hR : roomOK k k2 nc ns st (vr r i :: As))
    (hc : Wp md mdc k2 0 (largs 0 (vr r i :: As)) [] μ 0 0 (fun r μ' => Wp mdc md' k (pc + 3) ls (r.toList ++ st) μ' (nc + mAc k2) (ns + mAs k2) Q)) : Wp md md' k pc ls (As.reverse ++ vr r i :: st) μ nc ns Q := by
  intro G p l e R s m args below meth c H locs als C h hl
  obtain ⟨r1, r2, r3, r4⟩ := C.2.2.2.2.2.2.2.2.1
  have hr10 : rkd r < 10 := by rw [hr]; exact h10
  have hr1 := rkd_in (show rkd r < 50 by omega)
  have hq : cv G (vr r i) = .ref (ad G r i) := by simp only [cv, vr, h.1.rf hr1.1 hi, va_rf]
  have hM := met_of hm hR.2.2.2.2.2 hc G l
  have hP := pre_at (md := md) C h (vr r i :: As)
  simp only [List.map_append, List.map_reverse, List.map_cons, hq] at hP ⊢
  have hv := recv_at C h hr10 hi
  rw [hr, hm.2.1] at hv
  have hr := va_runV (meth := meth) (l := l) (e := e) (below := below) (H := H) (locs := locs) (cells := nc) (slots := ns) (g := F0 m pc als ((As.map (cv G)).reverse ++ .ref (ad G r i) :: st.map (cv G))) (rest := st.map (cv G)) (fix_of C) hM ⟨callB_at C hm hw hR, C.hts _ hs.1, C.hts _ hs.2⟩ ⟨PcW_blind G md μ _, hv, hP⟩ rfl (by rw [List.length_map]; exact hn) hl.1 rfl
    (by show 2 * 0 + _ ≤ 8; rw [cat_map]; have := hR.2.2.2.2.1; omega) hd ⟨Nat.le_trans hR.2.2.1 r3, Nat.le_trans hR.2.2.2.1 r4⟩
  exact w_back C h hl hr (fun r μ' q => q)
theorem w_init {r i : Nat} (hd : decode (mB k) pc = .ok (.invokespecial ix, 3)) (hm : mOK k2) (hw : Cond.methodLink (oNm (mOwn k)) ix (mY k2) ∈ lwG) (hs : Cond.instanceMethod (mY k2) ∈ lwG) (hy : (mY k2).name = "<init>") (hv : mRet k2 = none) (h10 : 10 ≤ r) (hi : i < mC μ r)
    (hn : As.length = mArg k2) (hR : roomOK k k2 nc ns st (vr r i :: As))
    (hc : Wp md mdc k2 0 (largs 0 (vr r i :: As)) [] μ 0 0 (fun r μ' => Wp mdc md' k (pc + 3) ls (r.toList ++ st) μ' (nc + mAc k2) (ns + mAs k2) Q)) : Wp md md' k pc ls (As.reverse ++ vr r i :: st) μ nc ns Q := by
  intro G p l e R s m args below meth c H locs als C h hl
  obtain ⟨r1, r2, r3, r4⟩ := C.2.2.2.2.2.2.2.2.1
  have hq : cv G (vr r i) = .ref (ad G r i) := by simp only [cv, vr, h.1.rf h10 hi, va_rf]
  have hM := met_of hm hR.2.2.2.2.2 hc G l
  have hP := pre_at (md := md) C h (vr r i :: As)
  simp only [List.map_append, List.map_reverse, List.map_cons, hq] at hP ⊢
  have hB := callB_at C hm hw hR
  rw [hv] at hB
  have hr := va_runI (meth := meth) (l := l) (e := e) (below := below) (H := H) (locs := locs) (cells := nc) (slots := ns) (g := F0 m pc als ((As.map (cv G)).reverse ++ .ref (ad G r i) :: st.map (cv G))) (rest := st.map (cv G)) (fix_of C) hM ⟨hB, hy, C.hts _ hs⟩ ⟨PcW_blind G md μ _, hP⟩ rfl (by rw [List.length_map]; exact hn) hl.1 rfl
    (by show 2 * 0 + _ ≤ 8; rw [cat_map]; have := hR.2.2.2.2.1; omega) hd ⟨Nat.le_trans hR.2.2.1 r3, Nat.le_trans hR.2.2.2.1 r4⟩
  exact w_back C h hl hr (fun r μ' q => q)
end CallRules

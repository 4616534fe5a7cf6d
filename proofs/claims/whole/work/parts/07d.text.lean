/-! the texts: length, charAt -/
theorem KS_cat {G : GC} {s : State} {H : Heap} (h : KS G s H) : ∃ v, v.category = 1 ∧ va_Z "jdk/internal/util/Preconditions" "SIOOBE_FORMATTER" "Ljava/util/function/BiFunction;" v (fun q => G.1 ≤ q) s H := by
  obtain ⟨-, -, -, -, h | ⟨t, h⟩⟩ := h
  · exact ⟨_, rfl, h⟩
  · exact ⟨_, rfl, h⟩
/-- from here with values as they are, f frames and L words of locals at hand -/
def Wx (G : GC) (md k f L pc : Nat) (ls : List (Nat × Value)) (st : List Value) (μ : Mem) (Q : Option V → Mem → Prop) : Prop :=
  ∀ (p : Program) (l : Launch) (e : Env) (R : Room) (s : State) (m : MethodId) (args : Array Value) (below : List Frame) (meth : Method) (c : Code) (H : Heap) (locs : List Loc) (als : Array Slot),
    Cx G k p R s m args meth c → f ≤ R.frames → L ≤ R.locals → RepH G md μ s H locs → lv_has als (mLoc k) ls →
    W p l e R s m args below meth c H locs 0 0 (MQ below (QcW G md Q) args s (mAc k) (mAs k) (fun q => G.1 ≤ q)) (F0 m pc als st)
def PcX (G : GC) (md : Nat) (μ : Mem) (As : List Value) : Array Value → State → Prop := fun a U =>
  a = As.toArray ∧ Rep G md μ U.heap ∧ KG G U ∧ G.1 ≤ U.heap.size ∧ G.2.1 < G.1 ∧ KS G U U.heap
theorem PcX_blind (G : GC) (md : Nat) (μ : Mem) (As : List Value) : FrameBlind (PcX G md μ As) := fun a U g mk q =>
  ⟨q.1, q.2.1, KG.same (s := U) (U := U.calling g mk a) rfl q.2.2.1, q.2.2.2.1, q.2.2.2.2.1, KS.same (s := U) (U := U.calling g mk a) rfl q.2.2.2.2.2⟩
def rmX (f L : Nat) : Room := { frames := f, cells := 0, slots := 0, locals := L }
theorem met_x {G : GC} {md k f L : Nat} {μ : Mem} {As : List Value} {Q : Option V → Mem → Prop} (hm : mOK k) (h0 : mFr k = 0 ∧ mLo k = 0 ∧ mAc k = 0 ∧ mAs k = 0) (hlen : (lg_sl As).length ≤ mLoc k) (hc : Wx G md k f L 0 (lv_args 0 As) [] μ Q) (l : Launch) :
    Met l (mY k) (wsM k) (rmX f L) (PcX G md μ As) (QcW G md Q) (mAc k) (mAs k) (fun q => G.1 ≤ q) := by
  refine va_MetF (cc := mB k) (maxL := mLoc k) (ret := mRet k) hm.1 rfl ?_
  intro p e s m args below meth c s₁ B hml hP
  obtain ⟨hargs, hR, hK, hsz, hb, hKS⟩ := hP
  subst hargs
  have hts0 : ∀ w ∈ wsM k, w.before _ s = true := atoms_spec (ws := wsM k) B.pre
  have hown : s.vm.findClass (mY k).cls = some m.cls := findClass_of_methodNamed B.named
  have C : Cx G k p (rmX f L) s m As.toArray meth c := ⟨B.exec, B.bytes, hml, B.returns, B.notSynchronized, by rw [hm.2.1]; exact hown, fun w hw => hts0 w (List.mem_cons_of_mem _ hw), hK, ⟨by rw [h0.1]; exact Nat.zero_le _, by rw [h0.2.1]; exact Nat.zero_le _, by rw [h0.2.2.1]; exact Nat.zero_le _, by rw [h0.2.2.2]; exact Nat.zero_le _⟩, (name_of_methodNamed B.named B.method).1, hsz, hb, hKS⟩
  rw [lg_entry_eq]
  exact hc p l e (rmX f L) s m _ below meth c s.heap [] _ C (Nat.le_refl _) (Nat.le_refl _) ⟨hR, va_S.rf⟩ (lv_entry As (n := mLoc k) hlen)
section TextRules
variable {G : GC} {md md' k k2 pc ix f L f2 L2 : Nat} {st As : List Value} {μ : Mem} {Q : Option V → Mem → Prop}
variable {p : Program} {l : Launch} {e : Env} {R : Room} {s : State} {m : MethodId} {args : Array Value} {below : List Frame} {meth : Method} {c : Code} {H : Heap} {locs : List Loc} {als : Array Slot} {QQ : State → Prop} {nc ns : Nat}
/-- the result of a call that changes nothing -/
def Qr (x : Option V) (μ : Mem) : Option V → Mem → Prop := fun r μ' => r = x ∧ μ' = μ
theorem x_pre (C : Cx G k p R s m args meth c) (h : RepH G md μ s H locs) (As : List Value) : ∀ U : State, U.heap = H → s.WarmedH U.vm → PcX G md μ As As.toArray U := by
  intro U hU hW
  have hz : s.heap.size ≤ H.size := h.2.1
  refine ⟨rfl, by rw [hU]; exact h.1, KG.warm hW C.kg, by rw [hU]; exact Nat.le_trans C.2.2.2.2.2.2.2.2.2.2.1 hz, C.2.2.2.2.2.2.2.2.2.2.2.1, ?_⟩
  rw [hU]
  exact KS.warm hW (C.2.2.2.2.2.2.2.2.2.2.2.2.kept (fun a h1 h2 => h.2.2.1 a h1 h2))
theorem x_back {x : Option V} {aa : Array Value} {st0 : List Value} (h : RepH G md μ s H locs) (h0 : mAc k2 = 0 ∧ mAs k2 = 0)
    (hr : va_Run p l e R s m args below meth c H locs nc ns (mAc k2) (mAs k2) (F0 m pc als st0) st (QcW G md (Qr x μ) aa) (fun q => G.1 ≤ q))
    (kk : ∀ H' locs', RepH G md μ s H' locs' → W p l e R s m args below meth c H' locs' nc ns QQ (F0 m (pc + 3) als ((x.map (cv G)).toList ++ st))) :
    W p l e R s m args below meth c H locs nc ns QQ (F0 m pc als st0) := by
  intro T hT X
  obtain ⟨v, st₀, t, T', L, e0, X', hL, e1, e2, ⟨r, μ', hv, ⟨rfl, rfl⟩, hR, hF⟩, stp⟩ := hr T hT X
  have hv' := Outcome.returned.inj hv
  subst hv'
  have hF1 : H.size ≤ T'.heap.size := by rw [e1, ← e0]; exact hF.1
  have hF2 : ∀ q : Nat, q < H.size → ¬ G.1 ≤ q → T'.heap[q]? = H[q]? := by rw [e1, ← e0]; exact hF.2
  have hS : va_S (fun q => G.1 ≤ q) s.heap T'.heap (locs ++ L) := ⟨Nat.le_trans h.2.1 hF1, fun q a b => (hF2 q (Nat.lt_of_lt_of_le a h.2.1) b).trans (h.2.2.1 q a b), fun q hq => (List.mem_append.mp hq).elim (h.2.2.2 q) (hL q)⟩
  rw [h0.1, h0.2, Nat.add_zero, Nat.add_zero] at X'
  obtain ⟨t2, a1, b1⟩ := kk T'.heap (locs ++ L) ⟨by rw [e1]; exact hR, hS⟩ T' rfl X'
  exact ⟨t2, stp t2 a1, b1⟩
theorem x_callB (C : Cx G k p R s m args meth c) (hm : mOK k2) (hw : Cond.methodLink (oNm (mOwn k)) ix (mY k2) ∈ lwG) (h1 : f2 + 1 ≤ R.frames) (h2 : 8 + (mLoc k2 + 11) + L2 ≤ R.locals) (h0 : mAc k2 = 0 ∧ mAs k2 = 0) :
    CallB R s args (oNm (mOwn k)) ix (mY k2) (mB k2) (mLoc k2) (mRet k2) (wsM k2) (rmX f2 L2) (mAc k2) (mAs k2) (mArg k2) := by
  have hg : GoodIn lwG (wsM k2) := lwG_in fun w h => by
    rcases List.mem_cons.mp h with e | e
    · rw [e]; exact hm.2.2.1
    · exact e
  refine ⟨h0.1.symm, h0.2.symm, h1, h2, pay_in C.hts hg, List.mem_cons_self, C.hts _ hm.2.2.1, C.hts _ hm.2.2.2.1, hm.2.2.2.2.1, fun sig h => ?_, C.hts _ hw⟩
  have h2 := hm.2.2.2.2.2
  rw [h] at h2
  exact (Option.some.inj h2).symm
theorem x_static {x : Option V} (C : Cx G k p R s m args meth c) (h : RepH G md μ s H locs) (hl : als.size = mLoc k) (hd : decode (mB k) pc = .ok (.invokestatic ix, 3)) (hm : mOK k2) (hw : Cond.methodLink (oNm (mOwn k)) ix (mY k2) ∈ lwG) (hs : Cond.static (mY k2) ∈ lwG) (hn : As.length = mArg k2) (h0 : mFr k2 = 0 ∧ mLo k2 = 0 ∧ mAc k2 = 0 ∧ mAs k2 = 0) (h1 : f2 + 1 ≤ R.frames) (h2 : 8 + (mLoc k2 + 11) + L2 ≤ R.locals) (hst : (st.map fun v => v.category).sum ≤ 8) (hlen : (lg_sl As).length ≤ mLoc k2) (hnc : nc ≤ R.cells ∧ ns ≤ R.slots)
    (hc : Wx G md k2 f2 L2 0 (lv_args 0 As) [] μ (Qr x μ)) (kk : ∀ H' locs', RepH G md μ s H' locs' → W p l e R s m args below meth c H' locs' nc ns QQ (F0 m (pc + 3) als ((x.map (cv G)).toList ++ st))) :
    W p l e R s m args below meth c H locs nc ns QQ (F0 m pc als (As.reverse ++ st)) := by
  refine x_back (k2 := k2) h h0.2.2 (va_runS (g := F0 m pc als (As.reverse ++ st)) (rest := st) (fix_of C) (met_x hm h0 hlen hc l) ⟨x_callB C hm hw h1 h2 h0.2.2, C.hts _ hs⟩ ⟨PcX_blind G md μ As, x_pre C h As⟩ rfl hn hl rfl (by show 2 * 0 + _ ≤ 8; omega) hd ⟨by rw [h0.2.2.1]; exact hnc.1, by rw [h0.2.2.2]; exact hnc.2⟩) kk
theorem x_virtual {x : Option V} {b : Addr} (C : Cx G k p R s m args meth c) (h : RepH G md μ s H locs) (hl : als.size = mLoc k) (hd : decode (mB k) pc = .ok (.invokevirtual ix, 3)) (hm : mOK k2) (hw : Cond.methodLink (oNm (mOwn k)) ix (mY k2) ∈ lwG) (hs : Cond.instanceMethod (mY k2) ∈ lwG ∧ Cond.selects (mY k2).cls (mY k2) (mY k2) ∈ lwG) (hn : As.length = mArg k2) (h0 : mFr k2 = 0 ∧ mLo k2 = 0 ∧ mAc k2 = 0 ∧ mAs k2 = 0) (h1 : f2 + 1 ≤ R.frames) (h2 : 8 + (mLoc k2 + 11) + L2 ≤ R.locals) (hst : (st.map fun v => v.category).sum ≤ 8) (hlen : (lg_sl (.ref b :: As)).length ≤ mLoc k2) (hnc : nc ≤ R.cells ∧ ns ≤ R.slots)
    (hv : ∃ cellB : Cell, H[b]? = some cellB ∧ cellB.vm.isStatics = false ∧ s.vm.findClass (mY k2).cls = some cellB.cls)
    (hc : Wx G md k2 f2 L2 0 (lv_args 0 (.ref b :: As)) [] μ (Qr x μ)) (kk : ∀ H' locs', RepH G md μ s H' locs' → W p l e R s m args below meth c H' locs' nc ns QQ (F0 m (pc + 3) als ((x.map (cv G)).toList ++ st))) :
    W p l e R s m args below meth c H locs nc ns QQ (F0 m pc als (As.reverse ++ .ref b :: st)) := by
  refine x_back (k2 := k2) h h0.2.2 (va_runV (g := F0 m pc als (As.reverse ++ .ref b :: st)) (rest := st) (fix_of C) (met_x hm h0 hlen hc l) ⟨x_callB C hm hw h1 h2 h0.2.2, C.hts _ hs.1, C.hts _ hs.2⟩ ⟨PcX_blind G md μ _, hv, x_pre C h (.ref b :: As)⟩ rfl hn hl rfl (by show 2 * 0 + _ ≤ 8; omega) hd ⟨by rw [h0.2.2.1]; exact hnc.1, by rw [h0.2.2.2]; exact hnc.2⟩) kk
theorem x_iret {x : Int32} {ty : FieldType} (C : Cx G k p R s m args meth c) (h : RepH G md μ s H locs) (hd : decode (mB k) pc = .ok (.ireturn, 1)) (hr : mRet k = some ty) (hn : narrow ty (.int x) = .int x) (hq : Q (some (vi x)) μ) :
    W p l e R s m args below meth c H locs 0 0 (MQ below (QcW G md Q) args s (mAc k) (mAs k) (fun q => G.1 ≤ q)) (F0 m pc als [.int x]) := by
  refine W.widen (show 0 ≤ mAc k from Nat.zero_le _) (show 0 ≤ mAs k from Nat.zero_le _) ?_
  exact W.zret (hlocks := C.2.2.2.2.1) C.1 C.2.1 (C.2.2.2.1.trans hr) hn (fun t ht _ => ⟨some (vi x), μ, rfl, hq, by rw [ht]; exact h.1, h.2.F ht⟩) (fun q hq => h.2.2.2 q hq) hd
theorem x_vret (C : Cx G k p R s m args meth c) (h : RepH G md μ s H locs) (hd : decode (mB k) pc = .ok (.return_, 1)) (hr : mRet k = none) (hq : Q none μ) :
    W p l e R s m args below meth c H locs 0 0 (MQ below (QcW G md Q) args s (mAc k) (mAs k) (fun q => G.1 ≤ q)) (F0 m pc als []) := by
  refine W.widen (show 0 ≤ mAc k from Nat.zero_le _) (show 0 ≤ mAs k from Nat.zero_le _) ?_
  exact W.vret (hlocks := C.2.2.2.2.1) C.1 C.2.1 (C.2.2.2.1.trans hr) (fun t ht _ => ⟨none, μ, rfl, hq, by rw [ht]; exact h.1, h.2.F ht⟩) (fun q hq => h.2.2.2 q hq) hd
end TextRules
theorem xm {n : Nat} {w : Cond} (h : tables_1[n]? = some w) (g : goodWord w = true) : w ∈ lwG := lwG_mem (List.mem_append_right _ (List.mem_of_getElem? h)) g
theorem xs {n : Nat} {w : Cond} (h : lw_tbl[n]? = some w) (g : goodWord w = true) : w ∈ lwG := lwG_mem (List.mem_of_getElem? h) g
theorem mok_x {k : Nat} (h1 : plainFor (mY k) = true) (h2 : oNm (mOwn k) = (mY k).cls) (h3 : Cond.code (mY k) (mB k) (mLoc k) (mRet k) ∈ lwG) (h4 : Cond.initialized (mY k).cls ∈ lwG) (h5 : (mY k).cls ≠ "java/lang/invoke/MethodHandle" ∧ (mY k).cls ≠ "java/lang/invoke/VarHandle") (h6 : (parseMethodDescriptor (mY k).desc).map (fun d => d.parameters.length) = some (mArg k)) : mOK k := ⟨h1, h2, h3, h4, h5, h6⟩
theorem mokx_287 : mOK 287 := mok_x (by decide +kernel) rfl (lwG_mem (List.mem_append_right _ cw_287) rfl) (xm (n := 13) (by decide +kernel) rfl) (by decide) (by decide +kernel)
theorem mokx_288 : mOK 288 := mok_x (by decide +kernel) rfl (lwG_mem (List.mem_append_right _ cw_288) rfl) (xm (n := 13) (by decide +kernel) rfl) (by decide) (by decide +kernel)
theorem mokx_289 : mOK 289 := mok_x (by decide +kernel) rfl (lwG_mem (List.mem_append_right _ cw_289) rfl) (xm (n := 13) (by decide +kernel) rfl) (by decide) (by decide +kernel)
theorem mokx_290 : mOK 290 := mok_x (by decide +kernel) rfl (lwG_mem (List.mem_append_right _ cw_290) rfl) (xm (n := 13) (by decide +kernel) rfl) (by decide) (by decide +kernel)
theorem mokx_291 : mOK 291 := mok_x (by decide +kernel) rfl (lwG_mem (List.mem_append_right _ cw_291) rfl) (xm (n := 13) (by decide +kernel) rfl) (by decide) (by decide +kernel)
theorem mokx_292 : mOK 292 := mok_x (by decide +kernel) rfl (lwG_mem (List.mem_append_right _ cw_292) rfl) (xm (n := 14) (by decide +kernel) rfl) (by decide) (by decide +kernel)
theorem mokx_299 : mOK 299 := mok_x (by decide +kernel) rfl (lwG_mem (List.mem_append_right _ cw_299) rfl) (xm (n := 15) (by decide +kernel) rfl) (by decide) (by decide +kernel)
theorem virx_287 : Cond.instanceMethod (mY 287) ∈ lwG ∧ Cond.selects (mY 287).cls (mY 287) (mY 287) ∈ lwG := ⟨xm (n := 522) (by decide +kernel) rfl, xs (n := 663) (by decide +kernel) rfl⟩
theorem virx_288 : Cond.instanceMethod (mY 288) ∈ lwG ∧ Cond.selects (mY 288).cls (mY 288) (mY 288) ∈ lwG := ⟨xm (n := 532) (by decide +kernel) rfl, xs (n := 673) (by decide +kernel) rfl⟩
theorem virx_289 : Cond.instanceMethod (mY 289) ∈ lwG ∧ Cond.selects (mY 289).cls (mY 289) (mY 289) ∈ lwG := ⟨xm (n := 526) (by decide +kernel) rfl, xs (n := 667) (by decide +kernel) rfl⟩
theorem virx_290 : Cond.instanceMethod (mY 290) ∈ lwG ∧ Cond.selects (mY 290).cls (mY 290) (mY 290) ∈ lwG := ⟨xm (n := 536) (by decide +kernel) rfl, xs (n := 677) (by decide +kernel) rfl⟩
theorem stax_291 : Cond.static (mY 291) ∈ lwG := xm (n := 543) (by decide +kernel) rfl
theorem stax_292 : Cond.static (mY 292) ∈ lwG := xm (n := 540) (by decide +kernel) rfl
theorem stax_299 : Cond.static (mY 299) ∈ lwG := xm (n := 548) (by decide +kernel) rfl
theorem flx_cs : Cond.fieldLink "java/lang/String" 38 "java/lang/String" "COMPACT_STRINGS" "Z" ∈ lwG := xm (n := 529) (by decide +kernel) rfl
theorem flx_co : Cond.fieldLink "java/lang/String" 15 "java/lang/String" "coder" "B" ∈ lwG := xm (n := 1782) (by decide +kernel) rfl
theorem flx_va : Cond.fieldLink "java/lang/String" 9 "java/lang/String" "value" "[B" ∈ lwG := xm (n := 1781) (by decide +kernel) rfl
theorem flx_si : Cond.fieldLink "java/lang/String" 1053 "jdk/internal/util/Preconditions" "SIOOBE_FORMATTER" "Ljava/util/function/BiFunction;" ∈ lwG := xm (n := 545) (by decide +kernel) rfl
theorem mlx_287_289 : Cond.methodLink (oNm (mOwn 287)) 335 (mY 289) ∈ lwG := xm (n := 525) (by decide +kernel) rfl
theorem mlx_288_290 : Cond.methodLink (oNm (mOwn 288)) 492 (mY 290) ∈ lwG := xm (n := 535) (by decide +kernel) rfl
theorem mlx_288_292 : Cond.methodLink (oNm (mOwn 288)) 495 (mY 292) ∈ lwG := xm (n := 539) (by decide +kernel) rfl
theorem mlx_291_299 : Cond.methodLink (oNm (mOwn 291)) 1059 (mY 299) ∈ lwG := xm (n := 547) (by decide +kernel) rfl
theorem mlx_292_291 : Cond.methodLink (oNm (mOwn 292)) 9 (mY 291) ∈ lwG := xm (n := 542) (by decide +kernel) rfl
theorem dx_287_0 : decode (mB 287) 0 = .ok (.aload_n 0, 1) := by decide +kernel
theorem dx_287_1 : decode (mB 287) 1 = .ok (.getfield 9, 3) := by decide +kernel
theorem dx_287_4 : decode (mB 287) 4 = .ok (.arraylength, 1) := by decide +kernel
theorem dx_287_5 : decode (mB 287) 5 = .ok (.aload_n 0, 1) := by decide +kernel
theorem dx_287_6 : decode (mB 287) 6 = .ok (.invokevirtual 335, 3) := by decide +kernel
theorem dx_287_9 : decode (mB 287) 9 = .ok (.ishr, 1) := by decide +kernel
theorem dx_287_10 : decode (mB 287) 10 = .ok (.ireturn, 1) := by decide +kernel
theorem dx_288_0 : decode (mB 288) 0 = .ok (.aload_n 0, 1) := by decide +kernel
theorem dx_288_1 : decode (mB 288) 1 = .ok (.invokevirtual 492, 3) := by decide +kernel
theorem dx_288_4 : decode (mB 288) 4 = .ok (.ifCond .eq 12, 3) := by decide +kernel
theorem dx_288_7 : decode (mB 288) 7 = .ok (.aload_n 0, 1) := by decide +kernel
theorem dx_288_8 : decode (mB 288) 8 = .ok (.getfield 9, 3) := by decide +kernel
theorem dx_288_11 : decode (mB 288) 11 = .ok (.iload_n 1, 1) := by decide +kernel
theorem dx_288_12 : decode (mB 288) 12 = .ok (.invokestatic 495, 3) := by decide +kernel
theorem dx_288_15 : decode (mB 288) 15 = .ok (.ireturn, 1) := by decide +kernel
theorem dx_289_0 : decode (mB 289) 0 = .ok (.getstatic 38, 3) := by decide +kernel
theorem dx_289_3 : decode (mB 289) 3 = .ok (.ifCond .eq 10, 3) := by decide +kernel
theorem dx_289_6 : decode (mB 289) 6 = .ok (.aload_n 0, 1) := by decide +kernel
theorem dx_289_7 : decode (mB 289) 7 = .ok (.getfield 15, 3) := by decide +kernel
theorem dx_289_10 : decode (mB 289) 10 = .ok (.goto 4, 3) := by decide +kernel
theorem dx_289_13 : decode (mB 289) 13 = .ok (.iconst 1, 1) := by decide +kernel
theorem dx_289_14 : decode (mB 289) 14 = .ok (.ireturn, 1) := by decide +kernel
theorem dx_290_0 : decode (mB 290) 0 = .ok (.getstatic 38, 3) := by decide +kernel
theorem dx_290_3 : decode (mB 290) 3 = .ok (.ifCond .eq 14, 3) := by decide +kernel
theorem dx_290_6 : decode (mB 290) 6 = .ok (.aload_n 0, 1) := by decide +kernel
theorem dx_290_7 : decode (mB 290) 7 = .ok (.getfield 15, 3) := by decide +kernel
theorem dx_290_10 : decode (mB 290) 10 = .ok (.ifCond .ne 7, 3) := by decide +kernel
theorem dx_290_13 : decode (mB 290) 13 = .ok (.iconst 1, 1) := by decide +kernel
theorem dx_290_14 : decode (mB 290) 14 = .ok (.goto 4, 3) := by decide +kernel
theorem dx_290_17 : decode (mB 290) 17 = .ok (.iconst 0, 1) := by decide +kernel
theorem dx_290_18 : decode (mB 290) 18 = .ok (.ireturn, 1) := by decide +kernel
theorem dx_291_0 : decode (mB 291) 0 = .ok (.iload_n 0, 1) := by decide +kernel
theorem dx_291_1 : decode (mB 291) 1 = .ok (.iload_n 1, 1) := by decide +kernel
theorem dx_291_2 : decode (mB 291) 2 = .ok (.getstatic 1053, 3) := by decide +kernel
theorem dx_291_5 : decode (mB 291) 5 = .ok (.invokestatic 1059, 3) := by decide +kernel
theorem dx_291_8 : decode (mB 291) 8 = .ok (.pop, 1) := by decide +kernel
theorem dx_291_9 : decode (mB 291) 9 = .ok (.return_, 1) := by decide +kernel
theorem dx_292_0 : decode (mB 292) 0 = .ok (.iload_n 1, 1) := by decide +kernel
theorem dx_292_1 : decode (mB 292) 1 = .ok (.aload_n 0, 1) := by decide +kernel
theorem dx_292_2 : decode (mB 292) 2 = .ok (.arraylength, 1) := by decide +kernel
theorem dx_292_3 : decode (mB 292) 3 = .ok (.invokestatic 9, 3) := by decide +kernel
theorem dx_292_6 : decode (mB 292) 6 = .ok (.aload_n 0, 1) := by decide +kernel
theorem dx_292_7 : decode (mB 292) 7 = .ok (.iload_n 1, 1) := by decide +kernel
theorem dx_292_8 : decode (mB 292) 8 = .ok (.baload, 1) := by decide +kernel
theorem dx_292_9 : decode (mB 292) 9 = .ok (.sipush 255, 3) := by decide +kernel
theorem dx_292_12 : decode (mB 292) 12 = .ok (.iand, 1) := by decide +kernel
theorem dx_292_13 : decode (mB 292) 13 = .ok (.i2c, 1) := by decide +kernel
theorem dx_292_14 : decode (mB 292) 14 = .ok (.ireturn, 1) := by decide +kernel
theorem dx_299_0 : decode (mB 299) 0 = .ok (.iload_n 0, 1) := by decide +kernel
theorem dx_299_1 : decode (mB 299) 1 = .ok (.ifCond .lt 8, 3) := by decide +kernel
theorem dx_299_4 : decode (mB 299) 4 = .ok (.iload_n 0, 1) := by decide +kernel
theorem dx_299_5 : decode (mB 299) 5 = .ok (.iload_n 1, 1) := by decide +kernel
theorem dx_299_6 : decode (mB 299) 6 = .ok (.if_icmp .lt 10, 3) := by decide +kernel
theorem dx_299_16 : decode (mB 299) 16 = .ok (.iload_n 0, 1) := by decide +kernel
theorem dx_299_17 : decode (mB 299) 17 = .ok (.ireturn, 1) := by decide +kernel
theorem zx_287 : mFr 287 = 0 ∧ mLo 287 = 0 ∧ mAc 287 = 0 ∧ mAs 287 = 0 := by decide
theorem zx_288 : mFr 288 = 0 ∧ mLo 288 = 0 ∧ mAc 288 = 0 ∧ mAs 288 = 0 := by decide
theorem zx_289 : mFr 289 = 0 ∧ mLo 289 = 0 ∧ mAc 289 = 0 ∧ mAs 289 = 0 := by decide
theorem zx_290 : mFr 290 = 0 ∧ mLo 290 = 0 ∧ mAc 290 = 0 ∧ mAs 290 = 0 := by decide
theorem zx_291 : mFr 291 = 0 ∧ mLo 291 = 0 ∧ mAc 291 = 0 ∧ mAs 291 = 0 := by decide
theorem zx_292 : mFr 292 = 0 ∧ mLo 292 = 0 ∧ mAc 292 = 0 ∧ mAs 292 = 0 := by decide
theorem zx_299 : mFr 299 = 0 ∧ mLo 299 = 0 ∧ mAc 299 = 0 ∧ mAs 299 = 0 := by decide
def aK (G : GC) (i : Nat) : Nat := G.2.2.2.2.1 i
def aV (G : GC) (i : Nat) : Nat := G.2.2.2.2.2 i
theorem Cx.ks {G : GC} {k : Nat} {p : Program} {R : Room} {s : State} {m : MethodId} {args : Array Value} {meth : Method} {c : Code} (C : Cx G k p R s m args meth c) : KS G s s.heap := C.2.2.2.2.2.2.2.2.2.2.2.2
theorem wx_289 {G : GC} {md i : Nat} {μ : Mem} (hi : i < 2) : Wx G md 289 0 0 0 [(0, .ref (aK G i))] [] μ (Qr (some (vi 0)) μ) := by
  intro p l e R s m args below meth c H locs als C hf hL h hl
  obtain ⟨hS, -, -, hZ, -⟩ := C.ks
  refine va_gets C.1 C.2.1 (own := "java/lang/String") hZ h.2 C.own (C.hts _ flx_cs) (fun x z => z) dx_289_0 ?_
  refine lv_if_eq C.1 C.2.1 dx_289_3 (tgt := 13) rfl (fun z => absurd z (by decide)) (fun _ => ?_)
  refine lv_aload_n C.1 C.2.1 dx_289_6 rfl (lv_at hl 0 rfl) ?_
  refine vk_getf C.1 C.2.1 (own := "java/lang/String") (hS.1 i hi).2.1 h.2 C.own (C.hts _ flx_co) (fun x z => z) dx_289_7 ?_
  refine lv_goto C.1 C.2.1 dx_289_10 (tgt := 14) rfl ?_
  exact x_iret C h dx_289_14 rfl rfl ⟨rfl, rfl⟩
theorem wx_290 {G : GC} {md i : Nat} {μ : Mem} (hi : i < 2) : Wx G md 290 0 0 0 [(0, .ref (aK G i))] [] μ (Qr (some (vi 1)) μ) := by
  intro p l e R s m args below meth c H locs als C hf hL h hl
  obtain ⟨hS, -, -, hZ, -⟩ := C.ks
  refine va_gets C.1 C.2.1 (own := "java/lang/String") hZ h.2 C.own (C.hts _ flx_cs) (fun x z => z) dx_290_0 ?_
  refine lv_if_eq C.1 C.2.1 dx_290_3 (tgt := 17) rfl (fun z => absurd z (by decide)) (fun _ => ?_)
  refine lv_aload_n C.1 C.2.1 dx_290_6 rfl (lv_at hl 0 rfl) ?_
  refine vk_getf C.1 C.2.1 (own := "java/lang/String") (hS.1 i hi).2.1 h.2 C.own (C.hts _ flx_co) (fun x z => z) dx_290_7 ?_
  refine lv_if_ne C.1 C.2.1 dx_290_10 (tgt := 17) rfl (fun z => absurd rfl z) (fun _ => ?_)
  refine lv_iconst C.1 C.2.1 dx_290_13 (v := 1) rfl ?_
  refine lv_goto C.1 C.2.1 dx_290_14 (tgt := 18) rfl ?_
  exact x_iret C h dx_290_18 rfl rfl ⟨rfl, rfl⟩
theorem wx_299 {G : GC} {md : Nat} {j n : Int32} {v : Value} {μ : Mem} (h1 : ¬ j < 0) (h2 : j < n) : Wx G md 299 0 0 0 [(0, .int j), (1, .int n), (2, v)] [] μ (Qr (some (vi j)) μ) := by
  intro p l e R s m args below meth c H locs als C hf hL h hl
  refine lv_iload_n C.1 C.2.1 dx_299_0 rfl (lv_at hl 0 rfl) ?_
  refine lv_if_lt C.1 C.2.1 dx_299_1 (tgt := 9) rfl (fun z => absurd z h1) (fun _ => ?_)
  refine lv_iload_n C.1 C.2.1 dx_299_4 rfl (lv_at hl 0 rfl) ?_
  refine lv_iload_n C.1 C.2.1 dx_299_5 rfl (lv_at hl 1 rfl) ?_
  refine lv_icmp_lt C.1 C.2.1 dx_299_6 (tgt := 16) rfl (fun _ => ?_) (fun z => absurd h2 z)
  refine lv_iload_n C.1 C.2.1 dx_299_16 rfl (lv_at hl 0 rfl) ?_
  exact x_iret C h dx_299_17 rfl rfl ⟨rfl, rfl⟩
theorem wx_291 {G : GC} {md : Nat} {j n : Int32} {μ : Mem} (h1 : ¬ j < 0) (h2 : j < n) : Wx G md 291 1 22 0 [(0, .int j), (1, .int n)] [] μ (Qr none μ) := by
  intro p l e R s m args below meth c H locs als C hf hL h hl
  obtain ⟨v, hv, hZ⟩ := KS_cat C.ks
  refine lv_iload_n C.1 C.2.1 dx_291_0 rfl (lv_at hl 0 rfl) ?_
  refine lv_iload_n C.1 C.2.1 dx_291_1 rfl (lv_at hl 1 rfl) ?_
  refine va_gets C.1 C.2.1 (own := "java/lang/String") hZ h.2 C.own (C.hts _ flx_si) (fun x z => z) dx_291_2 ?_
  have e1 : lv_args 0 [.int j, .int n, v] = [(0, .int j), (1, .int n), (2, v)] := rfl
  have e2 : (lg_sl [.int j, .int n, v]).length ≤ 3 := by
    have c1 : (Value.int j).category = 1 := rfl
    have c2 : (Value.int n).category = 1 := rfl
    simp [lg_sl, c1, c2, hv]
  refine x_static (As := [.int j, .int n, v]) (st := []) (x := some (vi j)) (f2 := 0) (L2 := 0) (k2 := 299) C h hl.1 dx_291_5 mokx_299 mlx_291_299 stax_299 rfl zx_299 hf hL (by decide) e2 ⟨Nat.zero_le _, Nat.zero_le _⟩ (by rw [e1]; exact wx_299 h1 h2) (fun H' locs' h' => ?_)
  refine lv_pop C.1 C.2.1 dx_291_8 rfl ?_
  exact x_vret C h' dx_291_9 rfl ⟨rfl, rfl⟩
theorem by_255 : ∀ k, k < 256 → (((Int8.toInt32 (Int8.ofNat k)) &&& 255).toUInt32 % 65536).toInt32 = (Int8.toInt32 (Int8.ofNat k)) &&& 255 := by decide +kernel
theorem byt_ok : ∀ i, i < 2 → lenS.getD i 0 = (bytS.getD i []).length ∧ lenS.getD i 0 < 1000 ∧ ∀ b ∈ bytS.getD i [], (((b &&& 255).toUInt32 % 65536).toInt32 = b ∧ narrow .char (.int b) = .int b) := by decide +kernel
theorem byt_at {i : Nat} (hi : i < 2) {j : Int32} (hj : vp_in j (lenS.getD i 0)) : (((((bytS.getD i []).getD j.toNatClampNeg 0) &&& 255).toUInt32 % 65536).toInt32 = (bytS.getD i []).getD j.toNatClampNeg 0) ∧ narrow .char (.int ((bytS.getD i []).getD j.toNatClampNeg 0)) = .int ((bytS.getD i []).getD j.toNatClampNeg 0) := by
  obtain ⟨h1, h2, h3⟩ := byt_ok i hi
  have : j.toNatClampNeg < (bytS.getD i []).length := by
    rw [← h1]
    exact Nat.not_le.mp fun q => hj (Or.inr q)
  rw [List.getD_eq_getElem?_getD, List.getElem?_eq_getElem this, Option.getD_some]
  exact h3 _ (List.getElem_mem this)
theorem vp_pos {j : Int32} {n : Nat} (h : vp_in j n) (hn : n < 2147483648) : ¬ j < 0 ∧ j < Int32.ofNat n := by
  have h1 : ¬ j < 0 := fun z => h (Or.inl z)
  have h2 : j.toNatClampNeg < n := Nat.not_le.mp fun q => h (Or.inr q)
  refine ⟨h1, ?_⟩
  have h0 : (0 : Int) ≤ j.toInt := by
    have := Int32.not_lt.mp h1
    simpa using Int32.le_iff_toInt_le.mp this
  rw [Int32.lt_iff_toInt_lt, Int32.toInt_ofNat_of_lt hn]
  have : ((j.toNatClampNeg : Nat) : Int) = j.toInt := by
    show ((j.toInt.toNat : Nat) : Int) = j.toInt
    omega
  omega
theorem wx_292 {G : GC} {md i : Nat} {j : Int32} {μ : Mem} (hi : i < 2) (hj : vp_in j (lenS.getD i 0)) : Wx G md 292 2 43 0 [(0, .ref (aV G i)), (1, .int j)] [] μ (Qr (some (vi ((bytS.getD i []).getD j.toNatClampNeg 0))) μ) := by
  intro p l e R s m args below meth c H locs als C hf hL h hl
  obtain ⟨hS, -, -, -, -⟩ := C.ks
  obtain ⟨b1, b2⟩ := byt_at hi hj
  have bl := (byt_ok i hi).2.1
  obtain ⟨p1, p2⟩ := vp_pos hj (by omega)
  have hT := (hS.1 i hi).2.2.2
  refine lv_iload_n C.1 C.2.1 dx_292_0 rfl (lv_at hl 1 rfl) ?_
  refine lv_aload_n C.1 C.2.1 dx_292_1 rfl (lv_at hl 0 rfl) ?_
  refine va_tlen C.1 C.2.1 hT h.2 rfl dx_292_2 ?_
  refine x_static (As := [.int j, .int (Int32.ofNat (lenS.getD i 0))]) (st := []) (x := none) (f2 := 1) (L2 := 22) (k2 := 291) C h hl.1 dx_292_3 mokx_291 mlx_292_291 stax_291 rfl zx_291 hf hL (by decide) (by show 2 ≤ 2; omega) ⟨Nat.zero_le _, Nat.zero_le _⟩ (wx_291 p1 p2) (fun H' locs' h' => ?_)
  refine lv_aload_n C.1 C.2.1 dx_292_6 rfl (lv_at hl 0 rfl) ?_
  refine lv_iload_n C.1 C.2.1 dx_292_7 rfl (lv_at hl 1 rfl) ?_
  refine va_tb C.1 C.2.1 hT h'.2 hj rfl dx_292_8 ?_
  refine lv_sipush C.1 C.2.1 dx_292_9 (v := 255) rfl ?_
  refine lv_iand C.1 C.2.1 dx_292_12 ?_
  refine lv_i2c C.1 C.2.1 dx_292_13 b1 ?_
  exact x_iret C h' dx_292_14 rfl b2 ⟨rfl, rfl⟩
theorem x_recv {G : GC} {md i : Nat} {μ : Mem} {s : State} {H : Heap} {locs : List Loc} (hi : i < 2) (hS : vk_S 2 lenS bytS G.2.2.2.2.1 G.2.2.2.2.2 (fun q => G.1 ≤ q) s s.heap) (h : RepH G md μ s H locs) : ∃ cellB : Cell, H[aK G i]? = some cellB ∧ cellB.vm.isStatics = false ∧ s.vm.findClass "java/lang/String" = some cellB.cls := vk_recv hS hi h.2
theorem wx_287 {G : GC} {md i : Nat} {μ : Mem} (hi : i < 2) : Wx G md 287 1 20 0 [(0, .ref (aK G i))] [] μ (Qr (some (vi (nI (lenS.getD i 0)))) μ) := by
  intro p l e R s m args below meth c H locs als C hf hL h hl
  obtain ⟨hS, -, -, -, -⟩ := C.ks
  refine lv_aload_n C.1 C.2.1 dx_287_0 rfl (lv_at hl 0 rfl) ?_
  refine vk_getf C.1 C.2.1 (own := "java/lang/String") (hS.1 i hi).2.2.1 h.2 C.own (C.hts _ flx_va) (fun x z => z) dx_287_1 ?_
  refine va_tlen C.1 C.2.1 (hS.1 i hi).2.2.2 h.2 rfl dx_287_4 ?_
  refine lv_aload_n C.1 C.2.1 dx_287_5 rfl (lv_at hl 0 rfl) ?_
  refine x_virtual (As := []) (b := aK G i) (st := [.int (Int32.ofNat (lenS.getD i 0))]) (x := some (vi 0)) (f2 := 0) (L2 := 0) (k2 := 289) C h hl.1 dx_287_6 mokx_289 mlx_287_289 virx_289 rfl zx_289 hf hL (by show 1 ≤ 8; omega) (by show 1 ≤ 1; omega) ⟨Nat.zero_le _, Nat.zero_le _⟩ (x_recv hi hS h) (wx_289 hi) (fun H' locs' h' => ?_)
  refine lv_ishr C.1 C.2.1 dx_287_9 ?_
  have e : Int32.ofNat (lenS.getD i 0) >>> ((0 : Int32) &&& 31) = nI (lenS.getD i 0) := by
    have : i = 0 ∨ i = 1 := by omega
    rcases this with rfl | rfl <;> decide
  rw [e]
  · exact x_iret C h' dx_287_10 rfl rfl ⟨rfl, rfl⟩
theorem wx_288 {G : GC} {md i : Nat} {j : Int32} {μ : Mem} (hi : i < 2) (hj : vp_in j (lenS.getD i 0)) : Wx G md 288 3 64 0 [(0, .ref (aK G i)), (1, .int j)] [] μ (Qr (some (vi ((bytS.getD i []).getD j.toNatClampNeg 0))) μ) := by
  intro p l e R s m args below meth c H locs als C hf hL h hl
  obtain ⟨hS, -, -, -, -⟩ := C.ks
  obtain ⟨b1, b2⟩ := byt_at hi hj
  refine lv_aload_n C.1 C.2.1 dx_288_0 rfl (lv_at hl 0 rfl) ?_
  refine x_virtual (As := []) (b := aK G i) (st := []) (x := some (vi 1)) (f2 := 0) (L2 := 0) (k2 := 290) C h hl.1 dx_288_1 mokx_290 mlx_288_290 virx_290 rfl zx_290 (by omega) (by show 8 + (1 + 11) + 0 ≤ _; omega) (by decide) (by show 1 ≤ 1; omega) ⟨Nat.zero_le _, Nat.zero_le _⟩ (x_recv hi hS h) (wx_290 hi) (fun H' locs' h' => ?_)
  refine lv_if_eq C.1 C.2.1 dx_288_4 (tgt := 16) rfl (fun z => absurd z (by decide)) (fun _ => ?_)
  refine lv_aload_n C.1 C.2.1 dx_288_7 rfl (lv_at hl 0 rfl) ?_
  refine vk_getf C.1 C.2.1 (own := "java/lang/String") (hS.1 i hi).2.2.1 h'.2 C.own (C.hts _ flx_va) (fun x z => z) dx_288_8 ?_
  refine lv_iload_n C.1 C.2.1 dx_288_11 rfl (lv_at hl 1 rfl) ?_
  refine x_static (As := [.ref (aV G i), .int j]) (st := []) (x := some (vi ((bytS.getD i []).getD j.toNatClampNeg 0))) (f2 := 2) (L2 := 43) (k2 := 292) C h' hl.1 dx_288_12 mokx_292 mlx_288_292 stax_292 rfl zx_292 hf hL (by decide) (by show 2 ≤ 2; omega) ⟨Nat.zero_le _, Nat.zero_le _⟩ (wx_292 hi hj) (fun H'' locs'' h'' => ?_)
  exact x_iret C h'' dx_288_15 rfl b2 ⟨rfl, rfl⟩
section TextCalls
variable {md md' k pc n : Nat} {ls : List (Nat × V)} {st : List V} {μ : Mem} {nc ns : Nat} {Q : Option V → Mem → Prop}
theorem cv_text {G : GC} {i : Nat} (hi : i < 2) : cv G (vr 3 i) = .ref (aK G i) := by
  have e : rfv G 3 i = some (ad G 3 i) := if_neg (by unfold nul; omega)
  show va_rf (rfv G 3 i) = _
  rw [e]
  rfl
theorem slx_l : Cond.methodLink (oNm 5) 58 (mY 287) ∈ lwG := xm (n := 521) (by decide +kernel) rfl
theorem slx_c : Cond.methodLink (oNm 5) 64 (mY 288) ∈ lwG := xm (n := 531) (by decide +kernel) rfl
theorem w_ldcS {a n : Nat} (hd : decode (mB k) pc = .ok (.ldc n, 2)) (h5 : mOwn k = 5) (hn : n = idxS a) (ha : a < 2) (kk : Wp md md' k (pc + 2) ls (vr 3 a :: st) μ nc ns Q) : Wp md md' k pc ls st μ nc ns Q := by
  intro G p l e R s m args below meth c H locs als C h hl
  obtain ⟨-, h0, h1, -, -⟩ := C.ks
  have ho : s.vm.findClass RX5 = some m.cls := by
    have := C.own
    rw [h5] at this
    exact this
  have hR : vk_R RX5 (idxS a) (strT a) (aK G a) s := by
    have : a = 0 ∨ a = 1 := by omega
    rcases this with rfl | rfl
    · exact h0
    · exact h1
  subst hn
  refine va_ldcS C.1 C.2.1 ho hR hd ?_
  rw [← cv_text ha]
  exact kk G p l e R s m args below meth c H locs als C h hl
theorem w_length {i ix : Nat} (hd : decode (mB k) pc = .ok (.invokevirtual ix, 3)) (h5 : mOwn k = 5) (hix : ix = 58) (hi : i < 2) (hst : (st.map catV).sum ≤ 8) (hR : 5 ≤ mFr k ∧ 100 ≤ mLo k) (hnc : nc ≤ mAc k ∧ ns ≤ mAs k) (kk : Wp md md' k (pc + 3) ls (vi (nI (lenS.getD i 0)) :: st) μ nc ns Q) : Wp md md' k pc ls (vr 3 i :: st) μ nc ns Q := by
  intro G p l e R s m args below meth c H locs als C h hl
  obtain ⟨hS, -, -, -, -⟩ := C.ks
  obtain ⟨r1, r2, r3, r4⟩ := C.2.2.2.2.2.2.2.2.1
  subst hix
  rw [List.map_cons, cv_text hi]
  refine x_virtual (As := []) (b := aK G i) (st := st.map (cv G)) (x := some (vi (nI (lenS.getD i 0)))) (f2 := 1) (L2 := 20) (k2 := 287) C h hl.1 hd mokx_287 (by rw [h5]; exact slx_l) virx_287 rfl zx_287 (by omega) (by show 8 + (1 + 11) + 20 ≤ _; omega) (by rw [cat_map]; exact hst) (by show 1 ≤ 1; omega) ⟨Nat.le_trans hnc.1 r3, Nat.le_trans hnc.2 r4⟩ (x_recv hi hS h) (wx_287 hi) (fun H' locs' h' => ?_)
  exact kk G p l e R s m args below meth c H' locs' als C h' hl
theorem w_charAt {i ix : Nat} {j : Int32} (hd : decode (mB k) pc = .ok (.invokevirtual ix, 3)) (h5 : mOwn k = 5) (hix : ix = 64) (hi : i < 2) (hj : vp_in j (lenS.getD i 0)) (hst : (st.map catV).sum ≤ 8) (hR : 5 ≤ mFr k ∧ 100 ≤ mLo k) (hnc : nc ≤ mAc k ∧ ns ≤ mAs k) (kk : Wp md md' k (pc + 3) ls (vi ((bytS.getD i []).getD j.toNatClampNeg 0) :: st) μ nc ns Q) : Wp md md' k pc ls (vi j :: vr 3 i :: st) μ nc ns Q := by
  intro G p l e R s m args below meth c H locs als C h hl
  obtain ⟨hS, -, -, -, -⟩ := C.ks
  obtain ⟨r1, r2, r3, r4⟩ := C.2.2.2.2.2.2.2.2.1
  subst hix
  rw [List.map_cons, List.map_cons, cv_text hi]
  refine x_virtual (As := [.int j]) (b := aK G i) (st := st.map (cv G)) (x := some (vi ((bytS.getD i []).getD j.toNatClampNeg 0))) (f2 := 3) (L2 := 64) (k2 := 288) C h hl.1 hd mokx_288 (by rw [h5]; exact slx_c) virx_288 rfl zx_288 (by omega) (by show 8 + (2 + 11) + 64 ≤ _; omega) (by rw [cat_map]; exact hst) (by show 2 ≤ 2; omega) ⟨Nat.le_trans hnc.1 r3, Nat.le_trans hnc.2 r4⟩ (x_recv hi hS h) (wx_288 hi hj) (fun H' locs' h' => ?_)
  exact kk G p l e R s m args below meth c H' locs' als C h' hl
end TextCalls
theorem slk_58 {o n : Nat} {e : Nat × Nat × Nat} (he : e ∈ slk o) (h5 : o = 5) (hp : e.1 = n ∧ e.2.1 = 6) : n = 58 := by
  subst h5
  have he' : e = (58, 6, 521) ∨ e = (64, 7, 531) := by simpa [slk] using he
  rcases he' with rfl | rfl
  · exact hp.1.symm
  · exact absurd hp.2 (by decide)
theorem slk_64 {o n : Nat} {e : Nat × Nat × Nat} (he : e ∈ slk o) (h5 : o = 5) (hp : e.1 = n ∧ e.2.1 = 7) : n = 64 := by
  subst h5
  have he' : e = (58, 6, 521) ∨ e = (64, 7, 531) := by simpa [slk] using he
  rcases he' with rfl | rfl
  · exact absurd hp.2 (by decide)
  · exact hp.1.symm

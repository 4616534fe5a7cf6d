theorem popI_vi (x : Int32) (st : List V) (f : Int32 → List V → Prop) : popI (vi x :: st) f = f x st := rfl
theorem popL_vl (x : Int64) (st : List V) (f : Int64 → List V → Prop) : popL (vl x :: st) f = f x st := rfl
theorem popR_vr (r i : Nat) (st : List V) (f : Nat → Nat → List V → Prop) : popR (vr r i :: st) f = f r i st := rfl
theorem pop1_c (v : V) (st : List V) (f : V → List V → Prop) : pop1 (v :: st) f = f v st := rfl
theorem popN_0 (acc st : List V) (f : List V → List V → Prop) : popN 0 acc st f = f acc st := rfl
theorem popN_s (n : Nat) (acc : List V) (v : V) (st : List V) (f : List V → List V → Prop) : popN (n + 1) acc (v :: st) f = popN n (v :: acc) st f := rfl
theorem isL_vi (x : Int32) : isL (vi x) = false := rfl
theorem isL_vl (x : Int64) : isL (vl x) = true := rfl
theorem isL_vr (r i : Nat) : isL (vr r i) = false := rfl
set_option maxHeartbeats 4000000 in
theorem tst {md : Nat} (hm : 1 ≤ md) {μ : Mem} (hC : ∀ r, 10 ≤ r → r < 55 → mC μ r = cap r) {w : Nat} (hw : w < 2) (f : Int32) (Q : Option V → Mem → Prop) : Wp md md 67 0 [(0, vr 31 w), (1, vi f)] [] μ 0 0 Q := by
  refine rn_ok ck_67 (cut := fun t => if t = 4 then some [0, 1, 2, 3] else none) 5 _ _ _ _ _ _ ?_
  simp only [rn, run, step, popI_vi, popL_vl, popR_vr, pop1_c, popN_0, popN_s, ld, lget, lput1, lput2, ldel1, ldel2, lins, lmask, isL_vi, isL_vl, isL_vr, catV, Option.toList_some, Option.toList_none, List.cons_append, List.nil_append, List.map_cons, List.map_nil, List.sum_cons, List.sum_nil, rkd, rsz, rel, refI, isS, chs, cap, mC_rowI, mC_rowL, mC_rowR, mI_rowI, mL_rowL, mR_rowR, mI_rowL, mI_rowR, mL_rowI, mL_rowR, mR_rowI, mR_rowL, ne_eq, not_true_eq_false, not_false_eq_true, and_true, true_and, and_self, or_true, true_or, or_false, false_or, if_true, if_false, ite_true, ite_false, forall_const, Nat.zero_le, reduceCtorEq, Nat.reduceEqDiff, Nat.reduceAdd, Nat.reduceMul, Nat.reduceSub, Nat.reduceLT, Nat.reduceLeDiff, Nat.reduceBEq, Int32.reduceOfInt, and_false, false_and, or_self, Bool.false_eq_true, ↓reduceIte, largs, bk_67, hC, hm, hw]
  trace_state
  sorry

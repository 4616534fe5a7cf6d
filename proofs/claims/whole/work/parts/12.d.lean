/-! pure functions over the memory: words -/
def CC (μ : Mem) : Prop := (∀ r, 10 ≤ r → r < 55 → mC μ r = cap r) ∧ (mC μ 0 < 374 ∨ ∀ r, 55 ≤ r → r < 104 → mC μ r = cap r)
def CM (μ : Mem) : Prop := ∀ r, 10 ≤ r → r < 104 → mC μ r = cap r
def irm (x y : Int32) : Int32 := x - x / y * y
def lrm (x y : Int64) : Int64 := x - x / y * y
def ushr (x y : Int32) : Int32 := (x.toUInt32 >>> (y.toUInt32 &&& Int32.toUInt32 31)).toInt32
def cl (j : Int32) : Nat := j.toNatClampNeg
def inB (j : Int32) (n : Nat) : Bool := decide (0 ≤ j) && decide (cl j < n)
def stI (μ : Mem) (r i k : Nat) (v : Int32) : Mem := rowI μ r i (up (mI μ r i) k v)
def stL (μ : Mem) (r i k : Nat) (v : Int64) : Mem := rowL μ r i (up (mL μ r i) k v)
def stR (μ : Mem) (r i k : Nat) (v : Nat) : Mem := rowR μ r i (up (mR μ r i) k v)
def cpI (μ : Mem) (r i r' i' sp dp n : Nat) : Mem := rowI μ r i (va_cpy (mI μ r' i') (mI μ r i) sp dp n)
def ob {α β : Type} (o : Option (α × Mem)) (f : α → Mem → Option β) : Option β := match o with
  | some (a, μ) => f a μ
  | none => none
def mb {β : Type} (μ : Mem) (f : Mem → Option β) : Option β := f μ
def vb {α β : Type} (x : α) (f : α → Option β) : Option β := f x
def fixN {F : Type} (bot : F) (b : F → F) : Nat → F
  | 0 => bot
  | n + 1 => b (fixN bot b n)
-- SluiceLogs$State.become(LSluiceLogs$State;)V
def st_become (i0 : Nat) (i1 : Nat) (μ : Mem) : Option (Unit × Mem) :=
mb (cpI (cpI μ 27 i0 27 i1 0 0 12) 28 i0 28 i1 0 0 6) fun μ1 =>
mb (cpI (cpI μ1 29 i0 29 i1 0 0 6) 30 i0 30 i1 0 0 6) fun μ3 =>
mb (stI (stI μ3 26 i0 4 (mI μ3 26 i1 4)) 26 i0 5 (mI (stI μ3 26 i0 4 (mI μ3 26 i1 4)) 26 i1 5)) fun μ5 =>
some ((), (stI μ5 26 i0 6 (mI μ5 26 i1 6)))
-- java/lang/Math.min(II)I
def j_min (x0 : Int32) (x1 : Int32) (μ : Mem) : Option (Int32 × Mem) :=
if x1 < x0 then
some (x1, μ) else
some (x0, μ)
-- SluiceLogs$Past.push(LSluiceLogs$State;)V
def pa_push (i1 : Nat) (μ : Mem) : Option (Unit × Mem) :=
if (nI 40) ≤ ((mI μ 44 0 1) + (nI 1)) then
if inB (mI (stI μ 44 0 1 (nI 0)) 44 0 1) 40 = true then
ob (st_become ((cl (mI (stI μ 44 0 1 (nI 0)) 44 0 1)) + 4) i1 (stI μ 44 0 1 (nI 0))) fun _ μ6 =>
ob (j_min ((mI μ6 44 0 2) + (nI 1)) (nI 40) μ6) fun r14 μ11 =>
some ((), (stI μ11 44 0 2 r14)) else none else
if inB (mI (stI μ 44 0 1 ((mI μ 44 0 1) + (nI 1))) 44 0 1) 40 = true then
ob (st_become ((cl (mI (stI μ 44 0 1 ((mI μ 44 0 1) + (nI 1))) 44 0 1)) + 4) i1 (stI μ 44 0 1 ((mI μ 44 0 1) + (nI 1)))) fun _ μ20 =>
ob (j_min ((mI μ20 44 0 2) + (nI 1)) (nI 40) μ20) fun r28 μ25 =>
some ((), (stI μ25 44 0 2 r28)) else none
-- SluiceLogs$Past.pop(LSluiceLogs$State;)Z
def pa_pop (i1 : Nat) (μ : Mem) : Option (Int32 × Mem) :=
if (mI μ 44 0 2) = (nI 0) then
some ((nI 0), μ) else
if inB (mI μ 44 0 1) 40 = true then
ob (st_become i1 ((cl (mI μ 44 0 1)) + 4) μ) fun _ μ6 =>
if (mI μ6 44 0 1) ≤ (nI 0) then
mb (stI (stI μ6 44 0 1 (nI 39)) 44 0 2 ((mI (stI μ6 44 0 1 (nI 39)) 44 0 2) - (nI 1))) fun μ14 =>
some ((nI 1), μ14) else
mb (stI (stI μ6 44 0 1 ((mI μ6 44 0 1) - (nI 1))) 44 0 2 ((mI (stI μ6 44 0 1 ((mI μ6 44 0 1) - (nI 1))) 44 0 2) - (nI 1))) fun μ16 =>
some ((nI 1), μ16) else none
-- java/util/Arrays.fill([II)V
def j_fillI_r27_B5 (i0 : Nat) (x1 : Int32) (x3 : Int32)  (self : Int32 → Mem → Option (Unit × Mem)) (x2 : Int32) (μ : Mem) : Option (Unit × Mem) :=
if x3 ≤ x2 then
some ((), μ) else
if inB x2 12 = true then
self (x2 + (nI 1)) (stI μ 27 i0 (cl x2) x1) else none
def j_fillI_r27_L5 (i0 : Nat) (x1 : Int32) (x3 : Int32)  : Int32 → Mem → Option (Unit × Mem) := fixN (fun _ _ => none) (j_fillI_r27_B5 i0 x1 x3) 60000
def j_fillI_r27 (i0 : Nat) (x1 : Int32) (μ : Mem) : Option (Unit × Mem) :=
j_fillI_r27_L5 i0 x1 (nI 12)  (nI 0) μ
-- java/util/Arrays.fill([II)V
def j_fillI_r28_B5 (i0 : Nat) (x1 : Int32) (x3 : Int32)  (self : Int32 → Mem → Option (Unit × Mem)) (x2 : Int32) (μ : Mem) : Option (Unit × Mem) :=
if x3 ≤ x2 then
some ((), μ) else
if inB x2 6 = true then
self (x2 + (nI 1)) (stI μ 28 i0 (cl x2) x1) else none
def j_fillI_r28_L5 (i0 : Nat) (x1 : Int32) (x3 : Int32)  : Int32 → Mem → Option (Unit × Mem) := fixN (fun _ _ => none) (j_fillI_r28_B5 i0 x1 x3) 60000
def j_fillI_r28 (i0 : Nat) (x1 : Int32) (μ : Mem) : Option (Unit × Mem) :=
j_fillI_r28_L5 i0 x1 (nI 6)  (nI 0) μ
-- java/util/Arrays.fill([II)V
def j_fillI_r29_B5 (i0 : Nat) (x1 : Int32) (x3 : Int32)  (self : Int32 → Mem → Option (Unit × Mem)) (x2 : Int32) (μ : Mem) : Option (Unit × Mem) :=
if x3 ≤ x2 then
some ((), μ) else
if inB x2 6 = true then
self (x2 + (nI 1)) (stI μ 29 i0 (cl x2) x1) else none
def j_fillI_r29_L5 (i0 : Nat) (x1 : Int32) (x3 : Int32)  : Int32 → Mem → Option (Unit × Mem) := fixN (fun _ _ => none) (j_fillI_r29_B5 i0 x1 x3) 60000
def j_fillI_r29 (i0 : Nat) (x1 : Int32) (μ : Mem) : Option (Unit × Mem) :=
j_fillI_r29_L5 i0 x1 (nI 6)  (nI 0) μ
-- java/util/Arrays.fill([II)V
def j_fillI_r30_B5 (i0 : Nat) (x1 : Int32) (x3 : Int32)  (self : Int32 → Mem → Option (Unit × Mem)) (x2 : Int32) (μ : Mem) : Option (Unit × Mem) :=
if x3 ≤ x2 then
some ((), μ) else
if inB x2 6 = true then
self (x2 + (nI 1)) (stI μ 30 i0 (cl x2) x1) else none
def j_fillI_r30_L5 (i0 : Nat) (x1 : Int32) (x3 : Int32)  : Int32 → Mem → Option (Unit × Mem) := fixN (fun _ _ => none) (j_fillI_r30_B5 i0 x1 x3) 60000
def j_fillI_r30 (i0 : Nat) (x1 : Int32) (μ : Mem) : Option (Unit × Mem) :=
j_fillI_r30_L5 i0 x1 (nI 6)  (nI 0) μ
-- SluiceLogs$State.empty()V
def st_empty (i0 : Nat) (μ : Mem) : Option (Unit × Mem) :=
ob (j_fillI_r27 i0 (nI 0) μ) fun _ μ1 =>
ob (j_fillI_r28 i0 (-2 : Int32) μ1) fun _ μ6 =>
ob (j_fillI_r29 i0 (nI 0) μ6) fun _ μ11 =>
ob (j_fillI_r30 i0 (nI 0) μ11) fun _ μ16 =>
mb (stI (stI μ16 26 i0 4 (nI 8)) 26 i0 5 (nI 0)) fun μ21 =>
some ((), (stI μ21 26 i0 6 (nI 0)))
-- SluiceLogs$Plan.addCode(I)V
def pl_addCode (i0 : Nat) (x1 : Int32) (μ : Mem) : Option (Unit × Mem) :=
if (nI 408) ≤ (mI μ 18 i0 11) then
some ((), μ) else
if inB (mI μ 18 i0 11) 408 = true then
mb (stI (stI μ 25 i0 (cl (mI μ 18 i0 11)) x1) 18 i0 11 ((mI (stI μ 25 i0 (cl (mI μ 18 i0 11)) x1) 18 i0 11) + (nI 1))) fun μ6 =>
some ((), μ6) else none
-- SluiceLogs$Plan.addUntoldLaw(II)V
def pl_addUntoldLaw (i0 : Nat) (x1 : Int32) (x2 : Int32) (μ : Mem) : Option (Unit × Mem) :=
if inB x1 4 = true then
ob (pl_addCode i0 x2 (stI μ 24 i0 (cl x1) (mI μ 18 i0 11))) fun _ μ3 =>
ob (pl_addCode i0 (nI 20006) μ3) fun _ μ8 =>
some ((), μ8) else none
-- SluiceLogs$Plan.empty()V
def pl_empty (i0 : Nat) (μ : Mem) : Option (Unit × Mem) :=
mb (stI (stI μ 18 i0 0 (nI 0)) 18 i0 1 (nI 0)) fun μ1 =>
mb (stI (stI μ1 18 i0 2 (nI 0)) 18 i0 3 (nI 0)) fun μ3 =>
ob (st_empty i0 μ3) fun _ μ5 =>
ob (pl_addUntoldLaw i0 (nI 0) (nI 10001) (stI μ5 18 i0 11 (nI 0))) fun _ μ10 =>
ob (pl_addUntoldLaw i0 (nI 1) (nI 10000) μ10) fun _ μ15 =>
ob (pl_addUntoldLaw i0 (nI 2) (nI 1) μ15) fun _ μ20 =>
ob (pl_addUntoldLaw i0 (nI 3) (nI 0) μ20) fun _ μ25 =>
some ((), μ25)
-- SluiceLogs$Plan.elseBehind(I)I
def pl_elseBehind_B2 (i0 : Nat)  (self : Int32 → Mem → Option (Int32 × Mem)) (x2 : Int32) (μ : Mem) : Option (Int32 × Mem) :=
if (mI μ 18 i0 11) ≤ x2 then
some ((mI μ 18 i0 11), μ) else
if inB x2 408 = true then
if (mI μ 25 i0 (cl x2)) = (nI 20005) then
some (x2, μ) else
self (x2 + (nI 1)) μ else none
def pl_elseBehind_L2 (i0 : Nat)  : Int32 → Mem → Option (Int32 × Mem) := fixN (fun _ _ => none) (pl_elseBehind_B2 i0) 60000
def pl_elseBehind (i0 : Nat) (x1 : Int32) (μ : Mem) : Option (Int32 × Mem) :=
pl_elseBehind_L2 i0  x1 μ
-- SluiceLogs$Plan.notchesOf(I)I
def pl_notchesOf_B4 (i0 : Nat) (x1 : Int32)  (self : Int32 → Int32 → Mem → Option (Int32 × Mem)) (x2 : Int32) (x3 : Int32) (μ : Mem) : Option (Int32 × Mem) :=
if (mI μ 18 i0 2) ≤ x3 then
some (x2, μ) else
if inB x3 12 = true then
if (mI μ 22 i0 (cl x3)) = x1 then
self (x2 ||| ((nI 1) <<< (x3 &&& 31))) (x3 + (nI 1)) μ else
self x2 (x3 + (nI 1)) μ else none
def pl_notchesOf_L4 (i0 : Nat) (x1 : Int32)  : Int32 → Int32 → Mem → Option (Int32 × Mem) := fixN (fun _ _ _ => none) (pl_notchesOf_B4 i0 x1) 60000
def pl_notchesOf (i0 : Nat) (x1 : Int32) (μ : Mem) : Option (Int32 × Mem) :=
pl_notchesOf_L4 i0 x1  (nI 0) (nI 0) μ
-- SluiceLogs$Reader.kind()I
def rd_kind  (μ : Mem) : Option (Int32 × Mem) :=
if inB (mI μ 12 0 4) 402 = true then
some ((mI μ 14 0 (cl (mI μ 12 0 4))), μ) else none
-- SluiceLogs$Reader.fail(I)Z
def rd_fail (x1 : Int32) (μ : Mem) : Option (Int32 × Mem) :=
if inB (mI (stI μ 12 0 0 x1) 12 0 4) 402 = true then
mb (stI (stI μ 12 0 0 x1) 12 0 1 (mI (stI μ 12 0 0 x1) 15 0 (cl (mI (stI μ 12 0 0 x1) 12 0 4)))) fun μ3 =>
some ((nI 0), μ3) else none
-- SluiceLogs$Reader.failLater(I)V
def rd_failLater (x1 : Int32) (μ : Mem) : Option (Unit × Mem) :=
if (mI μ 12 0 5) = (nI 0) then
if (mI μ 12 0 4) ≤ (nI 0) then
some ((), μ) else
if inB ((mI (stI μ 12 0 5 x1) 12 0 4) - (nI 1)) 402 = true then
mb (stI (stI μ 12 0 5 x1) 12 0 6 (mI (stI μ 12 0 5 x1) 15 0 (cl ((mI (stI μ 12 0 5 x1) 12 0 4) - (nI 1))))) fun μ9 =>
some ((), μ9) else none else
some ((), μ)
-- SluiceLogs$Reader.pass()Z
def rd_pass  (μ : Mem) : Option (Int32 × Mem) :=
if (mI μ 12 0 4) < (nI 400) then
some ((nI 1), (stI μ 12 0 4 ((mI μ 12 0 4) + (nI 1)))) else
ob (rd_fail (nI 2) μ) fun r7 μ4 =>
if r7 = nI 0 ∨ r7 = nI 1 then
some (r7, μ4) else none
-- SluiceLogs$Reader.take(I)Z
def rd_take (x1 : Int32) (μ : Mem) : Option (Int32 × Mem) :=
ob (rd_kind μ) fun r4 μ1 =>
if r4 = x1 then
ob (rd_pass μ1) fun r20 μ17 =>
if r20 = nI 0 ∨ r20 = nI 1 then
some (r20, μ17) else none else
ob (rd_fail (nI 1) μ1) fun r12 μ9 =>
if r12 = nI 0 ∨ r12 = nI 1 then
some (r12, μ9) else none
-- SluiceLogs$Reader.taken()J
def rd_taken  (μ : Mem) : Option (Int64 × Mem) :=
if (mI μ 12 0 4) ≤ (nI 0) then
some ((0 : Int64), μ) else
if inB ((mI μ 12 0 4) - (nI 1)) 402 = true then
some ((mL μ 16 0 (cl ((mI μ 12 0 4) - (nI 1)))), μ) else none
-- SluiceLogs$Reader.takeNumber(II)Z
def rd_takeNumber (x1 : Int32) (x2 : Int32) (μ : Mem) : Option (Int32 × Mem) :=
ob (rd_take (nI 41) μ) fun r4 μ1 =>
if r4 = (nI 0) then
some ((nI 0), μ1) else
ob (rd_taken μ1) fun r12 μ9 =>
if (lg_cmp r12 (Int32.toInt64 x1)) < (nI 0) then
ob (rd_failLater (nI 5) μ9) fun _ μ17 =>
some ((nI 1), μ17) else
ob (rd_taken μ9) fun r26 μ23 =>
if (lg_cmp r26 (Int32.toInt64 x2)) ≤ (nI 0) then
some ((nI 1), μ23) else
ob (rd_failLater (nI 5) μ23) fun _ μ31 =>
some ((nI 1), μ31)
-- SluiceLogs$Reader.logNamed(J)I
def rd_logNamed_B2 (x1 : Int64)  (self : Int32 → Mem → Option (Int32 × Mem)) (x3 : Int32) (μ : Mem) : Option (Int32 × Mem) :=
if (mR μ 12 0 3) < 2 then
if (mI μ 18 (mR μ 12 0 3) 0) ≤ x3 then
some ((-1 : Int32), μ) else
if inB x3 4 = true then
if (lg_cmp (mL μ 19 (mR μ 12 0 3) (cl x3)) x1) = (nI 0) then
some (x3, μ) else
self (x3 + (nI 1)) μ else none else none
def rd_logNamed_L2 (x1 : Int64)  : Int32 → Mem → Option (Int32 × Mem) := fixN (fun _ _ => none) (rd_logNamed_B2 x1) 60000
def rd_logNamed (x1 : Int64) (μ : Mem) : Option (Int32 × Mem) :=
rd_logNamed_L2 x1  (nI 0) μ
-- SluiceLogs$Reader.fieldNamed(J)I
def rd_fieldNamed_B2 (x1 : Int64)  (self : Int32 → Mem → Option (Int32 × Mem)) (x3 : Int32) (μ : Mem) : Option (Int32 × Mem) :=
if (mR μ 12 0 3) < 2 then
if (mI μ 18 (mR μ 12 0 3) 1) ≤ x3 then
some ((-1 : Int32), μ) else
if inB x3 6 = true then
if (lg_cmp (mL μ 20 (mR μ 12 0 3) (cl x3)) x1) = (nI 0) then
some (x3, μ) else
self (x3 + (nI 1)) μ else none else none
def rd_fieldNamed_L2 (x1 : Int64)  : Int32 → Mem → Option (Int32 × Mem) := fixN (fun _ _ => none) (rd_fieldNamed_B2 x1) 60000
def rd_fieldNamed (x1 : Int64) (μ : Mem) : Option (Int32 × Mem) :=
rd_fieldNamed_L2 x1  (nI 0) μ
-- SluiceLogs$Reader.takeNewName()Z
def rd_takeNewName  (μ : Mem) : Option (Int32 × Mem) :=
ob (rd_take (nI 40) μ) fun r4 μ1 =>
if r4 = (nI 0) then
some ((nI 0), μ1) else
ob (rd_taken μ1) fun r12 μ9 =>
ob (rd_logNamed r12 μ9) fun r17 μ14 =>
if r17 = (-1 : Int32) then
ob (rd_taken μ14) fun r31 μ28 =>
ob (rd_fieldNamed r31 μ28) fun r36 μ33 =>
if r36 = (-1 : Int32) then
some ((nI 1), μ33) else
ob (rd_failLater (nI 3) μ33) fun _ μ41 =>
some ((nI 1), μ41) else
ob (rd_failLater (nI 3) μ14) fun _ μ22 =>
some ((nI 1), μ22)
-- SluiceLogs$Reader.readLog()Z
def rd_readLog  (μ : Mem) : Option (Int32 × Mem) :=
if (mR μ 12 0 3) < 2 then
if (mI μ 18 (mR μ 12 0 3) 0) < (nI 4) then
ob (rd_pass μ) fun r9 μ6 =>
if r9 = (nI 0) then
some ((nI 0), μ6) else
ob (rd_takeNewName μ6) fun r17 μ14 =>
if r17 = (nI 0) then
some ((nI 0), μ14) else
if (mR μ14 12 0 3) < 2 then
ob (rd_taken μ14) fun r27 μ24 =>
if inB (mI μ14 18 (mR μ14 12 0 3) 0) 4 = true then
mb (stL μ24 19 (mR μ14 12 0 3) (cl (mI μ14 18 (mR μ14 12 0 3) 0)) r27) fun μ31 =>
if (mR μ31 12 0 3) < 2 then
mb (stI μ31 18 (mR μ31 12 0 3) 0 ((mI μ31 18 (mR μ31 12 0 3) 0) + (nI 1))) fun μ35 =>
ob (rd_take (nI 30) μ35) fun r40 μ37 =>
if r40 = nI 0 ∨ r40 = nI 1 then
some (r40, μ37) else none else none else none else none else
ob (rd_fail (nI 2) μ) fun r51 μ48 =>
if r51 = nI 0 ∨ r51 = nI 1 then
some (r51, μ48) else none else none
-- SluiceLogs$Reader.readField()Z
def rd_readField  (μ : Mem) : Option (Int32 × Mem) :=
if (mR μ 12 0 3) < 2 then
if (mI μ 18 (mR μ 12 0 3) 1) < (nI 6) then
ob (rd_pass μ) fun r9 μ6 =>
if r9 = (nI 0) then
some ((nI 0), μ6) else
ob (rd_takeNewName μ6) fun r17 μ14 =>
if r17 = (nI 0) then
some ((nI 0), μ14) else
if (mR μ14 12 0 3) < 2 then
ob (rd_taken μ14) fun r27 μ24 =>
if inB (mI μ14 18 (mR μ14 12 0 3) 1) 6 = true then
mb (stL μ24 20 (mR μ14 12 0 3) (cl (mI μ14 18 (mR μ14 12 0 3) 1)) r27) fun μ31 =>
if (mR μ31 12 0 3) < 2 then
mb (stI μ31 18 (mR μ31 12 0 3) 1 ((mI μ31 18 (mR μ31 12 0 3) 1) + (nI 1))) fun μ35 =>
ob (rd_takeNumber (nI 1) (nI 99) μ35) fun r40 μ37 =>
if r40 = (nI 0) then
some ((nI 0), μ37) else
if (mR μ37 12 0 3) < 2 then
ob (rd_taken μ37) fun r50 μ47 =>
if inB ((mI μ37 18 (mR μ37 12 0 3) 1) - (nI 1)) 6 = true then
mb (stI μ47 21 (mR μ37 12 0 3) (cl ((mI μ37 18 (mR μ37 12 0 3) 1) - (nI 1))) (Int64.toInt32 r50)) fun μ54 =>
ob (rd_take (nI 30) μ54) fun r59 μ56 =>
if r59 = nI 0 ∨ r59 = nI 1 then
some (r59, μ56) else none else none else none else none else none else none else
ob (rd_fail (nI 2) μ) fun r72 μ69 =>
if r72 = nI 0 ∨ r72 = nI 1 then
some (r72, μ69) else none else none
-- java/lang/Integer.bitCount(I)I
def j_bitCount (x0 : Int32) (μ : Mem) : Option (Int32 × Mem) :=
vb ((x0 - ((ushr x0 (nI 1)) &&& (nI 1431655765)))) fun v1 : Int32 =>
vb (((v1 &&& (nI 858993459)) + ((ushr v1 (nI 2)) &&& (nI 858993459)))) fun v2 : Int32 =>
vb (((v2 + (ushr v2 (nI 4))) &&& (nI 252645135))) fun v3 : Int32 =>
vb (((v3 + (ushr v3 (nI 8))) + (ushr (v3 + (ushr v3 (nI 8))) (nI 16)))) fun v4 : Int32 =>
some ((v4 &&& (nI 63)), μ)
-- SluiceLogs$Reader.readTo()Z
def rd_readTo  (μ : Mem) : Option (Int32 × Mem) :=
ob (rd_kind μ) fun r4 μ1 =>
if r4 = (nI 10) then
if (mR μ1 12 0 3) < 2 then
if inB (mI μ1 18 (mR μ1 12 0 3) 2) 12 = true then
mb (stI μ1 23 (mR μ1 12 0 3) (cl (mI μ1 18 (mR μ1 12 0 3) 2)) (nI 20)) fun μ85 =>
ob (rd_pass μ85) fun r90 μ87 =>
if r90 = nI 0 ∨ r90 = nI 1 then
some (r90, μ87) else none else none else none else
ob (rd_take (nI 40) μ1) fun r12 μ9 =>
if r12 = (nI 0) then
some ((nI 0), μ9) else
ob (rd_taken μ9) fun r20 μ17 =>
ob (rd_logNamed r20 μ17) fun r25 μ22 =>
ob (rd_taken μ22) fun r30 μ27 =>
ob (rd_fieldNamed r30 μ27) fun r35 μ32 =>
if r25 = (-1 : Int32) then
if r35 = (-1 : Int32) then
ob (rd_failLater (nI 4) μ32) fun _ μ63 =>
if (mR μ63 12 0 3) < 2 then
if inB (mI μ63 18 (mR μ63 12 0 3) 2) 12 = true then
mb (stI μ63 23 (mR μ63 12 0 3) (cl (mI μ63 18 (mR μ63 12 0 3) 2)) ((nI 10) + r35)) fun μ73 =>
some ((nI 1), μ73) else none else none else
if (mR μ32 12 0 3) < 2 then
if inB (mI μ32 18 (mR μ32 12 0 3) 2) 12 = true then
mb (stI μ32 23 (mR μ32 12 0 3) (cl (mI μ32 18 (mR μ32 12 0 3) 2)) ((nI 10) + r35)) fun μ61 =>
some ((nI 1), μ61) else none else none else
if (mR μ32 12 0 3) < 2 then
if r25 = (-1 : Int32) then
if inB (mI μ32 18 (mR μ32 12 0 3) 2) 12 = true then
mb (stI μ32 23 (mR μ32 12 0 3) (cl (mI μ32 18 (mR μ32 12 0 3) 2)) ((nI 10) + r35)) fun μ47 =>
some ((nI 1), μ47) else none else
if inB (mI μ32 18 (mR μ32 12 0 3) 2) 12 = true then
mb (stI μ32 23 (mR μ32 12 0 3) (cl (mI μ32 18 (mR μ32 12 0 3) 2)) r25) fun μ51 =>
some ((nI 1), μ51) else none else none
-- SluiceLogs$Reader.readNotch()Z
def rd_readNotch  (μ : Mem) : Option (Int32 × Mem) :=
if (mR μ 12 0 3) < 2 then
if (mI μ 18 (mR μ 12 0 3) 2) < (nI 12) then
ob (rd_pass μ) fun r9 μ6 =>
if r9 = (nI 0) then
some ((nI 0), μ6) else
ob (rd_take (nI 40) μ6) fun r17 μ14 =>
if r17 = (nI 0) then
some ((nI 0), μ14) else
ob (rd_taken μ14) fun r25 μ22 =>
ob (rd_logNamed r25 μ22) fun r30 μ27 =>
if r30 = (-1 : Int32) then
ob (rd_failLater (nI 4) μ27) fun _ μ154 =>
if (mR μ154 12 0 3) < 2 then
if inB (mI μ154 18 (mR μ154 12 0 3) 2) 12 = true then
mb (stI μ154 22 (mR μ154 12 0 3) (cl (mI μ154 18 (mR μ154 12 0 3) 2)) r30) fun μ163 =>
ob (rd_readTo μ163) fun r168 μ165 =>
if r168 = (nI 0) then
some ((nI 0), μ165) else
ob (rd_takeNumber (nI 0) (nI 3) μ165) fun r176 μ173 =>
if r176 = (nI 0) then
some ((nI 0), μ173) else
if (mR μ173 12 0 3) < 2 then
ob (rd_taken μ173) fun r186 μ183 =>
if inB (mI μ173 18 (mR μ173 12 0 3) 2) 12 = true then
mb (stI μ183 27 (mR μ173 12 0 3) (cl (mI μ173 18 (mR μ173 12 0 3) 2)) (Int64.toInt32 r186)) fun μ190 =>
if (mR μ190 12 0 3) < 2 then
mb (stI μ190 18 (mR μ190 12 0 3) 2 ((mI μ190 18 (mR μ190 12 0 3) 2) + (nI 1))) fun μ194 =>
ob (rd_take (nI 30) μ194) fun r199 μ196 =>
if r199 = nI 0 ∨ r199 = nI 1 then
some (r199, μ196) else none else none else none else none else none else none else
if (mR μ27 12 0 3) < 2 then
ob (pl_notchesOf (mR μ27 12 0 3) r30 μ27) fun r40 μ37 =>
ob (j_bitCount r40 μ37) fun r45 μ42 =>
if r45 < (nI 3) then
if (mR μ42 12 0 3) < 2 then
if inB (mI μ42 18 (mR μ42 12 0 3) 2) 12 = true then
mb (stI μ42 22 (mR μ42 12 0 3) (cl (mI μ42 18 (mR μ42 12 0 3) 2)) r30) fun μ54 =>
ob (rd_readTo μ54) fun r59 μ56 =>
if r59 = (nI 0) then
some ((nI 0), μ56) else
ob (rd_takeNumber (nI 0) (nI 3) μ56) fun r67 μ64 =>
if r67 = (nI 0) then
some ((nI 0), μ64) else
if (mR μ64 12 0 3) < 2 then
ob (rd_taken μ64) fun r77 μ74 =>
if inB (mI μ64 18 (mR μ64 12 0 3) 2) 12 = true then
mb (stI μ74 27 (mR μ64 12 0 3) (cl (mI μ64 18 (mR μ64 12 0 3) 2)) (Int64.toInt32 r77)) fun μ81 =>
if (mR μ81 12 0 3) < 2 then
mb (stI μ81 18 (mR μ81 12 0 3) 2 ((mI μ81 18 (mR μ81 12 0 3) 2) + (nI 1))) fun μ85 =>
ob (rd_take (nI 30) μ85) fun r90 μ87 =>
if r90 = nI 0 ∨ r90 = nI 1 then
some (r90, μ87) else none else none else none else none else none else none else
ob (rd_failLater (nI 6) μ42) fun _ μ98 =>
if (mR μ98 12 0 3) < 2 then
if inB (mI μ98 18 (mR μ98 12 0 3) 2) 12 = true then
mb (stI μ98 22 (mR μ98 12 0 3) (cl (mI μ98 18 (mR μ98 12 0 3) 2)) r30) fun μ107 =>
ob (rd_readTo μ107) fun r112 μ109 =>
if r112 = (nI 0) then
some ((nI 0), μ109) else
ob (rd_takeNumber (nI 0) (nI 3) μ109) fun r120 μ117 =>
if r120 = (nI 0) then
some ((nI 0), μ117) else
if (mR μ117 12 0 3) < 2 then
ob (rd_taken μ117) fun r130 μ127 =>
if inB (mI μ117 18 (mR μ117 12 0 3) 2) 12 = true then
mb (stI μ127 27 (mR μ117 12 0 3) (cl (mI μ117 18 (mR μ117 12 0 3) 2)) (Int64.toInt32 r130)) fun μ134 =>
if (mR μ134 12 0 3) < 2 then
mb (stI μ134 18 (mR μ134 12 0 3) 2 ((mI μ134 18 (mR μ134 12 0 3) 2) + (nI 1))) fun μ138 =>
ob (rd_take (nI 30) μ138) fun r143 μ140 =>
if r143 = nI 0 ∨ r143 = nI 1 then
some (r143, μ140) else none else none else none else none else none else none else none else
ob (rd_fail (nI 2) μ) fun r215 μ212 =>
if r215 = nI 0 ∨ r215 = nI 1 then
some (r215, μ212) else none else none
-- SluiceLogs$Reader.readDrain()Z
def rd_readDrain  (μ : Mem) : Option (Int32 × Mem) :=
ob (rd_pass μ) fun r4 μ1 =>
if r4 = (nI 0) then
some ((nI 0), μ1) else
ob (rd_take (nI 40) μ1) fun r12 μ9 =>
if r12 = (nI 0) then
some ((nI 0), μ9) else
ob (rd_taken μ9) fun r20 μ17 =>
ob (rd_fieldNamed r20 μ17) fun r25 μ22 =>
if r25 = (-1 : Int32) then
ob (rd_failLater (nI 4) μ22) fun _ μ144 =>
ob (rd_take (nI 40) μ144) fun r152 μ149 =>
if r152 = (nI 0) then
some ((nI 0), μ149) else
ob (rd_taken μ149) fun r160 μ157 =>
ob (rd_logNamed r160 μ157) fun r165 μ162 =>
if r165 = (-1 : Int32) then
ob (rd_failLater (nI 4) μ162) fun _ μ188 =>
ob (rd_takeNumber (nI 0) (nI 3) μ188) fun r196 μ193 =>
if r196 = (nI 0) then
some ((nI 0), μ193) else
ob (rd_take (nI 30) μ193) fun r205 μ202 =>
if r205 = nI 0 ∨ r205 = nI 1 then
some (r205, μ202) else none else
ob (rd_takeNumber (nI 0) (nI 3) μ162) fun r173 μ170 =>
if r173 = (nI 0) then
some ((nI 0), μ170) else
ob (rd_take (nI 30) μ170) fun r182 μ179 =>
if r182 = nI 0 ∨ r182 = nI 1 then
some (r182, μ179) else none else
ob (rd_take (nI 40) μ22) fun r33 μ30 =>
if r33 = (nI 0) then
some ((nI 0), μ30) else
ob (rd_taken μ30) fun r41 μ38 =>
ob (rd_logNamed r41 μ38) fun r46 μ43 =>
if r46 = (-1 : Int32) then
ob (rd_failLater (nI 4) μ43) fun _ μ93 =>
ob (rd_takeNumber (nI 0) (nI 3) μ93) fun r101 μ98 =>
if r101 = (nI 0) then
some ((nI 0), μ98) else
if r25 = (-1 : Int32) then
ob (rd_take (nI 30) μ98) fun r112 μ109 =>
if r112 = nI 0 ∨ r112 = nI 1 then
some (r112, μ109) else none else
if (mR μ98 12 0 3) < 2 then
if inB r25 6 = true then
if (mR (stI μ98 28 (mR μ98 12 0 3) (cl r25) r46) 12 0 3) < 2 then
ob (rd_taken (stI μ98 28 (mR μ98 12 0 3) (cl r25) r46)) fun r126 μ123 =>
mb (stI μ123 29 (mR (stI μ98 28 (mR μ98 12 0 3) (cl r25) r46) 12 0 3) (cl r25) (Int64.toInt32 r126)) fun μ128 =>
ob (rd_take (nI 30) μ128) fun r133 μ130 =>
if r133 = nI 0 ∨ r133 = nI 1 then
some (r133, μ130) else none else none else none else none else
ob (rd_takeNumber (nI 0) (nI 3) μ43) fun r54 μ51 =>
if r54 = (nI 0) then
some ((nI 0), μ51) else
if r25 = (-1 : Int32) then
ob (rd_take (nI 30) μ51) fun r65 μ62 =>
if r65 = nI 0 ∨ r65 = nI 1 then
some (r65, μ62) else none else
if (mR μ51 12 0 3) < 2 then
if inB r25 6 = true then
if (mR (stI μ51 28 (mR μ51 12 0 3) (cl r25) r46) 12 0 3) < 2 then
ob (rd_taken (stI μ51 28 (mR μ51 12 0 3) (cl r25) r46)) fun r79 μ76 =>
mb (stI μ76 29 (mR (stI μ51 28 (mR μ51 12 0 3) (cl r25) r46) 12 0 3) (cl r25) (Int64.toInt32 r79)) fun μ81 =>
ob (rd_take (nI 30) μ81) fun r86 μ83 =>
if r86 = nI 0 ∨ r86 = nI 1 then
some (r86, μ83) else none else none else none else none
-- SluiceLogs$Reader.readSpring()Z
def rd_readSpring  (μ : Mem) : Option (Int32 × Mem) :=
ob (rd_pass μ) fun r4 μ1 =>
if r4 = (nI 0) then
some ((nI 0), μ1) else
ob (rd_takeNumber (nI 1) (nI 9) μ1) fun r12 μ9 =>
if r12 = (nI 0) then
some ((nI 0), μ9) else
if (mR μ9 12 0 3) < 2 then
ob (rd_taken μ9) fun r22 μ19 =>
mb (stI μ19 26 (mR μ9 12 0 3) 4 (Int64.toInt32 r22)) fun μ24 =>
ob (rd_take (nI 30) μ24) fun r29 μ26 =>
if r29 = nI 0 ∨ r29 = nI 1 then
some (r29, μ26) else none else none
-- SluiceLogs$Reader.readSeed()Z
def rd_readSeed  (μ : Mem) : Option (Int32 × Mem) :=
ob (rd_pass μ) fun r4 μ1 =>
if r4 = (nI 0) then
some ((nI 0), μ1) else
ob (rd_take (nI 41) μ1) fun r12 μ9 =>
if r12 = (nI 0) then
some ((nI 0), μ9) else
if (mR μ9 12 0 3) < 2 then
ob (rd_taken μ9) fun r22 μ19 =>
mb (stI μ19 18 (mR μ9 12 0 3) 3 (Int64.toInt32 r22)) fun μ24 =>
ob (rd_take (nI 30) μ24) fun r29 μ26 =>
if r29 = nI 0 ∨ r29 = nI 1 then
some (r29, μ26) else none else none
-- SluiceLogs$Reader.rank(I)I
def rd_rank (x0 : Int32) (μ : Mem) : Option (Int32 × Mem) :=
if x0 = (nI 34) then
some ((nI 2), μ) else
if x0 = (nI 35) then
some ((nI 2), μ) else
if x0 = (nI 32) then
some ((nI 1), μ) else
if x0 = (nI 33) then
some ((nI 1), μ) else
some ((nI 0), μ)
-- SluiceLogs$Reader.addWaiting(I)V
def rd_addWaiting_B0 (x1 : Int32)  (self : Mem → Option (Unit × Mem))  (μ : Mem) : Option (Unit × Mem) :=
if (mI μ 12 0 8) ≤ (nI 0) then
some ((), μ) else
if inB ((mI μ 12 0 8) - (nI 1)) 21 = true then
ob (rd_rank (mI μ 17 0 (cl ((mI μ 12 0 8) - (nI 1)))) μ) fun r9 μ6 =>
if r9 < x1 then
some ((), μ6) else
if (mR (stI μ6 12 0 8 ((mI μ6 12 0 8) - (nI 1))) 12 0 3) < 2 then
if inB (mI (stI μ6 12 0 8 ((mI μ6 12 0 8) - (nI 1))) 12 0 8) 21 = true then
ob (pl_addCode (mR (stI μ6 12 0 8 ((mI μ6 12 0 8) - (nI 1))) 12 0 3) (((nI 20000) + (mI (stI μ6 12 0 8 ((mI μ6 12 0 8) - (nI 1))) 17 0 (cl (mI (stI μ6 12 0 8 ((mI μ6 12 0 8) - (nI 1))) 12 0 8)))) - (nI 32)) (stI μ6 12 0 8 ((mI μ6 12 0 8) - (nI 1)))) fun _ μ18 =>
self μ18 else none else none else none
def rd_addWaiting_L0 (x1 : Int32)  : Mem → Option (Unit × Mem) := fixN (fun _ => none) (rd_addWaiting_B0 x1) 60000
def rd_addWaiting (x1 : Int32) (μ : Mem) : Option (Unit × Mem) :=
rd_addWaiting_L0 x1  μ
-- SluiceLogs$Reader.putWaiting(I)V
def rd_putWaiting (x1 : Int32) (μ : Mem) : Option (Unit × Mem) :=
if (nI 21) ≤ (mI μ 12 0 8) then
some ((), μ) else
if inB (mI μ 12 0 8) 21 = true then
mb (stI (stI μ 17 0 (cl (mI μ 12 0 8)) x1) 12 0 8 ((mI (stI μ 17 0 (cl (mI μ 12 0 8)) x1) 12 0 8) + (nI 1))) fun μ6 =>
some ((), μ6) else none
-- SluiceLogs$Reader.addUnit(I)Z
def rd_addUnit (x1 : Int32) (μ : Mem) : Option (Int32 × Mem) :=
if x1 = (nI 41) then
if (mR μ 12 0 3) < 2 then
if inB (mI μ 12 0 4) 402 = true then
ob (pl_addCode (mR μ 12 0 3) (Int64.toInt32 (mL μ 16 0 (cl (mI μ 12 0 4)))) μ) fun _ μ22 =>
some ((nI 1), μ22) else none else none else
if x1 < (nI 14) then
some ((nI 0), μ) else
if (nI 22) < x1 then
some ((nI 0), μ) else
if (mR μ 12 0 3) < 2 then
ob (pl_addCode (mR μ 12 0 3) (((nI 10000) + x1) - (nI 14)) μ) fun _ μ12 =>
some ((nI 1), μ12) else none
-- SluiceLogs$Reader.readSum()Z
def rd_readSum_B11  (k143 : Int32 → Mem → Option (Int32 × Mem)) (k181 : Mem → Option (Int32 × Mem)) (self : Int32 → Int32 → Int32 → Mem → Option (Int32 × Mem)) (x1 : Int32) (x2 : Int32) (x3 : Int32) (μ : Mem) : Option (Int32 × Mem) :=
if (nI 400) < x3 then
k181 μ else
ob (rd_kind μ) fun r7 μ4 =>
if x2 = (nI 0) then
ob (rd_rank r7 μ4) fun r16 μ13 =>
if r16 ≤ (nI 0) then
if r7 = (nI 38) then
if x1 ≤ (nI 0) then
k143 x1 μ13 else
ob (rd_addWaiting (nI 1) μ13) fun _ μ27 =>
mb (stI μ27 12 0 8 ((mI μ27 12 0 8) - (nI 1))) fun μ32 =>
ob (rd_pass μ32) fun r37 μ34 =>
if r37 = (nI 0) then
some ((nI 0), μ34) else
self (x1 + (-1 : Int32)) x2 (x3 + (nI 1)) μ34 else
k143 x1 μ13 else
ob (rd_rank r7 μ13) fun r47 μ44 =>
ob (rd_addWaiting r47 μ44) fun _ μ49 =>
ob (rd_putWaiting r7 μ49) fun _ μ54 =>
ob (rd_pass μ54) fun r62 μ59 =>
if r62 = (nI 0) then
some ((nI 0), μ59) else
self x1 (nI 1) (x3 + (nI 1)) μ59 else
if r7 = (nI 37) then
if x1 = (nI 6) then
ob (rd_fail (nI 2) μ4) fun r184 μ181 =>
if r184 = nI 0 ∨ r184 = nI 1 then
some (r184, μ181) else none else
ob (rd_putWaiting r7 μ4) fun _ μ166 =>
ob (rd_pass μ166) fun r174 μ171 =>
if r174 = (nI 0) then
some ((nI 0), μ171) else
self (x1 + (nI 1)) x2 (x3 + (nI 1)) μ171 else
if x2 = (nI 0) then
ob (rd_rank r7 μ4) fun r81 μ78 =>
if r81 ≤ (nI 0) then
if r7 = (nI 38) then
if x1 ≤ (nI 0) then
k143 x1 μ78 else
ob (rd_addWaiting (nI 1) μ78) fun _ μ92 =>
mb (stI μ92 12 0 8 ((mI μ92 12 0 8) - (nI 1))) fun μ97 =>
ob (rd_pass μ97) fun r102 μ99 =>
if r102 = (nI 0) then
some ((nI 0), μ99) else
self (x1 + (-1 : Int32)) x2 (x3 + (nI 1)) μ99 else
k143 x1 μ78 else
ob (rd_rank r7 μ78) fun r112 μ109 =>
ob (rd_addWaiting r112 μ109) fun _ μ114 =>
ob (rd_putWaiting r7 μ114) fun _ μ119 =>
ob (rd_pass μ119) fun r127 μ124 =>
if r127 = (nI 0) then
some ((nI 0), μ124) else
self x1 (nI 1) (x3 + (nI 1)) μ124 else
ob (rd_addUnit r7 μ4) fun r140 μ137 =>
if r140 = (nI 0) then
ob (rd_fail (nI 1) μ137) fun r157 μ154 =>
if r157 = nI 0 ∨ r157 = nI 1 then
some (r157, μ154) else none else
ob (rd_pass μ137) fun r148 μ145 =>
if r148 = (nI 0) then
some ((nI 0), μ145) else
self x1 (nI 0) (x3 + (nI 1)) μ145
def rd_readSum_L11  (k143 : Int32 → Mem → Option (Int32 × Mem)) (k181 : Mem → Option (Int32 × Mem)) : Int32 → Int32 → Int32 → Mem → Option (Int32 × Mem) := fixN (fun _ _ _ _ => none) (rd_readSum_B11 k143 k181) 60000
def rd_readSum  (μ : Mem) : Option (Int32 × Mem) :=
rd_readSum_L11 (fun (x190 : Int32) (μ191 : Mem) =>
ob (rd_addWaiting (nI 1) μ191) fun _ μ195 =>
if x190 = (nI 0) then
some ((nI 1), μ195) else
ob (rd_fail (nI 1) μ195) fun r206 μ203 =>
if r206 = (nI 0) then
some ((nI 0), μ203) else
some ((nI 1), μ203)) (fun  (μ213 : Mem) =>
ob (rd_fail (nI 2) μ213) fun r220 μ217 =>
if r220 = nI 0 ∨ r220 = nI 1 then
some (r220, μ217) else none) (nI 0) (nI 1) (nI 0) (stI μ 12 0 8 (nI 0))
-- SluiceLogs$Reader.takeAsCode(II)Z
def rd_takeAsCode (x1 : Int32) (x2 : Int32) (μ : Mem) : Option (Int32 × Mem) :=
ob (rd_kind μ) fun r4 μ1 =>
if r4 = x1 then
if (mR μ1 12 0 3) < 2 then
ob (pl_addCode (mR μ1 12 0 3) x2 μ1) fun _ μ11 =>
ob (rd_pass μ11) fun r19 μ16 =>
if r19 = nI 0 ∨ r19 = nI 1 then
some (r19, μ16) else none else none else
ob (rd_fail (nI 1) μ1) fun r28 μ25 =>
if r28 = nI 0 ∨ r28 = nI 1 then
some (r28, μ25) else none
-- SluiceLogs$Reader.readLaw(I)Z
def rd_readLaw_B36  (k130 : Mem → Option (Int32 × Mem)) (self : Int32 → Mem → Option (Int32 × Mem)) (x2 : Int32) (μ : Mem) : Option (Int32 × Mem) :=
if (nI 4) < x2 then
k130 μ else
ob (rd_kind μ) fun r29 μ26 =>
if r29 = (nI 11) then
if x2 = (nI 4) then
ob (rd_fail (nI 2) μ26) fun r103 μ100 =>
if r103 = nI 0 ∨ r103 = nI 1 then
some (r103, μ100) else none else
ob (rd_pass μ26) fun r40 μ37 =>
if r40 = (nI 0) then
some ((nI 0), μ37) else
ob (rd_readSum μ37) fun r48 μ45 =>
if r48 = (nI 0) then
some ((nI 0), μ45) else
ob (rd_take (nI 36) μ45) fun r56 μ53 =>
if r56 = (nI 0) then
some ((nI 0), μ53) else
ob (rd_readSum μ53) fun r64 μ61 =>
if r64 = (nI 0) then
some ((nI 0), μ61) else
ob (rd_takeAsCode (nI 12) (nI 20004) μ61) fun r72 μ69 =>
if r72 = (nI 0) then
some ((nI 0), μ69) else
ob (rd_readSum μ69) fun r80 μ77 =>
if r80 = (nI 0) then
some ((nI 0), μ77) else
ob (rd_takeAsCode (nI 13) (nI 20005) μ77) fun r88 μ85 =>
if r88 = (nI 0) then
some ((nI 0), μ85) else
self (x2 + (nI 1)) μ85 else
k130 μ26
def rd_readLaw_L36  (k130 : Mem → Option (Int32 × Mem)) : Int32 → Mem → Option (Int32 × Mem) := fixN (fun _ _ => none) (rd_readLaw_B36 k130) 60000
def rd_readLaw (x1 : Int32) (μ : Mem) : Option (Int32 × Mem) :=
ob (rd_pass μ) fun r4 μ1 =>
if r4 = (nI 0) then
some ((nI 0), μ1) else
ob (rd_take (nI 31) μ1) fun r12 μ9 =>
if r12 = (nI 0) then
some ((nI 0), μ9) else
if (mR μ9 12 0 3) < 2 then
if inB x1 4 = true then
mb (stI μ9 24 (mR μ9 12 0 3) (cl x1) (mI μ9 18 (mR μ9 12 0 3) 11)) fun μ21 =>
rd_readLaw_L36 (fun  (μ109 : Mem) =>
ob (rd_readSum μ109) fun r116 μ113 =>
if r116 = (nI 0) then
some ((nI 0), μ113) else
ob (rd_takeAsCode (nI 30) (nI 20006) μ113) fun r124 μ121 =>
if r124 = (nI 0) then
some ((nI 0), μ121) else
some ((nI 1), μ121)) (nI 0) μ21 else none else none
-- SluiceLogs$Reader.readTell()Z
def rd_readTell  (μ : Mem) : Option (Int32 × Mem) :=
ob (rd_kind μ) fun r4 μ1 =>
if r4 < (nI 5) then
if r4 = (nI 0) then
ob (rd_readLog μ1) fun r14 μ11 =>
if r14 = nI 0 ∨ r14 = nI 1 then
some (r14, μ11) else none else
if r4 = (nI 1) then
ob (rd_readField μ1) fun r23 μ20 =>
if r23 = nI 0 ∨ r23 = nI 1 then
some (r23, μ20) else none else
if r4 = (nI 2) then
ob (rd_readNotch μ1) fun r32 μ29 =>
if r32 = nI 0 ∨ r32 = nI 1 then
some (r32, μ29) else none else
if r4 = (nI 3) then
ob (rd_readDrain μ1) fun r41 μ38 =>
if r41 = nI 0 ∨ r41 = nI 1 then
some (r41, μ38) else none else
if r4 = (nI 4) then
ob (rd_readSpring μ1) fun r50 μ47 =>
if r50 = nI 0 ∨ r50 = nI 1 then
some (r50, μ47) else none else
if r4 = (nI 9) then
ob (rd_readSeed μ1) fun r59 μ56 =>
if r59 = nI 0 ∨ r59 = nI 1 then
some (r59, μ56) else none else
ob (rd_fail (nI 1) μ1) fun r68 μ65 =>
if r68 = nI 0 ∨ r68 = nI 1 then
some (r68, μ65) else none else
if (nI 8) < r4 then
if r4 = (nI 0) then
ob (rd_readLog μ1) fun r81 μ78 =>
if r81 = nI 0 ∨ r81 = nI 1 then
some (r81, μ78) else none else
if r4 = (nI 1) then
ob (rd_readField μ1) fun r90 μ87 =>
if r90 = nI 0 ∨ r90 = nI 1 then
some (r90, μ87) else none else
if r4 = (nI 2) then
ob (rd_readNotch μ1) fun r99 μ96 =>
if r99 = nI 0 ∨ r99 = nI 1 then
some (r99, μ96) else none else
if r4 = (nI 3) then
ob (rd_readDrain μ1) fun r108 μ105 =>
if r108 = nI 0 ∨ r108 = nI 1 then
some (r108, μ105) else none else
if r4 = (nI 4) then
ob (rd_readSpring μ1) fun r117 μ114 =>
if r117 = nI 0 ∨ r117 = nI 1 then
some (r117, μ114) else none else
if r4 = (nI 9) then
ob (rd_readSeed μ1) fun r126 μ123 =>
if r126 = nI 0 ∨ r126 = nI 1 then
some (r126, μ123) else none else
ob (rd_fail (nI 1) μ1) fun r135 μ132 =>
if r135 = nI 0 ∨ r135 = nI 1 then
some (r135, μ132) else none else
ob (rd_readLaw (r4 - (nI 5)) μ1) fun r143 μ140 =>
if r143 = nI 0 ∨ r143 = nI 1 then
some (r143, μ140) else none
-- SluiceLogs$Tokens.isBlank(I)Z
def to_isBlank (x0 : Int32) (μ : Mem) : Option (Int32 × Mem) :=
if x0 = (nI 9) then
some ((nI 1), μ) else
if x0 = (nI 10) then
some ((nI 1), μ) else
if x0 = (nI 13) then
some ((nI 1), μ) else
if x0 = (nI 32) then
some ((nI 1), μ) else
some ((nI 0), μ)
-- SluiceLogs$Tokens.isLetter(I)Z
def to_isLetter (x0 : Int32) (μ : Mem) : Option (Int32 × Mem) :=
if x0 < (nI 97) then
some ((nI 0), μ) else
if (nI 122) < x0 then
some ((nI 0), μ) else
some ((nI 1), μ)
-- SluiceLogs$Tokens.isDigit(I)Z
def to_isDigit (x0 : Int32) (μ : Mem) : Option (Int32 × Mem) :=
if x0 < (nI 48) then
some ((nI 0), μ) else
if (nI 57) < x0 then
some ((nI 0), μ) else
some ((nI 1), μ)
-- java/util/Arrays.fill([JJ)V
def j_fillL_r33_B6 (i0 : Nat) (x1 : Int64) (x4 : Int32)  (self : Int32 → Mem → Option (Unit × Mem)) (x3 : Int32) (μ : Mem) : Option (Unit × Mem) :=
if x4 ≤ x3 then
some ((), μ) else
if inB x3 4 = true then
self (x3 + (nI 1)) (stL μ 33 i0 (cl x3) x1) else none
def j_fillL_r33_L6 (i0 : Nat) (x1 : Int64) (x4 : Int32)  : Int32 → Mem → Option (Unit × Mem) := fixN (fun _ _ => none) (j_fillL_r33_B6 i0 x1 x4) 60000
def j_fillL_r33 (i0 : Nat) (x1 : Int64) (μ : Mem) : Option (Unit × Mem) :=
j_fillL_r33_L6 i0 x1 (nI 4)  (nI 0) μ
-- java/util/Arrays.fill([JJ)V
def j_fillL_r34_B6 (i0 : Nat) (x1 : Int64) (x4 : Int32)  (self : Int32 → Mem → Option (Unit × Mem)) (x3 : Int32) (μ : Mem) : Option (Unit × Mem) :=
if x4 ≤ x3 then
some ((), μ) else
if inB x3 6 = true then
self (x3 + (nI 1)) (stL μ 34 i0 (cl x3) x1) else none
def j_fillL_r34_L6 (i0 : Nat) (x1 : Int64) (x4 : Int32)  : Int32 → Mem → Option (Unit × Mem) := fixN (fun _ _ => none) (j_fillL_r34_B6 i0 x1 x4) 60000
def j_fillL_r34 (i0 : Nat) (x1 : Int64) (μ : Mem) : Option (Unit × Mem) :=
j_fillL_r34_L6 i0 x1 (nI 6)  (nI 0) μ
-- java/util/Arrays.fill([II)V
def j_fillI_r35_B5 (i0 : Nat) (x1 : Int32) (x3 : Int32)  (self : Int32 → Mem → Option (Unit × Mem)) (x2 : Int32) (μ : Mem) : Option (Unit × Mem) :=
if x3 ≤ x2 then
some ((), μ) else
if inB x2 6 = true then
self (x2 + (nI 1)) (stI μ 35 i0 (cl x2) x1) else none
def j_fillI_r35_L5 (i0 : Nat) (x1 : Int32) (x3 : Int32)  : Int32 → Mem → Option (Unit × Mem) := fixN (fun _ _ => none) (j_fillI_r35_B5 i0 x1 x3) 60000
def j_fillI_r35 (i0 : Nat) (x1 : Int32) (μ : Mem) : Option (Unit × Mem) :=
j_fillI_r35_L5 i0 x1 (nI 6)  (nI 0) μ
-- java/util/Arrays.fill([II)V
def j_fillI_r36_B5 (i0 : Nat) (x1 : Int32) (x3 : Int32)  (self : Int32 → Mem → Option (Unit × Mem)) (x2 : Int32) (μ : Mem) : Option (Unit × Mem) :=
if x3 ≤ x2 then
some ((), μ) else
if inB x2 4 = true then
self (x2 + (nI 1)) (stI μ 36 i0 (cl x2) x1) else none
def j_fillI_r36_L5 (i0 : Nat) (x1 : Int32) (x3 : Int32)  : Int32 → Mem → Option (Unit × Mem) := fixN (fun _ _ => none) (j_fillI_r36_B5 i0 x1 x3) 60000
def j_fillI_r36 (i0 : Nat) (x1 : Int32) (μ : Mem) : Option (Unit × Mem) :=
j_fillI_r36_L5 i0 x1 (nI 4)  (nI 0) μ
-- java/util/Arrays.fill([II)V
def j_fillI_r37_B5 (i0 : Nat) (x1 : Int32) (x3 : Int32)  (self : Int32 → Mem → Option (Unit × Mem)) (x2 : Int32) (μ : Mem) : Option (Unit × Mem) :=
if x3 ≤ x2 then
some ((), μ) else
if inB x2 4 = true then
self (x2 + (nI 1)) (stI μ 37 i0 (cl x2) x1) else none
def j_fillI_r37_L5 (i0 : Nat) (x1 : Int32) (x3 : Int32)  : Int32 → Mem → Option (Unit × Mem) := fixN (fun _ _ => none) (j_fillI_r37_B5 i0 x1 x3) 60000
def j_fillI_r37 (i0 : Nat) (x1 : Int32) (μ : Mem) : Option (Unit × Mem) :=
j_fillI_r37_L5 i0 x1 (nI 4)  (nI 0) μ
-- SluiceLogs$Water.clear()V
def wa_clear_B67 (i0 : Nat)  (self : Int32 → Mem → Option (Unit × Mem)) (x1 : Int32) (μ : Mem) : Option (Unit × Mem) :=
if (nI 4) ≤ x1 then
some ((), μ) else
if inB x1 4 = true then
self (x1 + (nI 1)) (stI μ 38 i0 (cl x1) ((nI 0) &&& 1)) else none
def wa_clear_L67 (i0 : Nat)  : Int32 → Mem → Option (Unit × Mem) := fixN (fun _ _ => none) (wa_clear_B67 i0) 60000
def wa_clear (i0 : Nat) (μ : Mem) : Option (Unit × Mem) :=
mb (stL (stI μ 32 i0 0 (nI 0)) 32 i0 1 (1 : Int64)) fun μ1 =>
mb (stL (stL μ1 32 i0 2 (0 : Int64)) 32 i0 3 (0 : Int64)) fun μ4 =>
ob (j_fillL_r33 i0 (0 : Int64) (stL μ4 32 i0 4 (0 : Int64))) fun _ μ7 =>
ob (j_fillL_r34 i0 (0 : Int64) μ7) fun _ μ12 =>
ob (j_fillI_r35 i0 (nI 0) μ12) fun _ μ17 =>
ob (j_fillI_r36 i0 (nI 0) μ17) fun _ μ22 =>
ob (j_fillI_r37 i0 (nI 0) μ22) fun _ μ27 =>
wa_clear_L67 i0  (nI 0) μ27
-- SluiceLogs$Water.partLogs(LSluiceLogs$Plan;LSluiceLogs$State;)V
def wa_partLogs_B2 (i0 : Nat) (i1 : Nat) (i2 : Nat) (k67 : Mem → Option (Unit × Mem)) (self : Int32 → Mem → Option (Unit × Mem)) (x3 : Int32) (μ : Mem) : Option (Unit × Mem) :=
if (mI μ 18 i1 2) ≤ x3 then
k67 μ else
if inB x3 12 = true then
if inB (mI μ 22 i1 (cl x3)) 4 = true then
mb (stI μ 36 i0 (cl (mI μ 22 i1 (cl x3))) ((mI μ 36 i0 (cl (mI μ 22 i1 (cl x3)))) + (mI μ 27 i2 (cl x3)))) fun μ8 =>
if (mI μ8 23 i1 (cl x3)) = (nI 20) then
mb (stI μ8 37 i0 (cl (mI μ 22 i1 (cl x3))) ((mI μ8 37 i0 (cl (mI μ 22 i1 (cl x3)))) + (mI μ8 27 i2 (cl x3)))) fun μ13 =>
self (x3 + (nI 1)) μ13 else
self (x3 + (nI 1)) μ8 else none else none
def wa_partLogs_L2 (i0 : Nat) (i1 : Nat) (i2 : Nat) (k67 : Mem → Option (Unit × Mem)) : Int32 → Mem → Option (Unit × Mem) := fixN (fun _ _ => none) (wa_partLogs_B2 i0 i1 i2 k67) 60000
def wa_partLogs_B69 (i0 : Nat) (i1 : Nat)  (self : Int32 → Mem → Option (Unit × Mem)) (x3 : Int32) (μ : Mem) : Option (Unit × Mem) :=
if (mI μ 18 i1 0) ≤ x3 then
some ((), μ) else
if inB x3 4 = true then
if (mI μ 36 i0 (cl x3)) = (nI 0) then
mb (stI (stI μ 36 i0 (cl x3) (nI 1)) 37 i0 (cl x3) (nI 1)) fun μ27 =>
self (x3 + (nI 1)) μ27 else
self (x3 + (nI 1)) μ else none
def wa_partLogs_L69 (i0 : Nat) (i1 : Nat)  : Int32 → Mem → Option (Unit × Mem) := fixN (fun _ _ => none) (wa_partLogs_B69 i0 i1) 60000
def wa_partLogs (i0 : Nat) (i1 : Nat) (i2 : Nat) (μ : Mem) : Option (Unit × Mem) :=
wa_partLogs_L2 i0 i1 i2 (fun  (μ15 : Mem) =>
wa_partLogs_L69 i0 i1  (nI 0) μ15) (nI 0) μ
-- SluiceLogs$Water.nextLog(LSluiceLogs$Plan;LSluiceLogs$State;I)I
def wa_nextLog (i0 : Nat) (i1 : Nat) (x2 : Int32) (μ : Mem) : Option (Int32 × Mem) :=
if inB x2 12 = true then
if (nI 10) ≤ (mI μ 23 i0 (cl x2)) then
if (mI μ 23 i0 (cl x2)) = (nI 20) then
some ((-1 : Int32), μ) else
if inB ((mI μ 23 i0 (cl x2)) - (nI 10)) 6 = true then
if (mI μ 29 i1 (cl ((mI μ 23 i0 (cl x2)) - (nI 10)))) = (nI 0) then
some ((-1 : Int32), μ) else
some ((mI μ 28 i1 (cl ((mI μ 23 i0 (cl x2)) - (nI 10)))), μ) else none else
some ((mI μ 23 i0 (cl x2)), μ) else none
-- SluiceLogs$Water.reachLogs(LSluiceLogs$Plan;LSluiceLogs$State;)V
def wa_reachLogs_B20 (i0 : Nat) (i1 : Nat) (i2 : Nat) (x3 : Int32) (k86 : Mem → Option (Unit × Mem)) (self : Int32 → Mem → Option (Unit × Mem)) (x4 : Int32) (μ : Mem) : Option (Unit × Mem) :=
if (mI μ 18 i1 2) ≤ x4 then
k86 μ else
if inB x4 12 = true then
if (mI μ 27 i2 (cl x4)) = (nI 0) then
self (x4 + (nI 1)) μ else
if inB (mI μ 22 i1 (cl x4)) 4 = true then
if (mI μ 38 i0 (cl (mI μ 22 i1 (cl x4)))) = (nI 0) then
self (x4 + (nI 1)) μ else
ob (wa_nextLog i1 i2 x4 μ) fun r20 μ17 =>
if r20 = (-1 : Int32) then
self (x4 + (nI 1)) μ17 else
if inB r20 4 = true then
self (x4 + (nI 1)) (stI μ17 38 i0 (cl r20) ((nI 1) &&& 1)) else none else none else none
def wa_reachLogs_L20 (i0 : Nat) (i1 : Nat) (i2 : Nat) (x3 : Int32) (k86 : Mem → Option (Unit × Mem)) : Int32 → Mem → Option (Unit × Mem) := fixN (fun _ _ => none) (wa_reachLogs_B20 i0 i1 i2 x3 k86) 60000
def wa_reachLogs_B9 (i0 : Nat) (i1 : Nat) (i2 : Nat)  (self : Int32 → Mem → Option (Unit × Mem)) (x3 : Int32) (μ : Mem) : Option (Unit × Mem) :=
if (mI μ 18 i1 0) ≤ x3 then
some ((), μ) else
wa_reachLogs_L20 i0 i1 i2 x3 (fun  (μ28 : Mem) =>
self (x3 + (nI 1)) μ28) (nI 0) μ
def wa_reachLogs_L9 (i0 : Nat) (i1 : Nat) (i2 : Nat)  : Int32 → Mem → Option (Unit × Mem) := fixN (fun _ _ => none) (wa_reachLogs_B9 i0 i1 i2) 60000
def wa_reachLogs (i0 : Nat) (i1 : Nat) (i2 : Nat) (μ : Mem) : Option (Unit × Mem) :=
wa_reachLogs_L9 i0 i1 i2  (nI 0) (stI μ 38 i0 0 ((nI 1) &&& 1))
-- SluiceLogs$Water.openLogs(LSluiceLogs$Plan;LSluiceLogs$State;)V
def wa_openLogs_B2 (i0 : Nat) (i1 : Nat) (i2 : Nat) (k36 : Mem → Option (Unit × Mem)) (self : Int32 → Mem → Option (Unit × Mem)) (x3 : Int32) (μ : Mem) : Option (Unit × Mem) :=
if (mI μ 18 i1 0) ≤ x3 then
k36 μ else
if inB x3 4 = true then
if (mI μ 37 i0 (cl x3)) ≤ (nI 0) then
self (x3 + (nI 1)) (stI μ 39 i0 (cl x3) ((nI 0) &&& 1)) else
self (x3 + (nI 1)) (stI μ 39 i0 (cl x3) ((nI 1) &&& 1)) else none
def wa_openLogs_L2 (i0 : Nat) (i1 : Nat) (i2 : Nat) (k36 : Mem → Option (Unit × Mem)) : Int32 → Mem → Option (Unit × Mem) := fixN (fun _ _ => none) (wa_openLogs_B2 i0 i1 i2 k36) 60000
def wa_openLogs_B49 (i0 : Nat) (i1 : Nat) (i2 : Nat) (x3 : Int32) (k113 : Mem → Option (Unit × Mem)) (self : Int32 → Mem → Option (Unit × Mem)) (x4 : Int32) (μ : Mem) : Option (Unit × Mem) :=
if (mI μ 18 i1 2) ≤ x4 then
k113 μ else
if inB x4 12 = true then
if (mI μ 27 i2 (cl x4)) ≤ (nI 0) then
self (x4 + (nI 1)) μ else
if (nI 10) ≤ (mI μ 23 i1 (cl x4)) then
if inB (mI μ 22 i1 (cl x4)) 4 = true then
mb (stI μ 39 i0 (cl (mI μ 22 i1 (cl x4))) ((nI 1) &&& 1)) fun μ29 =>
self (x4 + (nI 1)) μ29 else none else
if inB (mI μ 23 i1 (cl x4)) 4 = true then
if (mI μ 39 i0 (cl (mI μ 23 i1 (cl x4)))) = (nI 0) then
self (x4 + (nI 1)) μ else
if inB (mI μ 22 i1 (cl x4)) 4 = true then
mb (stI μ 39 i0 (cl (mI μ 22 i1 (cl x4))) ((nI 1) &&& 1)) fun μ38 =>
self (x4 + (nI 1)) μ38 else none else none else none
def wa_openLogs_L49 (i0 : Nat) (i1 : Nat) (i2 : Nat) (x3 : Int32) (k113 : Mem → Option (Unit × Mem)) : Int32 → Mem → Option (Unit × Mem) := fixN (fun _ _ => none) (wa_openLogs_B49 i0 i1 i2 x3 k113) 60000
def wa_openLogs_B38 (i0 : Nat) (i1 : Nat) (i2 : Nat)  (self : Int32 → Mem → Option (Unit × Mem)) (x3 : Int32) (μ : Mem) : Option (Unit × Mem) :=
if (mI μ 18 i1 0) ≤ x3 then
some ((), μ) else
wa_openLogs_L49 i0 i1 i2 x3 (fun  (μ40 : Mem) =>
self (x3 + (nI 1)) μ40) (nI 0) μ
def wa_openLogs_L38 (i0 : Nat) (i1 : Nat) (i2 : Nat)  : Int32 → Mem → Option (Unit × Mem) := fixN (fun _ _ => none) (wa_openLogs_B38 i0 i1 i2) 60000
def wa_openLogs (i0 : Nat) (i1 : Nat) (i2 : Nat) (μ : Mem) : Option (Unit × Mem) :=
wa_openLogs_L2 i0 i1 i2 (fun  (μ9 : Mem) =>
wa_openLogs_L38 i0 i1 i2  (nI 0) μ9) (nI 0) μ
-- SluiceLogs$Water.reachesClosedLog(I)Z
def wa_reachesClosedLog_B2 (i0 : Nat) (x1 : Int32)  (self : Int32 → Mem → Option (Int32 × Mem)) (x2 : Int32) (μ : Mem) : Option (Int32 × Mem) :=
if x1 ≤ x2 then
some ((nI 0), μ) else
if inB x2 4 = true then
if (mI μ 38 i0 (cl x2)) = (nI 0) then
self (x2 + (nI 1)) μ else
if (mI μ 39 i0 (cl x2)) = (nI 0) then
some ((nI 1), μ) else
self (x2 + (nI 1)) μ else none
def wa_reachesClosedLog_L2 (i0 : Nat) (x1 : Int32)  : Int32 → Mem → Option (Int32 × Mem) := fixN (fun _ _ => none) (wa_reachesClosedLog_B2 i0 x1) 60000
def wa_reachesClosedLog (i0 : Nat) (x1 : Int32) (μ : Mem) : Option (Int32 × Mem) :=
wa_reachesClosedLog_L2 i0 x1  (nI 0) μ
-- java/util/Arrays.fill([JJ)V
def j_fillL_r41_B6 (i0 : Nat) (x1 : Int64) (x4 : Int32)  (self : Int32 → Mem → Option (Unit × Mem)) (x3 : Int32) (μ : Mem) : Option (Unit × Mem) :=
if x4 ≤ x3 then
some ((), μ) else
if inB x3 5 = true then
self (x3 + (nI 1)) (stL μ 41 i0 (cl x3) x1) else none
def j_fillL_r41_L6 (i0 : Nat) (x1 : Int64) (x4 : Int32)  : Int32 → Mem → Option (Unit × Mem) := fixN (fun _ _ => none) (j_fillL_r41_B6 i0 x1 x4) 60000
def j_fillL_r41 (i0 : Nat) (x1 : Int64) (μ : Mem) : Option (Unit × Mem) :=
j_fillL_r41_L6 i0 x1 (nI 5)  (nI 0) μ
-- SluiceLogs$Water.makeRows(LSluiceLogs$Plan;LSluiceLogs$State;)V
def wa_makeRows_B2 (i0 : Nat) (i1 : Nat) (i2 : Nat) (k56 : Mem → Option (Unit × Mem)) (self : Int32 → Mem → Option (Unit × Mem)) (x3 : Int32) (μ : Mem) : Option (Unit × Mem) :=
if (mI μ 18 i1 0) ≤ x3 then
k56 μ else
if inB x3 4 = true then
ob (j_fillL_r41 (4 * i0 + (cl x3)) (0 : Int64) μ) fun _ μ6 =>
if (mI μ6 38 i0 (cl x3)) = (nI 0) then
if inB x3 5 = true then
mb (stL μ6 41 (4 * i0 + (cl x3)) (cl x3) (1 : Int64)) fun μ16 =>
self (x3 + (nI 1)) μ16 else none else
if inB x3 5 = true then
mb (stL μ6 41 (4 * i0 + (cl x3)) (cl x3) (Int32.toInt64 ((nI 4) * (mI μ6 36 i0 (cl x3))))) fun μ20 =>
self (x3 + (nI 1)) μ20 else none else none
def wa_makeRows_L2 (i0 : Nat) (i1 : Nat) (i2 : Nat) (k56 : Mem → Option (Unit × Mem)) : Int32 → Mem → Option (Unit × Mem) := fixN (fun _ _ => none) (wa_makeRows_B2 i0 i1 i2 k56) 60000
def wa_makeRows_B73 (i0 : Nat) (i1 : Nat) (i2 : Nat)  (self : Int32 → Mem → Option (Unit × Mem)) (x3 : Int32) (μ : Mem) : Option (Unit × Mem) :=
if (mI μ 18 i1 2) ≤ x3 then
some ((), μ) else
if inB x3 12 = true then
ob (wa_nextLog i1 i2 x3 μ) fun r37 μ34 =>
if inB (mI μ 22 i1 (cl x3)) 4 = true then
if (mI μ34 38 i0 (cl (mI μ 22 i1 (cl x3)))) = (nI 0) then
self (x3 + (nI 1)) μ34 else
if (mI μ34 27 i2 (cl x3)) = (nI 0) then
self (x3 + (nI 1)) μ34 else
if r37 = (-1 : Int32) then
self (x3 + (nI 1)) μ34 else
if (nI 10) ≤ (mI μ34 23 i1 (cl x3)) then
if inB ((mI μ34 23 i1 (cl x3)) - (nI 10)) 6 = true then
vb ((mI μ34 29 i2 (cl ((mI μ34 23 i1 (cl x3)) - (nI 10))))) fun v55 : Int32 =>
if inB r37 4 = true then
if inB (mI μ 22 i1 (cl x3)) 5 = true then
mb (stL μ34 41 (4 * i0 + (cl r37)) (cl (mI μ 22 i1 (cl x3))) ((mL μ34 41 (4 * i0 + (cl r37)) (cl (mI μ 22 i1 (cl x3)))) - (Int32.toInt64 (v55 * (mI μ34 27 i2 (cl x3)))))) fun μ60 =>
self (x3 + (nI 1)) μ60 else none else none else none else
if inB r37 4 = true then
if inB (mI μ 22 i1 (cl x3)) 5 = true then
mb (stL μ34 41 (4 * i0 + (cl r37)) (cl (mI μ 22 i1 (cl x3))) ((mL μ34 41 (4 * i0 + (cl r37)) (cl (mI μ 22 i1 (cl x3)))) - (Int32.toInt64 ((nI 4) * (mI μ34 27 i2 (cl x3)))))) fun μ66 =>
self (x3 + (nI 1)) μ66 else none else none else none else none
def wa_makeRows_L73 (i0 : Nat) (i1 : Nat) (i2 : Nat)  : Int32 → Mem → Option (Unit × Mem) := fixN (fun _ _ => none) (wa_makeRows_B73 i0 i1 i2) 60000
def wa_makeRows (i0 : Nat) (i1 : Nat) (i2 : Nat) (μ : Mem) : Option (Unit × Mem) :=
wa_makeRows_L2 i0 i1 i2 (fun  (μ23 : Mem) =>
mb (stL μ23 41 (4 * i0 + 0) 4 (Int32.toInt64 ((nI 4) * (mI μ23 26 i2 4)))) fun μ27 =>
wa_makeRows_L73 i0 i1 i2  (nI 0) μ27) (nI 0) μ
-- SluiceLogs$Water.reduceRow(IIJ)V
def wa_reduceRow_B30 (i0 : Nat) (x1 : Int32) (x2 : Int32) (x3 : Int64) (x5 : Int64) (x7 : Int64)  (self : Int32 → Mem → Option (Unit × Mem)) (x9 : Int32) (μ : Mem) : Option (Unit × Mem) :=
if (nI 4) < x9 then
some ((), μ) else
if inB x1 4 = true then
if inB x9 5 = true then
if inB x2 4 = true then
if ¬ x3 = 0 then
mb (stL μ 41 (4 * i0 + (cl x1)) (cl x9) (((x5 * (mL μ 41 (4 * i0 + (cl x1)) (cl x9))) - (x7 * (mL μ 41 (4 * i0 + (cl x2)) (cl x9)))) / x3)) fun μ21 =>
self (x9 + (nI 1)) μ21 else none else none else none else none
def wa_reduceRow_L30 (i0 : Nat) (x1 : Int32) (x2 : Int32) (x3 : Int64) (x5 : Int64) (x7 : Int64)  : Int32 → Mem → Option (Unit × Mem) := fixN (fun _ _ => none) (wa_reduceRow_B30 i0 x1 x2 x3 x5 x7) 60000
def wa_reduceRow (i0 : Nat) (x1 : Int32) (x2 : Int32) (x3 : Int64) (μ : Mem) : Option (Unit × Mem) :=
if (lg_cmp x3 (0 : Int64)) = (nI 0) then
some ((), μ) else
if inB x2 4 = true then
if inB x2 5 = true then
if inB x1 4 = true then
wa_reduceRow_L30 i0 x1 x2 x3 (mL μ 41 (4 * i0 + (cl x2)) (cl x2)) (mL μ 41 (4 * i0 + (cl x1)) (cl x2))  (nI 0) μ else none else none else none
-- SluiceLogs$Water.solveRows(I)V
def wa_solveRows_B34 (i0 : Nat) (x1 : Int32) (x2 : Int64) (x4 : Int32) (x5 : Int64) (k62 : Mem → Option (Unit × Mem)) (self : Int32 → Mem → Option (Unit × Mem)) (x7 : Int32) (μ : Mem) : Option (Unit × Mem) :=
if x1 ≤ x7 then
k62 μ else
if x7 = x4 then
self (x7 + (nI 1)) μ else
ob (wa_reduceRow i0 x7 x4 x2 μ) fun _ μ17 =>
self (x7 + (nI 1)) μ17
def wa_solveRows_L34 (i0 : Nat) (x1 : Int32) (x2 : Int64) (x4 : Int32) (x5 : Int64) (k62 : Mem → Option (Unit × Mem)) : Int32 → Mem → Option (Unit × Mem) := fixN (fun _ _ => none) (wa_solveRows_B34 i0 x1 x2 x4 x5 k62) 60000
def wa_solveRows_B5 (i0 : Nat) (x1 : Int32)  (self : Int64 → Int32 → Mem → Option (Unit × Mem)) (x2 : Int64) (x4 : Int32) (μ : Mem) : Option (Unit × Mem) :=
if x1 ≤ x4 then
some ((), (stL μ 32 i0 1 x2)) else
if inB x4 4 = true then
if inB x4 5 = true then
if (lg_cmp (mL μ 41 (4 * i0 + (cl x4)) (cl x4)) (0 : Int64)) = (nI 0) then
some ((), μ) else
wa_solveRows_L34 i0 x1 x2 x4 (mL μ 41 (4 * i0 + (cl x4)) (cl x4)) (fun  (μ23 : Mem) =>
self (mL μ 41 (4 * i0 + (cl x4)) (cl x4)) (x4 + (nI 1)) μ23) (nI 0) μ else none else none
def wa_solveRows_L5 (i0 : Nat) (x1 : Int32)  : Int64 → Int32 → Mem → Option (Unit × Mem) := fixN (fun _ _ _ => none) (wa_solveRows_B5 i0 x1) 60000
def wa_solveRows (i0 : Nat) (x1 : Int32) (μ : Mem) : Option (Unit × Mem) :=
wa_solveRows_L5 i0 x1  (1 : Int64) (nI 0) μ
-- SluiceLogs$Water.hundredfold(JJ)I
def wa_hundredfold (x0 : Int64) (x2 : Int64) (μ : Mem) : Option (Int32 × Mem) :=
if (lg_cmp x2 (0 : Int64)) = (nI 0) then
some ((nI 0), μ) else
if ¬ x2 = 0 then
some ((Int64.toInt32 (((100 : Int64) * x0) / x2)), μ) else none
-- SluiceLogs$Water.shareOut(LSluiceLogs$Plan;LSluiceLogs$State;)V
def wa_shareOut_B2 (i0 : Nat) (i1 : Nat) (i2 : Nat) (k63 : Mem → Option (Unit × Mem)) (self : Int32 → Mem → Option (Unit × Mem)) (x3 : Int32) (μ : Mem) : Option (Unit × Mem) :=
if (mI μ 18 i1 0) ≤ x3 then
k63 μ else
if inB x3 4 = true then
mb (stL μ 33 i0 (cl x3) ((Int32.toInt64 (mI μ 36 i0 (cl x3))) * (mL μ 41 (4 * i0 + (cl x3)) 4))) fun μ6 =>
mb (stL μ6 32 i0 2 ((mL μ6 32 i0 2) + ((Int32.toInt64 (mI μ6 37 i0 (cl x3))) * (mL μ6 41 (4 * i0 + (cl x3)) 4)))) fun μ8 =>
self (x3 + (nI 1)) μ8 else none
def wa_shareOut_L2 (i0 : Nat) (i1 : Nat) (i2 : Nat) (k63 : Mem → Option (Unit × Mem)) : Int32 → Mem → Option (Unit × Mem) := fixN (fun _ _ => none) (wa_shareOut_B2 i0 i1 i2 k63) 60000
def wa_shareOut_B65 (i0 : Nat) (i1 : Nat) (i2 : Nat) (k135 : Mem → Option (Unit × Mem)) (self : Int32 → Mem → Option (Unit × Mem)) (x3 : Int32) (μ : Mem) : Option (Unit × Mem) :=
if (mI μ 18 i1 2) ≤ x3 then
k135 μ else
if inB x3 12 = true then
if ((mI μ 23 i1 (cl x3)) - (nI 10)) < (nI 0) then
self (x3 + (nI 1)) μ else
if (mI μ 18 i1 1) ≤ ((mI μ 23 i1 (cl x3)) - (nI 10)) then
self (x3 + (nI 1)) μ else
if inB ((mI μ 23 i1 (cl x3)) - (nI 10)) 6 = true then
if inB (mI μ 22 i1 (cl x3)) 4 = true then
mb (stL μ 34 i0 (cl ((mI μ 23 i1 (cl x3)) - (nI 10))) ((mL μ 34 i0 (cl ((mI μ 23 i1 (cl x3)) - (nI 10)))) + ((Int32.toInt64 (mI μ 27 i2 (cl x3))) * (mL μ 41 (4 * i0 + (cl (mI μ 22 i1 (cl x3)))) 4)))) fun μ29 =>
self (x3 + (nI 1)) μ29 else none else none else none
def wa_shareOut_L65 (i0 : Nat) (i1 : Nat) (i2 : Nat) (k135 : Mem → Option (Unit × Mem)) : Int32 → Mem → Option (Unit × Mem) := fixN (fun _ _ => none) (wa_shareOut_B65 i0 i1 i2 k135) 60000
def wa_shareOut_B137 (i0 : Nat) (i1 : Nat) (i2 : Nat)  (self : Int32 → Mem → Option (Unit × Mem)) (x3 : Int32) (μ : Mem) : Option (Unit × Mem) :=
if (mI μ 18 i1 1) ≤ x3 then
some ((), μ) else
if inB x3 6 = true then
ob (wa_hundredfold (mL μ 34 i0 (cl x3)) (mL μ 32 i0 1) μ) fun r43 μ40 =>
mb (stL (stI μ40 35 i0 (cl x3) r43) 32 i0 4 ((mL (stI μ40 35 i0 (cl x3) r43) 32 i0 4) + ((Int32.toInt64 (mI (stI μ40 35 i0 (cl x3) r43) 29 i2 (cl x3))) * (mL (stI μ40 35 i0 (cl x3) r43) 34 i0 (cl x3))))) fun μ45 =>
mb (stL μ45 32 i0 3 ((mL μ45 32 i0 3) + ((Int32.toInt64 ((nI 4) - (mI μ45 29 i2 (cl x3)))) * (mL μ45 34 i0 (cl x3))))) fun μ47 =>
self (x3 + (nI 1)) μ47 else none
def wa_shareOut_L137 (i0 : Nat) (i1 : Nat) (i2 : Nat)  : Int32 → Mem → Option (Unit × Mem) := fixN (fun _ _ => none) (wa_shareOut_B137 i0 i1 i2) 60000
def wa_shareOut (i0 : Nat) (i1 : Nat) (i2 : Nat) (μ : Mem) : Option (Unit × Mem) :=
wa_shareOut_L2 i0 i1 i2 (fun  (μ10 : Mem) =>
wa_shareOut_L65 i0 i1 i2 (fun  (μ31 : Mem) =>
wa_shareOut_L137 i0 i1 i2  (nI 0) μ31) (nI 0) μ10) (nI 0) μ
-- SluiceLogs$Water.solve(LSluiceLogs$Plan;LSluiceLogs$State;)V
def wa_solve (i0 : Nat) (i1 : Nat) (i2 : Nat) (μ : Mem) : Option (Unit × Mem) :=
ob (wa_clear i0 μ) fun _ μ1 =>
if (mI μ1 18 i1 0) = (nI 0) then
mb (stL μ1 32 i0 2 (Int32.toInt64 (mI μ1 26 i2 4))) fun μ58 =>
some ((), μ58) else
ob (wa_partLogs i0 i1 i2 μ1) fun _ μ9 =>
ob (wa_reachLogs i0 i1 i2 μ9) fun _ μ14 =>
ob (wa_openLogs i0 i1 i2 μ14) fun _ μ19 =>
ob (wa_reachesClosedLog i0 (mI μ19 18 i1 0) μ19) fun r27 μ24 =>
if r27 = nI 0 ∨ r27 = nI 1 then
if (mI (stI μ24 32 i0 0 r27) 32 i0 0) = (nI 0) then
ob (wa_makeRows i0 i1 i2 (stI μ24 32 i0 0 r27)) fun _ μ34 =>
ob (wa_solveRows i0 (mI μ34 18 i1 0) μ34) fun _ μ39 =>
ob (wa_shareOut i0 i1 i2 μ39) fun _ μ44 =>
some ((), μ44) else
mb (stL (stI μ24 32 i0 0 r27) 32 i0 1 (0 : Int64)) fun μ52 =>
some ((), μ52) else none
-- SluiceLogs$World.settle()V
def wo_settle (i0 : Nat) (μ : Mem) : Option (Unit × Mem) :=
if (mR μ 31 i0 0) < 2 then
ob (wa_solve i0 (mR μ 31 i0 0) (i0 + 2) μ) fun _ μ3 =>
some ((), μ3) else none
-- SluiceLogs$World.widthsOf(I)I
def wo_widthsOf_B4 (i0 : Nat) (x1 : Int32)  (self : Int32 → Int32 → Mem → Option (Int32 × Mem)) (x2 : Int32) (x3 : Int32) (μ : Mem) : Option (Int32 × Mem) :=
if (mR μ 31 i0 0) < 2 then
if (mI μ 18 (mR μ 31 i0 0) 2) ≤ x3 then
some (x2, μ) else
if inB x3 12 = true then
if (mI μ 22 (mR μ 31 i0 0) (cl x3)) = x1 then
self (x2 + (mI μ 27 (i0 + 2) (cl x3))) (x3 + (nI 1)) μ else
self x2 (x3 + (nI 1)) μ else none else none
def wo_widthsOf_L4 (i0 : Nat) (x1 : Int32)  : Int32 → Int32 → Mem → Option (Int32 × Mem) := fixN (fun _ _ _ => none) (wo_widthsOf_B4 i0 x1) 60000
def wo_widthsOf (i0 : Nat) (x1 : Int32) (μ : Mem) : Option (Int32 × Mem) :=
wo_widthsOf_L4 i0 x1  (nI 0) (nI 0) μ
-- SluiceLogs$World.widthsTo(I)I
def wo_widthsTo_B4 (i0 : Nat) (x1 : Int32)  (self : Int32 → Int32 → Mem → Option (Int32 × Mem)) (x2 : Int32) (x3 : Int32) (μ : Mem) : Option (Int32 × Mem) :=
if (mR μ 31 i0 0) < 2 then
if (mI μ 18 (mR μ 31 i0 0) 2) ≤ x3 then
some (x2, μ) else
if inB x3 12 = true then
if (mI μ 23 (mR μ 31 i0 0) (cl x3)) = ((nI 10) + x1) then
self (x2 + (mI μ 27 (i0 + 2) (cl x3))) (x3 + (nI 1)) μ else
self x2 (x3 + (nI 1)) μ else none else none
def wo_widthsTo_L4 (i0 : Nat) (x1 : Int32)  : Int32 → Int32 → Mem → Option (Int32 × Mem) := fixN (fun _ _ _ => none) (wo_widthsTo_B4 i0 x1) 60000
def wo_widthsTo (i0 : Nat) (x1 : Int32) (μ : Mem) : Option (Int32 × Mem) :=
wo_widthsTo_L4 i0 x1  (nI 0) (nI 0) μ
-- SluiceLogs$World.drainTarget(I)I
def wo_drainTarget (i0 : Nat) (x1 : Int32) (μ : Mem) : Option (Int32 × Mem) :=
if inB x1 6 = true then
if (mI μ 29 (i0 + 2) (cl x1)) ≤ (nI 0) then
some ((nI 0), μ) else
some (((nI 1) <<< ((mI μ 28 (i0 + 2) (cl x1)) &&& 31)), μ) else none
-- SluiceLogs$World.canStep(I)Z
def wo_canStep (i0 : Nat) (x1 : Int32) (μ : Mem) : Option (Int32 × Mem) :=
if x1 < (nI 0) then
some ((nI 0), μ) else
if (mR μ 31 i0 0) < 2 then
if x1 < ((nI 2) * (mI μ 18 (mR μ 31 i0 0) 2)) then
if inB (x1 / (nI 2)) 12 = true then
if (irm x1 (nI 2)) = (nI 1) then
if (nI 3) ≤ (mI μ 27 (i0 + 2) (cl (x1 / (nI 2)))) then
some ((nI 0), μ) else
some ((nI 1), μ) else
if (mI μ 27 (i0 + 2) (cl (x1 / (nI 2)))) ≤ (nI 0) then
some ((nI 0), μ) else
some ((nI 1), μ) else none else
some ((nI 0), μ) else none
-- SluiceLogs$World.doStep(I)V
def wo_doStep (i0 : Nat) (x1 : Int32) (μ : Mem) : Option (Unit × Mem) :=
if inB (x1 / (nI 2)) 12 = true then
if (irm x1 (nI 2)) = (nI 1) then
mb (stI μ 27 (i0 + 2) (cl (x1 / (nI 2))) ((mI μ 27 (i0 + 2) (cl (x1 / (nI 2)))) + (nI 1))) fun μ8 =>
some ((), μ8) else
mb (stI μ 27 (i0 + 2) (cl (x1 / (nI 2))) ((mI μ 27 (i0 + 2) (cl (x1 / (nI 2)))) + (-1 : Int32))) fun μ6 =>
some ((), μ6) else none
-- SluiceLogs$World.lookAround(I)V
def wo_lookAround (i0 : Nat) (x1 : Int32) (μ : Mem) : Option (Unit × Mem) :=
mb (stI (stI μ 42 i0 4 (mI μ 26 (i0 + 2) 5)) 42 i0 5 x1) fun μ1 =>
if (mR μ1 31 i0 0) < 2 then
mb (stI μ1 42 i0 7 (mI μ1 18 (mR μ1 31 i0 0) 0)) fun μ5 =>
if (mR μ5 31 i0 0) < 2 then
mb (stI μ5 42 i0 8 (mI μ5 18 (mR μ5 31 i0 0) 1)) fun μ9 =>
some ((), μ9) else none else none
-- SluiceLogs$World.lookAtField(I)V
def wo_lookAtField (i0 : Nat) (x1 : Int32) (μ : Mem) : Option (Unit × Mem) :=
if inB x1 6 = true then
if (mR (stI μ 42 i0 0 (mI μ 35 i0 (cl x1))) 31 i0 0) < 2 then
mb (stI (stI μ 42 i0 0 (mI μ 35 i0 (cl x1))) 42 i0 1 (mI (stI μ 42 i0 0 (mI μ 35 i0 (cl x1))) 21 (mR (stI μ 42 i0 0 (mI μ 35 i0 (cl x1))) 31 i0 0) (cl x1))) fun μ5 =>
ob (wo_widthsTo i0 x1 μ5) fun r10 μ7 =>
mb (stI (stI μ7 42 i0 2 r10) 42 i0 3 (mI (stI μ7 42 i0 2 r10) 30 (i0 + 2) (cl x1))) fun μ12 =>
mb (stI μ12 42 i0 6 (mI μ12 29 (i0 + 2) (cl x1))) fun μ14 =>
ob (wo_lookAround i0 x1 μ14) fun _ μ16 =>
some ((), μ16) else none else none
-- SluiceLogs$World.joined(III)I
def wo_joined (x0 : Int32) (x1 : Int32) (x2 : Int32) (μ : Mem) : Option (Int32 × Mem) :=
if x1 = (nI 20000) then
some ((x0 + x2), μ) else
if x1 = (nI 20001) then
some ((x0 - x2), μ) else
if x1 = (nI 20002) then
some ((x0 * x2), μ) else
if x2 = (nI 0) then
some ((nI 0), μ) else
if ¬ x2 = 0 then
some ((x0 / x2), μ) else none
-- java/lang/Math.max(II)I
def j_max (x0 : Int32) (x1 : Int32) (μ : Mem) : Option (Int32 × Mem) :=
if x0 < x1 then
some (x1, μ) else
some (x0, μ)
-- SluiceLogs$World.valueOf(I)I
def wo_valueOf_B12 (i0 : Nat) (k94 : Int32 → Mem → Option (Int32 × Mem)) (self : Int32 → Int32 → Mem → Option (Int32 × Mem)) (x2 : Int32) (x3 : Int32) (μ : Mem) : Option (Int32 × Mem) :=
if (mR μ 31 i0 0) < 2 then
if (mI μ 18 (mR μ 31 i0 0) 11) ≤ x3 then
some ((nI 0), μ) else
if inB x3 408 = true then
if (nI 20000) ≤ (mI μ 25 (mR μ 31 i0 0) (cl x3)) then
if (mI μ 25 (mR μ 31 i0 0) (cl x3)) = (nI 20005) then
k94 x2 μ else
if (mI μ 25 (mR μ 31 i0 0) (cl x3)) = (nI 20006) then
k94 x2 μ else
if (nI 2) ≤ x2 then
if (mI μ 25 (mR μ 31 i0 0) (cl x3)) = (nI 20004) then
if inB (x2 + (-2 : Int32)) 408 = true then
if inB ((x2 + (-2 : Int32)) + (nI 1)) 408 = true then
if (mI μ 43 i0 (cl ((x2 + (-2 : Int32)) + (nI 1)))) ≤ (mI μ 43 i0 (cl (x2 + (-2 : Int32)))) then
ob (pl_elseBehind (mR μ 31 i0 0) x3 μ) fun r69 μ66 =>
ob (j_max x3 r69 μ66) fun r74 μ71 =>
self (x2 + (-2 : Int32)) (r74 + (nI 1)) μ71 else
self (x2 + (-2 : Int32)) (x3 + (nI 1)) μ else none else none else
if (mI μ 25 (mR μ 31 i0 0) (cl x3)) = (nI 20003) then
if inB (x2 - (nI 1)) 408 = true then
if (mI μ 43 i0 (cl (x2 - (nI 1)))) = (nI 0) then
some ((nI 0), μ) else
if inB ((x2 + (-1 : Int32)) - (nI 1)) 408 = true then
if inB (x2 + (-1 : Int32)) 408 = true then
ob (wo_joined (mI μ 43 i0 (cl ((x2 + (-1 : Int32)) - (nI 1)))) (mI μ 25 (mR μ 31 i0 0) (cl x3)) (mI μ 43 i0 (cl (x2 + (-1 : Int32)))) μ) fun r54 μ51 =>
mb (stI μ51 43 i0 (cl ((x2 + (-1 : Int32)) - (nI 1))) r54) fun μ56 =>
self (x2 + (-1 : Int32)) (x3 + (nI 1)) μ56 else none else none else none else
if inB ((x2 + (-1 : Int32)) - (nI 1)) 408 = true then
if inB (x2 + (-1 : Int32)) 408 = true then
ob (wo_joined (mI μ 43 i0 (cl ((x2 + (-1 : Int32)) - (nI 1)))) (mI μ 25 (mR μ 31 i0 0) (cl x3)) (mI μ 43 i0 (cl (x2 + (-1 : Int32)))) μ) fun r37 μ34 =>
mb (stI μ34 43 i0 (cl ((x2 + (-1 : Int32)) - (nI 1))) r37) fun μ39 =>
self (x2 + (-1 : Int32)) (x3 + (nI 1)) μ39 else none else none else
some ((nI 0), μ) else
if (nI 10000) ≤ (mI μ 25 (mR μ 31 i0 0) (cl x3)) then
if inB ((mI μ 25 (mR μ 31 i0 0) (cl x3)) - (nI 10000)) 9 = true then
if inB x2 408 = true then
mb (stI μ 43 i0 (cl x2) (mI μ 42 i0 (cl ((mI μ 25 (mR μ 31 i0 0) (cl x3)) - (nI 10000))))) fun μ85 =>
self (x2 + (nI 1)) (x3 + (nI 1)) μ85 else none else none else
if inB x2 408 = true then
mb (stI μ 43 i0 (cl x2) (mI μ 25 (mR μ 31 i0 0) (cl x3))) fun μ89 =>
self (x2 + (nI 1)) (x3 + (nI 1)) μ89 else none else none else none
def wo_valueOf_L12 (i0 : Nat) (k94 : Int32 → Mem → Option (Int32 × Mem)) : Int32 → Int32 → Mem → Option (Int32 × Mem) := fixN (fun _ _ _ => none) (wo_valueOf_B12 i0 k94) 60000
def wo_valueOf (i0 : Nat) (x1 : Int32) (μ : Mem) : Option (Int32 × Mem) :=
if (mR μ 31 i0 0) < 2 then
if inB x1 4 = true then
wo_valueOf_L12 i0 (fun (x91 : Int32) (μ92 : Mem) =>
if x91 ≤ (nI 0) then
some ((nI 0), μ92) else
if inB (x91 - (nI 1)) 408 = true then
some ((mI μ92 43 i0 (cl (x91 - (nI 1)))), μ92) else none) (nI 0) (mI μ 24 (mR μ 31 i0 0) (cl x1)) μ else none else none
-- SluiceLogs$World.heldTo(II)I
def wo_heldTo (x0 : Int32) (x1 : Int32) (μ : Mem) : Option (Int32 × Mem) :=
ob (j_min x0 x1 μ) fun r4 μ1 =>
ob (j_max (nI 0) r4 μ1) fun r9 μ6 =>
some (r9, μ6)
-- SluiceLogs$World.needsOf(I)I
def wo_needsOf (i0 : Nat) (x1 : Int32) (μ : Mem) : Option (Int32 × Mem) :=
ob (wo_lookAtField i0 x1 μ) fun _ μ1 =>
ob (wo_valueOf i0 (nI 0) μ1) fun r9 μ6 =>
ob (wo_heldTo (nI 9999) r9 μ6) fun r14 μ11 =>
some (r14, μ11)
-- SluiceLogs$World.worthOf(I)I
def wo_worthOf (i0 : Nat) (x1 : Int32) (μ : Mem) : Option (Int32 × Mem) :=
ob (wo_lookAtField i0 x1 μ) fun _ μ1 =>
ob (wo_valueOf i0 (nI 1) μ1) fun r9 μ6 =>
ob (wo_heldTo (nI 99) r9 μ6) fun r14 μ11 =>
some (r14, μ11)
-- SluiceLogs$World.lookAtNotch(I)V
def wo_lookAtNotch (i0 : Nat) (x1 : Int32) (μ : Mem) : Option (Unit × Mem) :=
mb (stI (stI μ 42 i0 0 (nI 0)) 42 i0 1 (nI 0)) fun μ1 =>
if inB x1 12 = true then
mb (stI μ1 42 i0 2 (mI μ1 27 (i0 + 2) (cl x1))) fun μ5 =>
mb (stI (stI μ5 42 i0 3 (nI 0)) 42 i0 6 (nI 0)) fun μ7 =>
ob (wo_lookAround i0 x1 μ7) fun _ μ9 =>
some ((), μ9) else none
-- SluiceLogs$World.costsOf(I)I
def wo_costsOf (i0 : Nat) (x1 : Int32) (μ : Mem) : Option (Int32 × Mem) :=
ob (wo_lookAtNotch i0 x1 μ) fun _ μ1 =>
ob (wo_valueOf i0 (nI 2) μ1) fun r9 μ6 =>
ob (wo_heldTo (nI 99) r9 μ6) fun r14 μ11 =>
some (r14, μ11)
-- SluiceLogs$World.siltsOf(I)I
def wo_siltsOf (i0 : Nat) (x1 : Int32) (μ : Mem) : Option (Int32 × Mem) :=
ob (wo_lookAtNotch i0 x1 μ) fun _ μ1 =>
ob (wo_valueOf i0 (nI 3) μ1) fun r9 μ6 =>
ob (wo_heldTo (nI 100) r9 μ6) fun r14 μ11 =>
some (r14, μ11)
-- SluiceLogs$World.lacks(I)Z
def wo_lacks (i0 : Nat) (x1 : Int32) (μ : Mem) : Option (Int32 × Mem) :=
if inB x1 6 = true then
ob (wo_needsOf i0 x1 μ) fun r6 μ3 =>
if r6 ≤ (mI μ 35 i0 (cl x1)) then
some ((nI 0), μ3) else
some ((nI 1), μ3) else none
-- SluiceLogs$World.lackingFields()I
def wo_lackingFields_B4 (i0 : Nat)  (self : Int32 → Int32 → Mem → Option (Int32 × Mem)) (x1 : Int32) (x2 : Int32) (μ : Mem) : Option (Int32 × Mem) :=
if (mR μ 31 i0 0) < 2 then
if (mI μ 18 (mR μ 31 i0 0) 1) ≤ x2 then
some (x1, μ) else
ob (wo_lacks i0 x2 μ) fun r9 μ6 =>
if r9 = (nI 0) then
self x1 (x2 + (nI 1)) μ6 else
self (x1 ||| ((nI 1) <<< (x2 &&& 31))) (x2 + (nI 1)) μ6 else none
def wo_lackingFields_L4 (i0 : Nat)  : Int32 → Int32 → Mem → Option (Int32 × Mem) := fixN (fun _ _ _ => none) (wo_lackingFields_B4 i0) 60000
def wo_lackingFields (i0 : Nat) (μ : Mem) : Option (Int32 × Mem) :=
wo_lackingFields_L4 i0  (nI 0) (nI 0) μ
-- SluiceLogs$World.lacksSomewhere()Z
def wo_lacksSomewhere_B2 (i0 : Nat)  (self : Int32 → Mem → Option (Int32 × Mem)) (x1 : Int32) (μ : Mem) : Option (Int32 × Mem) :=
if (mR μ 31 i0 0) < 2 then
if (mI μ 18 (mR μ 31 i0 0) 1) ≤ x1 then
some ((nI 0), μ) else
if inB x1 6 = true then
ob (wo_needsOf i0 x1 μ) fun r11 μ8 =>
if r11 ≤ (mI μ 35 i0 (cl x1)) then
self (x1 + (nI 1)) μ8 else
some ((nI 1), μ8) else none else none
def wo_lacksSomewhere_L2 (i0 : Nat)  : Int32 → Mem → Option (Int32 × Mem) := fixN (fun _ _ => none) (wo_lacksSomewhere_B2 i0) 60000
def wo_lacksSomewhere (i0 : Nat) (μ : Mem) : Option (Int32 × Mem) :=
wo_lacksSomewhere_L2 i0  (nI 0) μ
-- SluiceLogs$World.grownOfAll()I
def wo_grownOfAll_B4 (i0 : Nat)  (self : Int32 → Int32 → Mem → Option (Int32 × Mem)) (x1 : Int32) (x2 : Int32) (μ : Mem) : Option (Int32 × Mem) :=
if (mR μ 31 i0 0) < 2 then
if (mI μ 18 (mR μ 31 i0 0) 1) ≤ x2 then
some (x1, μ) else
if inB x2 6 = true then
self (x1 + (mI μ 30 (i0 + 2) (cl x2))) (x2 + (nI 1)) μ else none else none
def wo_grownOfAll_L4 (i0 : Nat)  : Int32 → Int32 → Mem → Option (Int32 × Mem) := fixN (fun _ _ _ => none) (wo_grownOfAll_B4 i0) 60000
def wo_grownOfAll (i0 : Nat) (μ : Mem) : Option (Int32 × Mem) :=
wo_grownOfAll_L4 i0  (nI 0) (nI 0) μ
-- SluiceLogs$World.grow()V
def wo_grow_B2 (i0 : Nat)  (self : Int32 → Mem → Option (Unit × Mem)) (x1 : Int32) (μ : Mem) : Option (Unit × Mem) :=
if (mR μ 31 i0 0) < 2 then
if (mI μ 18 (mR μ 31 i0 0) 1) ≤ x1 then
some ((), μ) else
if inB x1 6 = true then
ob (wo_worthOf i0 x1 μ) fun r11 μ8 =>
ob (j_min (nI 9999) ((mI μ 30 (i0 + 2) (cl x1)) + r11) μ8) fun r16 μ13 =>
self (x1 + (nI 1)) (stI μ13 30 (i0 + 2) (cl x1) r16) else none else none
def wo_grow_L2 (i0 : Nat)  : Int32 → Mem → Option (Unit × Mem) := fixN (fun _ _ => none) (wo_grow_B2 i0) 60000
def wo_grow (i0 : Nat) (μ : Mem) : Option (Unit × Mem) :=
wo_grow_L2 i0  (nI 0) μ
-- SluiceLogs$World.mixed(II)I
def wo_mixed (x0 : Int32) (x1 : Int32) (μ : Mem) : Option (Int32 × Mem) :=
vb ((((x0 ^^^ x1) * (nI 1103515245)) + (nI 12345))) fun v1 : Int32 =>
some ((v1 ^^^ (ushr v1 (nI 15))), μ)
-- SluiceLogs$World.lot(III)I
def wo_lot (x0 : Int32) (x1 : Int32) (x2 : Int32) (μ : Mem) : Option (Int32 × Mem) :=
ob (wo_mixed x1 (nI 217) μ) fun r4 μ1 =>
ob (wo_mixed r4 x2 μ1) fun r9 μ6 =>
if x0 ≤ (nI 0) then
some ((nI 0), μ6) else
if ¬ x0 = 0 then
some ((irm (ushr r9 (nI 1)) x0), μ6) else none
-- SluiceLogs$World.silt(I)Z
def wo_silt_B4 (i0 : Nat) (x1 : Int32)  (self : Int32 → Int32 → Mem → Option (Int32 × Mem)) (x2 : Int32) (x3 : Int32) (μ : Mem) : Option (Int32 × Mem) :=
if (mR μ 31 i0 0) < 2 then
if (mI μ 18 (mR μ 31 i0 0) 2) ≤ x3 then
if x2 = nI 0 ∨ x2 = nI 1 then
some (x2, μ) else none else
if inB x3 12 = true then
if (mI μ 27 (i0 + 2) (cl x3)) ≤ (nI 0) then
self x2 (x3 + (nI 1)) μ else
ob (wo_lot (nI 100) x1 (((nI 16) * (mI μ 26 (i0 + 2) 5)) + x3) μ) fun r16 μ13 =>
ob (wo_siltsOf i0 x3 μ13) fun r21 μ18 =>
if r21 ≤ r16 then
self x2 (x3 + (nI 1)) μ18 else
mb (stI μ18 27 (i0 + 2) (cl x3) ((mI μ18 27 (i0 + 2) (cl x3)) - (nI 1))) fun μ26 =>
self (nI 1) (x3 + (nI 1)) μ26 else none else none
def wo_silt_L4 (i0 : Nat) (x1 : Int32)  : Int32 → Int32 → Mem → Option (Int32 × Mem) := fixN (fun _ _ _ => none) (wo_silt_B4 i0 x1) 60000
def wo_silt (i0 : Nat) (x1 : Int32) (μ : Mem) : Option (Int32 × Mem) :=
wo_silt_L4 i0 x1  (nI 0) (nI 0) μ
-- SluiceLogs$World.passDays(IIZ)V
def wo_passDays_B3 (i0 : Nat) (x1 : Int32) (x2 : Int32) (x3 : Int32)  (self : Int32 → Mem → Option (Unit × Mem)) (x4 : Int32) (μ : Mem) : Option (Unit × Mem) :=
if x1 ≤ x4 then
some ((), μ) else
ob (wo_grow i0 μ) fun _ μ4 =>
if x3 = (nI 0) then
mb (stI μ4 26 (i0 + 2) 5 ((mI μ4 26 (i0 + 2) 5) + (nI 1))) fun μ12 =>
self (x4 + (nI 1)) μ12 else
ob (wo_silt i0 x2 μ4) fun r18 μ15 =>
if r18 = (nI 0) then
mb (stI μ15 26 (i0 + 2) 5 ((mI μ15 26 (i0 + 2) 5) + (nI 1))) fun μ23 =>
self (x4 + (nI 1)) μ23 else
mb (stI μ15 26 (i0 + 2) 5 ((mI μ15 26 (i0 + 2) 5) + (nI 1))) fun μ26 =>
ob (wo_settle i0 μ26) fun _ μ29 =>
self (x4 + (nI 1)) μ29
def wo_passDays_L3 (i0 : Nat) (x1 : Int32) (x2 : Int32) (x3 : Int32)  : Int32 → Mem → Option (Unit × Mem) := fixN (fun _ _ => none) (wo_passDays_B3 i0 x1 x2 x3) 60000
def wo_passDays (i0 : Nat) (x1 : Int32) (x2 : Int32) (x3 : Int32) (μ : Mem) : Option (Unit × Mem) :=
wo_passDays_L3 i0 x1 x2 x3  (nI 0) μ
-- SluiceLogs$Tokens.endOfToken([BII)I
def to_endOfToken_r11_B20 (x1 : Int32) (x3 : Int32) (x4 : Int32)  (self : Int32 → Mem → Option (Int32 × Mem)) (x5 : Int32) (μ : Mem) : Option (Int32 × Mem) :=
if x1 ≤ x5 then
some (x5, μ) else
if x3 = (nI 0) then
if x4 = (nI 0) then
some (x5, μ) else
if inB x5 2000 = true then
ob (to_isDigit (mI μ 11 0 (cl x5)) μ) fun r27 μ24 =>
if r27 = (nI 0) then
some (x5, μ24) else
self (x5 + (nI 1)) μ24 else none else
if inB x5 2000 = true then
ob (to_isLetter (mI μ 11 0 (cl x5)) μ) fun r38 μ35 =>
if r38 = (nI 0) then
if x4 = (nI 0) then
some (x5, μ35) else
ob (to_isDigit (mI μ35 11 0 (cl x5)) μ35) fun r49 μ46 =>
if r49 = (nI 0) then
some (x5, μ46) else
self (x5 + (nI 1)) μ46 else
self (x5 + (nI 1)) μ35 else none
def to_endOfToken_r11_L20 (x1 : Int32) (x3 : Int32) (x4 : Int32)  : Int32 → Mem → Option (Int32 × Mem) := fixN (fun _ _ => none) (to_endOfToken_r11_B20 x1 x3 x4) 60000
def to_endOfToken_r11 (x1 : Int32) (x2 : Int32) (μ : Mem) : Option (Int32 × Mem) :=
if inB x2 2000 = true then
ob (to_isLetter (mI μ 11 0 (cl x2)) μ) fun r6 μ3 =>
ob (to_isDigit (mI μ3 11 0 (cl x2)) μ3) fun r11 μ8 =>
to_endOfToken_r11_L20 x1 r6 r11  (x2 + (nI 1)) μ8 else none
-- SluiceLogs$Tokens.isWord([BIII)Z
def to_isWord_r11_B3 (x1 : Int32) (x2 : Int32) (x3 : Int32)  (self : Int32 → Mem → Option (Int32 × Mem)) (x4 : Int32) (μ : Mem) : Option (Int32 × Mem) :=
if (nI 8) ≤ x4 then
some ((nI 1), μ) else
if (nI 184) ≤ (x3 + x4) then
some ((nI 1), μ) else
if x2 ≤ (x1 + x4) then
if inB (x3 + x4) 184 = true then
if ((bytS.getD 0 []).getD (cl (x3 + x4)) 0) = (nI 32) then
self (x4 + (nI 1)) μ else
some ((nI 0), μ) else none else
if inB (x1 + x4) 2000 = true then
if inB (x3 + x4) 184 = true then
if ((bytS.getD 0 []).getD (cl (x3 + x4)) 0) = (mI μ 11 0 (cl (x1 + x4))) then
self (x4 + (nI 1)) μ else
some ((nI 0), μ) else none else none
def to_isWord_r11_L3 (x1 : Int32) (x2 : Int32) (x3 : Int32)  : Int32 → Mem → Option (Int32 × Mem) := fixN (fun _ _ => none) (to_isWord_r11_B3 x1 x2 x3) 60000
def to_isWord_r11 (x1 : Int32) (x2 : Int32) (x3 : Int32) (μ : Mem) : Option (Int32 × Mem) :=
to_isWord_r11_L3 x1 x2 x3  (nI 0) μ
-- SluiceLogs$Tokens.wordOrName([BII)I
def to_wordOrName_r11_B2 (x1 : Int32) (x2 : Int32)  (self : Int32 → Mem → Option (Int32 × Mem)) (x3 : Int32) (μ : Mem) : Option (Int32 × Mem) :=
if (nI 22) < x3 then
some ((nI 40), μ) else
ob (to_isWord_r11 x1 x2 (x3 * (nI 8)) μ) fun r7 μ4 =>
if r7 = (nI 0) then
self (x3 + (nI 1)) μ4 else
some (x3, μ4)
def to_wordOrName_r11_L2 (x1 : Int32) (x2 : Int32)  : Int32 → Mem → Option (Int32 × Mem) := fixN (fun _ _ => none) (to_wordOrName_r11_B2 x1 x2) 60000
def to_wordOrName_r11 (x1 : Int32) (x2 : Int32) (μ : Mem) : Option (Int32 × Mem) :=
to_wordOrName_r11_L2 x1 x2  (nI 0) μ
-- SluiceLogs$Tokens.kindOf([BII)I
def to_kindOf_r11_B55 (x1 : Int32)  (self : Int32 → Mem → Option (Int32 × Mem)) (x3 : Int32) (μ : Mem) : Option (Int32 × Mem) :=
if (nI 9) ≤ x3 then
some ((nI 42), μ) else
if inB x3 9 = true then
if inB x1 2000 = true then
if ((bytS.getD 1 []).getD (cl x3) 0) = (mI μ 11 0 (cl x1)) then
some (((nI 30) + x3), μ) else
self (x3 + (nI 1)) μ else none else none
def to_kindOf_r11_L55 (x1 : Int32)  : Int32 → Mem → Option (Int32 × Mem) := fixN (fun _ _ => none) (to_kindOf_r11_B55 x1) 60000
def to_kindOf_r11 (x1 : Int32) (x2 : Int32) (μ : Mem) : Option (Int32 × Mem) :=
if inB x1 2000 = true then
ob (to_isLetter (mI μ 11 0 (cl x1)) μ) fun r6 μ3 =>
if r6 = (nI 0) then
ob (to_isDigit (mI μ3 11 0 (cl x1)) μ3) fun r14 μ11 =>
if r14 = (nI 0) then
to_kindOf_r11_L55 x1  (nI 0) μ11 else
if (x2 - x1) ≤ (nI 4) then
some ((nI 41), μ11) else
some ((nI 42), μ11) else
if (x2 - x1) ≤ (nI 8) then
ob (to_wordOrName_r11 x1 x2 μ3) fun r39 μ36 =>
some (r39, μ36) else
some ((nI 42), μ3) else none
-- SluiceLogs$Tokens.valueOf([BII)J
def to_valueOf_r11_B5 (x2 : Int32)  (self : Int64 → Int32 → Mem → Option (Int64 × Mem)) (x3 : Int64) (x5 : Int32) (μ : Mem) : Option (Int64 × Mem) :=
if x2 ≤ x5 then
some (x3, μ) else
if inB x5 2000 = true then
ob (to_isDigit (mI μ 11 0 (cl x5)) μ) fun r9 μ6 =>
if r9 = (nI 0) then
vb (((x3 * (27 : Int64)) + (Int32.toInt64 (((mI μ6 11 0 (cl x5)) - (nI 97)) + (nI 1))))) fun v14 : Int64 =>
self v14 (x5 + (nI 1)) μ6 else
vb (((x3 * (10 : Int64)) + (Int32.toInt64 ((mI μ6 11 0 (cl x5)) - (nI 48))))) fun v15 : Int64 =>
self v15 (x5 + (nI 1)) μ6 else none
def to_valueOf_r11_L5 (x2 : Int32)  : Int64 → Int32 → Mem → Option (Int64 × Mem) := fixN (fun _ _ _ => none) (to_valueOf_r11_B5 x2) 60000
def to_valueOf_r11 (x1 : Int32) (x2 : Int32) (μ : Mem) : Option (Int64 × Mem) :=
to_valueOf_r11_L5 x2  (0 : Int64) x1 μ
-- SluiceLogs$Tokens.scan([BI)V
def to_scan_r11_B7 (x2 : Int32) (k109 : Mem → Option (Unit × Mem)) (self : Int32 → Mem → Option (Unit × Mem)) (x3 : Int32) (μ : Mem) : Option (Unit × Mem) :=
if x2 ≤ x3 then
k109 μ else
if (nI 400) < (mI μ 13 0 3) then
k109 μ else
if inB x3 2000 = true then
ob (to_isBlank (mI μ 11 0 (cl x3)) μ) fun r12 μ9 =>
if r12 = (nI 0) then
ob (to_endOfToken_r11 x2 x3 μ9) fun r20 μ17 =>
ob (to_kindOf_r11 x3 r20 μ17) fun r25 μ22 =>
if inB (mI μ17 13 0 3) 402 = true then
if inB (mI (stI μ22 14 0 (cl (mI μ17 13 0 3)) r25) 13 0 3) 402 = true then
mb (stI (stI μ22 14 0 (cl (mI μ17 13 0 3)) r25) 15 0 (cl (mI (stI μ22 14 0 (cl (mI μ17 13 0 3)) r25) 13 0 3)) x3) fun μ31 =>
ob (to_valueOf_r11 x3 r20 μ31) fun r36 μ33 =>
if inB (mI μ31 13 0 3) 402 = true then
mb (stI (stL μ33 16 0 (cl (mI μ31 13 0 3)) r36) 13 0 3 ((mI (stL μ33 16 0 (cl (mI μ31 13 0 3)) r36) 13 0 3) + (nI 1))) fun μ40 =>
ob (j_max x3 (r20 - (nI 1)) μ40) fun r45 μ42 =>
self (r45 + (nI 1)) μ42 else none else none else none else
self (x3 + (nI 1)) μ9 else none
def to_scan_r11_L7 (x2 : Int32) (k109 : Mem → Option (Unit × Mem)) : Int32 → Mem → Option (Unit × Mem) := fixN (fun _ _ => none) (to_scan_r11_B7 x2 k109) 60000
def to_scan_r11 (x2 : Int32) (μ : Mem) : Option (Unit × Mem) :=
to_scan_r11_L7 x2 (fun  (μ52 : Mem) =>
if inB (mI μ52 13 0 3) 402 = true then
mb (stI μ52 14 0 (cl (mI μ52 13 0 3)) (nI 43)) fun μ58 =>
if inB (mI μ58 13 0 3) 402 = true then
if inB (mI (stI μ58 15 0 (cl (mI μ58 13 0 3)) x2) 13 0 3) 402 = true then
mb (stL (stI μ58 15 0 (cl (mI μ58 13 0 3)) x2) 16 0 (cl (mI (stI μ58 15 0 (cl (mI μ58 13 0 3)) x2) 13 0 3)) (0 : Int64)) fun μ64 =>
some ((), μ64) else none else none else none) (nI 0) (stI μ 13 0 3 (nI 0))
-- SluiceLogs$Reader.readText([BILSluiceLogs$Plan;)I
def rd_readText_r11_B52  (k86 : Mem → Option (Int32 × Mem)) (self : Int32 → Int32 → Mem → Option (Int32 × Mem)) (x4 : Int32) (x5 : Int32) (μ : Mem) : Option (Int32 × Mem) :=
if (nI 400) < x5 then
k86 μ else
if x4 = (nI 0) then
k86 μ else
ob (rd_kind μ) fun r26 μ23 =>
if r26 = (nI 43) then
k86 μ23 else
ob (rd_readTell μ23) fun r34 μ31 =>
self r34 (x5 + (nI 1)) μ31
def rd_readText_r11_L52  (k86 : Mem → Option (Int32 × Mem)) : Int32 → Int32 → Mem → Option (Int32 × Mem) := fixN (fun _ _ _ => none) (rd_readText_r11_B52 k86) 60000
def rd_readText_r11 (x2 : Int32) (i3 : Nat) (μ : Mem) : Option (Int32 × Mem) :=
ob (to_scan_r11 x2 μ) fun _ μ1 =>
if (mR (stR μ1 12 0 3 i3) 12 0 3) < 2 then
ob (pl_empty (mR (stR μ1 12 0 3 i3) 12 0 3) (stR μ1 12 0 3 i3)) fun _ μ8 =>
mb (stI (stI μ8 12 0 4 (nI 0)) 12 0 0 (nI 0)) fun μ13 =>
mb (stI (stI μ13 12 0 1 (-1 : Int32)) 12 0 5 (nI 0)) fun μ16 =>
rd_readText_r11_L52 (fun  (μ40 : Mem) =>
if (mI μ40 12 0 0) = (nI 0) then
mb (stI (stI μ40 12 0 0 (mI μ40 12 0 5)) 12 0 1 (mI (stI μ40 12 0 0 (mI μ40 12 0 5)) 12 0 6)) fun μ47 =>
some ((mI μ47 12 0 0), μ47) else
some ((mI μ40 12 0 0), μ40)) (nI 1) (nI 0) (stI μ16 12 0 6 (-1 : Int32)) else none
-- SluiceLogs$Talk.fitsKnown([II)Z
def tk_fitsKnown_r53_B2 (i1 : Nat) (x2 : Int32)  (self : Int32 → Mem → Option (Int32 × Mem)) (x3 : Int32) (μ : Mem) : Option (Int32 × Mem) :=
if x2 ≤ x3 then
some ((nI 1), μ) else
if (nI 20) ≤ x3 then
some ((nI 1), μ) else
if inB x3 20 = true then
if inB (mI μ 49 0 (cl x3)) 6 = true then
if (mI μ 53 i1 (cl (mI μ 49 0 (cl x3)))) = (mI μ 50 0 (cl x3)) then
if (nI 1) = (mI μ 51 0 (cl x3)) then
self (x3 + (nI 1)) μ else
some ((nI 0), μ) else
if (nI 0) = (mI μ 51 0 (cl x3)) then
self (x3 + (nI 1)) μ else
some ((nI 0), μ) else none else none
def tk_fitsKnown_r53_L2 (i1 : Nat) (x2 : Int32)  : Int32 → Mem → Option (Int32 × Mem) := fixN (fun _ _ => none) (tk_fitsKnown_r53_B2 i1 x2) 60000
def tk_fitsKnown_r53 (i1 : Nat) (x2 : Int32) (μ : Mem) : Option (Int32 × Mem) :=
tk_fitsKnown_r53_L2 i1 x2  (nI 0) μ
-- SluiceLogs.putOnTape(I)V
def s_putOnTape_B3 (x1 : Int32)  (self : Int32 → Mem → Option (Unit × Mem)) (x2 : Int32) (μ : Mem) : Option (Unit × Mem) :=
if x2 < (nI 0) then
some ((), μ) else
if (nI 2000) ≤ (mI μ 10 0 1) then
some ((), μ) else
if inB (mI μ 10 0 1) 2000 = true then
mb (stI μ 11 0 (cl (mI μ 10 0 1)) (Int8.toInt32 (Int32.toInt8 (Int8.toInt32 (Int32.toInt8 (ushr x1 x2)))))) fun μ9 =>
self (x2 + (-8 : Int32)) (stI μ9 10 0 1 ((mI μ9 10 0 1) + (nI 1))) else none
def s_putOnTape_L3 (x1 : Int32)  : Int32 → Mem → Option (Unit × Mem) := fixN (fun _ _ => none) (s_putOnTape_B3 x1) 60000
def s_putOnTape (x1 : Int32) (μ : Mem) : Option (Unit × Mem) :=
s_putOnTape_L3 x1  (nI 24) μ
-- SluiceLogs.feed(IIIII)I
def s_feed (x1 : Int32) (x2 : Int32) (x3 : Int32) (x4 : Int32) (x5 : Int32) (μ : Mem) : Option (Int32 × Mem) :=
if ((mI μ 10 0 1) + (nI 20)) ≤ (nI 2000) then
ob (s_putOnTape x1 μ) fun _ μ4 =>
ob (s_putOnTape x2 μ4) fun _ μ9 =>
ob (s_putOnTape x3 μ9) fun _ μ14 =>
ob (s_putOnTape x4 μ14) fun _ μ19 =>
ob (s_putOnTape x5 μ19) fun _ μ24 =>
some ((mI μ24 10 0 1), μ24) else
some ((-1 : Int32), μ)
-- SluiceLogs.back(I)I
def s_back (x1 : Int32) (μ : Mem) : Option (Int32 × Mem) :=
if x1 < (nI 0) then
some ((-1 : Int32), μ) else
if x1 ≤ (mI μ 10 0 1) then
some ((mI (stI μ 10 0 1 ((mI μ 10 0 1) - x1)) 10 0 1), (stI μ 10 0 1 ((mI μ 10 0 1) - x1))) else
some ((-1 : Int32), μ)
-- SluiceLogs.beginPlan()V
def s_beginPlan_B64   (self : Int32 → Mem → Option (Unit × Mem)) (x1 : Int32) (μ : Mem) : Option (Unit × Mem) :=
if (nI 3) ≤ x1 then
some ((), μ) else
if inB x1 3 = true then
self (x1 + (nI 1)) (stI μ 47 0 (cl x1) ((nI 0) &&& 1)) else none
def s_beginPlan_L64   : Int32 → Mem → Option (Unit × Mem) := fixN (fun _ _ => none) (s_beginPlan_B64 ) 60000
def s_beginPlan  (μ : Mem) : Option (Unit × Mem) :=
if (mR μ 10 0 3) < 2 then
if (mR (stR μ 31 0 0 (mR μ 10 0 3)) 10 0 3) < 2 then
mb (stR (stR μ 31 0 0 (mR μ 10 0 3)) 31 1 0 (mR (stR μ 31 0 0 (mR μ 10 0 3)) 10 0 3)) fun μ5 =>
if (mR μ5 10 0 3) < 2 then
ob (st_become 2 (mR μ5 10 0 3) μ5) fun _ μ10 =>
ob (wo_settle 0 μ10) fun _ μ15 =>
mb (stI (stI μ15 44 0 2 (nI 0)) 48 0 3 (nI 0)) fun μ20 =>
s_beginPlan_L64  (nI 0) μ20 else none else none else none
-- SluiceLogs.read()I
def s_read  (μ : Mem) : Option (Int32 × Mem) :=
if (mR μ 10 0 4) < 2 then
ob (rd_readText_r11 (mI μ 10 0 1) (mR μ 10 0 4) μ) fun r6 μ3 =>
mb (stI (stI μ3 10 0 1 (nI 0)) 10 0 2 (mI (stI μ3 10 0 1 (nI 0)) 12 0 1)) fun μ8 =>
if r6 = (nI 0) then
if (mR μ8 10 0 3) < 2 then
if (mR μ8 10 0 4) < 2 then
mb (stR (stR μ8 10 0 3 (mR μ8 10 0 4)) 10 0 4 (mR μ8 10 0 3)) fun μ17 =>
ob (s_beginPlan μ17) fun _ μ19 =>
some (r6, μ19) else none else none else
some (r6, μ8) else none
-- SluiceLogs.place()I
def s_place  (μ : Mem) : Option (Int32 × Mem) :=
some ((mI μ 10 0 2), μ)
-- SluiceLogs.isLog(I)Z
def s_isLog (x1 : Int32) (μ : Mem) : Option (Int32 × Mem) :=
if x1 < (nI 0) then
some ((nI 0), μ) else
if (mR μ 10 0 3) < 2 then
if (mI μ 18 (mR μ 10 0 3) 0) ≤ x1 then
some ((nI 0), μ) else
if (nI 4) ≤ x1 then
some ((nI 0), μ) else
some ((nI 1), μ) else none
-- SluiceLogs.greatestDivisor(JJ)J
def s_greatestDivisor_B9   (self : Int64 → Int64 → Int32 → Mem → Option (Int64 × Mem)) (x4 : Int64) (x6 : Int64) (x8 : Int32) (μ : Mem) : Option (Int64 × Mem) :=
if (nI 200) ≤ x8 then
some (x4, μ) else
if (lg_cmp x6 (0 : Int64)) = (nI 0) then
some (x4, μ) else
if ¬ x6 = 0 then
self x6 (lrm x4 x6) (x8 + (nI 1)) μ else none
def s_greatestDivisor_L9   : Int64 → Int64 → Int32 → Mem → Option (Int64 × Mem) := fixN (fun _ _ _ _ => none) (s_greatestDivisor_B9 ) 60000
def s_greatestDivisor (x0 : Int64) (x2 : Int64) (μ : Mem) : Option (Int64 × Mem) :=
s_greatestDivisor_L9  x0 x2 (nI 0) μ
-- SluiceLogs.overInLeast(JJ)I
def s_overInLeast (x0 : Int64) (x2 : Int64) (μ : Mem) : Option (Int32 × Mem) :=
ob (s_greatestDivisor x0 x2 μ) fun r4 μ1 =>
if (lg_cmp r4 (0 : Int64)) = (nI 0) then
some ((nI 0), μ1) else
if ¬ r4 = 0 then
some ((Int64.toInt32 (x0 / r4)), μ1) else none
-- SluiceLogs.underInLeast(JJ)I
def s_underInLeast (x0 : Int64) (x2 : Int64) (μ : Mem) : Option (Int32 × Mem) :=
ob (s_greatestDivisor x0 x2 μ) fun r4 μ1 =>
if (lg_cmp r4 (0 : Int64)) = (nI 0) then
some ((nI 0), μ1) else
if ¬ r4 = 0 then
some ((Int64.toInt32 (x2 / r4)), μ1) else none
-- SluiceLogs.log(II)I
def s_log (x1 : Int32) (x2 : Int32) (μ : Mem) : Option (Int32 × Mem) :=
ob (s_isLog x1 μ) fun r4 μ1 =>
if r4 = (nI 0) then
some ((-1 : Int32), μ1) else
if x2 = (nI 0) then
if inB x1 4 = true then
ob (s_overInLeast (mL μ1 33 0 (cl x1)) (mL μ1 32 0 1) μ1) fun r16 μ13 =>
some (r16, μ13) else none else
if x2 = (nI 1) then
if inB x1 4 = true then
ob (s_underInLeast (mL μ1 33 0 (cl x1)) (mL μ1 32 0 1) μ1) fun r25 μ22 =>
some (r25, μ22) else none else
if x2 = (nI 2) then
ob (wo_widthsOf 0 x1 μ1) fun r32 μ29 =>
some (r32, μ29) else
if x2 = (nI 3) then
if (mR μ1 10 0 3) < 2 then
ob (pl_notchesOf (mR μ1 10 0 3) x1 μ1) fun r41 μ38 =>
some (r41, μ38) else none else
some ((-1 : Int32), μ1)
-- SluiceLogs.isField(I)Z
def s_isField (x1 : Int32) (μ : Mem) : Option (Int32 × Mem) :=
if x1 < (nI 0) then
some ((nI 0), μ) else
if (mR μ 10 0 3) < 2 then
if (mI μ 18 (mR μ 10 0 3) 1) ≤ x1 then
some ((nI 0), μ) else
if (nI 6) ≤ x1 then
some ((nI 0), μ) else
some ((nI 1), μ) else none
-- SluiceLogs.field(II)I
def s_field (x1 : Int32) (x2 : Int32) (μ : Mem) : Option (Int32 × Mem) :=
ob (s_isField x1 μ) fun r4 μ1 =>
if r4 = (nI 0) then
some ((-1 : Int32), μ1) else
if x2 = (nI 0) then
if inB x1 6 = true then
ob (s_overInLeast (mL μ1 34 0 (cl x1)) (mL μ1 32 0 1) μ1) fun r16 μ13 =>
some (r16, μ13) else none else
if x2 = (nI 1) then
if inB x1 6 = true then
ob (s_underInLeast (mL μ1 34 0 (cl x1)) (mL μ1 32 0 1) μ1) fun r25 μ22 =>
some (r25, μ22) else none else
if x2 = (nI 2) then
if inB x1 6 = true then
some ((mI μ1 35 0 (cl x1)), μ1) else none else
if x2 = (nI 3) then
if (mR μ1 10 0 3) < 2 then
if inB x1 6 = true then
some ((mI μ1 21 (mR μ1 10 0 3) (cl x1)), μ1) else none else none else
if x2 = (nI 4) then
ob (wo_needsOf 0 x1 μ1) fun r40 μ37 =>
some (r40, μ37) else
if x2 = (nI 5) then
ob (wo_worthOf 0 x1 μ1) fun r47 μ44 =>
some (r47, μ44) else
if x2 = (nI 6) then
if inB x1 6 = true then
some ((mI μ1 30 2 (cl x1)), μ1) else none else
if x2 = (nI 7) then
if inB x1 6 = true then
some ((mI μ1 29 2 (cl x1)), μ1) else none else
if x2 = (nI 8) then
if inB x1 6 = true then
some ((mI μ1 28 2 (cl x1)), μ1) else none else
if x2 = (nI 9) then
ob (wo_widthsTo 0 x1 μ1) fun r63 μ60 =>
some (r63, μ60) else
some ((-1 : Int32), μ1)
-- SluiceLogs.isNotch(I)Z
def s_isNotch (x1 : Int32) (μ : Mem) : Option (Int32 × Mem) :=
if x1 < (nI 0) then
some ((nI 0), μ) else
if (mR μ 10 0 3) < 2 then
if (mI μ 18 (mR μ 10 0 3) 2) ≤ x1 then
some ((nI 0), μ) else
if (nI 12) ≤ x1 then
some ((nI 0), μ) else
some ((nI 1), μ) else none
-- SluiceLogs.notch(II)I
def s_notch (x1 : Int32) (x2 : Int32) (μ : Mem) : Option (Int32 × Mem) :=
ob (s_isNotch x1 μ) fun r4 μ1 =>
if r4 = (nI 0) then
some ((-1 : Int32), μ1) else
if x2 = (nI 0) then
if (mR μ1 10 0 3) < 2 then
if inB x1 12 = true then
some ((mI μ1 22 (mR μ1 10 0 3) (cl x1)), μ1) else none else none else
if x2 = (nI 1) then
if (mR μ1 10 0 3) < 2 then
if inB x1 12 = true then
some ((mI μ1 23 (mR μ1 10 0 3) (cl x1)), μ1) else none else none else
if x2 = (nI 2) then
if inB x1 12 = true then
some ((mI μ1 27 2 (cl x1)), μ1) else none else
if x2 = (nI 3) then
ob (wo_costsOf 0 x1 μ1) fun r27 μ24 =>
some (r27, μ24) else
if x2 = (nI 4) then
ob (wo_siltsOf 0 x1 μ1) fun r34 μ31 =>
some (r34, μ31) else
some ((-1 : Int32), μ1)
-- SluiceLogs.isFrom(III)Z
def s_isFrom (x0 : Int32) (x1 : Int32) (x2 : Int32) (μ : Mem) : Option (Int32 × Mem) :=
if x1 < x0 then
some ((nI 0), μ) else
if x2 < x1 then
some ((nI 0), μ) else
some ((nI 1), μ)
-- SluiceLogs.stepNumber(IZ)I
def s_stepNumber (x0 : Int32) (x1 : Int32) (μ : Mem) : Option (Int32 × Mem) :=
if x1 = (nI 0) then
some ((((nI 2) * x0) + (nI 0)), μ) else
some ((((nI 2) * x0) + (nI 1)), μ)
-- SluiceLogs.step(IZ)I
def s_step (x1 : Int32) (x2 : Int32) (μ : Mem) : Option (Int32 × Mem) :=
ob (s_isNotch x1 μ) fun r4 μ1 =>
if r4 = (nI 0) then
some ((-1 : Int32), μ1) else
ob (s_stepNumber x1 x2 μ1) fun r12 μ9 =>
ob (wo_canStep 0 r12 μ9) fun r17 μ14 =>
if r17 = (nI 0) then
some ((-1 : Int32), μ14) else
ob (wo_costsOf 0 x1 μ14) fun r25 μ22 =>
ob (pa_push 2 μ22) fun _ μ27 =>
ob (s_stepNumber x1 x2 μ27) fun r35 μ32 =>
ob (wo_doStep 0 r35 μ32) fun _ μ37 =>
ob (wo_settle 0 (stI μ37 26 2 6 ((mI μ37 26 2 6) + r25))) fun _ μ42 =>
some (r25, μ42)
-- SluiceLogs.drain(III)Z
def s_drain (x1 : Int32) (x2 : Int32) (x3 : Int32) (μ : Mem) : Option (Int32 × Mem) :=
ob (s_isField x1 μ) fun r4 μ1 =>
if r4 = (nI 0) then
some ((nI 0), μ1) else
ob (s_isLog x2 μ1) fun r12 μ9 =>
if r12 = (nI 0) then
some ((nI 0), μ9) else
ob (s_isFrom (nI 0) x3 (nI 3) μ9) fun r20 μ17 =>
if r20 = (nI 0) then
some ((nI 0), μ17) else
if inB x1 6 = true then
if (mI μ17 28 2 (cl x1)) = x2 then
if (mI μ17 29 2 (cl x1)) = x3 then
some ((nI 0), μ17) else
ob (pa_push 2 μ17) fun _ μ47 =>
mb (stI (stI μ47 28 2 (cl x1) x2) 29 2 (cl x1) x3) fun μ52 =>
ob (wo_settle 0 μ52) fun _ μ54 =>
some ((nI 1), μ54) else
ob (pa_push 2 μ17) fun _ μ30 =>
mb (stI (stI μ30 28 2 (cl x1) x2) 29 2 (cl x1) x3) fun μ35 =>
ob (wo_settle 0 μ35) fun _ μ37 =>
some ((nI 1), μ37) else none
-- SluiceLogs.spring(I)Z
def s_spring (x1 : Int32) (μ : Mem) : Option (Int32 × Mem) :=
ob (s_isFrom (nI 1) x1 (nI 9) μ) fun r4 μ1 =>
if r4 = (nI 0) then
some ((nI 0), μ1) else
if (mI μ1 26 2 4) = x1 then
some ((nI 0), μ1) else
ob (pa_push 2 μ1) fun _ μ12 =>
ob (wo_settle 0 (stI μ12 26 2 4 x1)) fun _ μ17 =>
some ((nI 1), μ17)
-- SluiceLogs.days(I)I
def s_days (x1 : Int32) (μ : Mem) : Option (Int32 × Mem) :=
ob (s_isFrom (nI 0) x1 (nI 60) μ) fun r4 μ1 =>
if r4 = (nI 0) then
some ((-1 : Int32), μ1) else
if x1 ≤ (nI 0) then
some ((mI μ1 26 2 5), μ1) else
ob (pa_push 2 μ1) fun _ μ12 =>
if (mR μ12 10 0 3) < 2 then
ob (wo_passDays 0 x1 (mI μ12 18 (mR μ12 10 0 3) 3) (nI 1) μ12) fun _ μ19 =>
some ((mI μ19 26 2 5), μ19) else none
-- SluiceLogs.undo()Z
def s_undo  (μ : Mem) : Option (Int32 × Mem) :=
ob (pa_pop 2 μ) fun r4 μ1 =>
if r4 = (nI 0) then
some ((nI 0), μ1) else
ob (wo_settle 0 μ1) fun _ μ9 =>
some ((nI 1), μ9)
-- SluiceLogs.river(I)I
def s_river (x1 : Int32) (μ : Mem) : Option (Int32 × Mem) :=
if x1 = (nI 0) then
ob (s_overInLeast (mL μ 32 0 2) (mL μ 32 0 1) μ) fun r6 μ3 =>
some (r6, μ3) else
if x1 = (nI 1) then
ob (s_underInLeast (mL μ 32 0 2) (mL μ 32 0 1) μ) fun r13 μ10 =>
some (r13, μ10) else
if x1 = (nI 2) then
ob (s_overInLeast (mL μ 32 0 3) ((4 : Int64) * (mL μ 32 0 1)) μ) fun r20 μ17 =>
some (r20, μ17) else
if x1 = (nI 3) then
ob (s_underInLeast (mL μ 32 0 3) ((4 : Int64) * (mL μ 32 0 1)) μ) fun r27 μ24 =>
some (r27, μ24) else
some ((-1 : Int32), μ)
-- SluiceLogs.round()I
def s_round  (μ : Mem) : Option (Int32 × Mem) :=
ob (wa_hundredfold (mL μ 32 0 4) ((4 : Int64) * (mL μ 32 0 1)) μ) fun r4 μ1 =>
some (r4, μ1)
-- SluiceLogs.lacking()I
def s_lacking  (μ : Mem) : Option (Int32 × Mem) :=
ob (wo_lackingFields 0 μ) fun r4 μ1 =>
some (r4, μ1)
-- SluiceLogs.dry()I
def s_dry_B19   (self : Int32 → Int32 → Mem → Option (Int32 × Mem)) (x1 : Int32) (x2 : Int32) (μ : Mem) : Option (Int32 × Mem) :=
if (mR μ 10 0 3) < 2 then
if (mI μ 18 (mR μ 10 0 3) 1) ≤ x2 then
some (x1, μ) else
if inB x2 6 = true then
if (lg_cmp (mL μ 34 0 (cl x2)) (0 : Int64)) = (nI 0) then
self (x1 ||| ((nI 1) <<< (x2 &&& 31))) (x2 + (nI 1)) μ else
self x1 (x2 + (nI 1)) μ else none else none
def s_dry_L19   : Int32 → Int32 → Mem → Option (Int32 × Mem) := fixN (fun _ _ _ => none) (s_dry_B19 ) 60000
def s_dry  (μ : Mem) : Option (Int32 × Mem) :=
if (mI μ 32 0 0) = (nI 0) then
s_dry_L19  (nI 0) (nI 0) μ else
some ((nI 0), μ)
-- SluiceLogs.wouldStep(I)Z
def s_wouldStep (x1 : Int32) (μ : Mem) : Option (Int32 × Mem) :=
ob (wo_canStep 0 x1 μ) fun r4 μ1 =>
if r4 = (nI 0) then
some ((nI 0), μ1) else
ob (st_become 3 2 μ1) fun _ μ9 =>
ob (wo_doStep 1 x1 μ9) fun _ μ14 =>
ob (wo_settle 1 μ14) fun _ μ19 =>
some ((nI 1), μ19)
-- SluiceLogs.feelsWhatWould(I)I
def s_feelsWhatWould (x1 : Int32) (μ : Mem) : Option (Int32 × Mem) :=
if (mI μ 32 0 0) = (nI 0) then
if (mI μ 32 1 0) = (nI 0) then
if inB x1 6 = true then
if (lg_cmp ((mL μ 34 1 (cl x1)) * (mL μ 32 0 1)) ((mL μ 34 0 (cl x1)) * (mL μ 32 1 1))) ≤ (nI 0) then
if (nI 0) ≤ (lg_cmp ((mL μ 34 1 (cl x1)) * (mL μ 32 0 1)) ((mL μ 34 0 (cl x1)) * (mL μ 32 1 1))) then
some ((nI 0), μ) else
some ((nI 2), μ) else
some ((nI 1), μ) else none else
some ((nI 0), μ) else
some ((nI 0), μ)
-- SluiceLogs.feels(IZI)I
def s_feels (x1 : Int32) (x2 : Int32) (x3 : Int32) (μ : Mem) : Option (Int32 × Mem) :=
ob (s_isNotch x1 μ) fun r4 μ1 =>
if r4 = (nI 0) then
some ((-1 : Int32), μ1) else
ob (s_isField x3 μ1) fun r12 μ9 =>
if r12 = (nI 0) then
some ((-1 : Int32), μ9) else
ob (s_stepNumber x1 x2 μ9) fun r20 μ17 =>
ob (s_wouldStep r20 μ17) fun r25 μ22 =>
if r25 = (nI 0) then
some ((-1 : Int32), μ22) else
ob (s_feelsWhatWould x3 μ22) fun r33 μ30 =>
some (r33, μ30)
-- SluiceLogs.feelAllSteps()V
def s_feelAllSteps_B16 (x1 : Int32) (x2 : Int32) (k49 : Mem → Option (Unit × Mem)) (self : Int32 → Mem → Option (Unit × Mem)) (x3 : Int32) (μ : Mem) : Option (Unit × Mem) :=
if (nI 6) ≤ x3 then
k49 μ else
if inB x1 24 = true then
if x2 = (nI 0) then
if inB x3 6 = true then
self (x3 + (nI 1)) (stI μ 53 (cl x1) (cl x3) (-1 : Int32)) else none else
ob (s_feelsWhatWould x3 μ) fun r22 μ19 =>
if inB x3 6 = true then
self (x3 + (nI 1)) (stI μ19 53 (cl x1) (cl x3) r22) else none else none
def s_feelAllSteps_L16 (x1 : Int32) (x2 : Int32) (k49 : Mem → Option (Unit × Mem)) : Int32 → Mem → Option (Unit × Mem) := fixN (fun _ _ => none) (s_feelAllSteps_B16 x1 x2 k49) 60000
def s_feelAllSteps_B2   (self : Int32 → Mem → Option (Unit × Mem)) (x1 : Int32) (μ : Mem) : Option (Unit × Mem) :=
if (nI 24) ≤ x1 then
some ((), μ) else
ob (s_wouldStep x1 μ) fun r7 μ4 =>
s_feelAllSteps_L16 x1 r7 (fun  (μ27 : Mem) =>
self (x1 + (nI 1)) μ27) (nI 0) μ4
def s_feelAllSteps_L2   : Int32 → Mem → Option (Unit × Mem) := fixN (fun _ _ => none) (s_feelAllSteps_B2 ) 60000
def s_feelAllSteps  (μ : Mem) : Option (Unit × Mem) :=
s_feelAllSteps_L2  (nI 0) μ
-- SluiceLogs.isUnfelt(I)Z
def s_isUnfelt_B2 (x1 : Int32)  (self : Int32 → Mem → Option (Int32 × Mem)) (x2 : Int32) (μ : Mem) : Option (Int32 × Mem) :=
if (mR μ 10 0 3) < 2 then
if (mI μ 18 (mR μ 10 0 3) 1) ≤ x2 then
some ((nI 1), μ) else
if inB x1 24 = true then
if inB x2 6 = true then
if (mI μ 53 (cl x1) (cl x2)) = (nI 0) then
self (x2 + (nI 1)) μ else
some ((nI 0), μ) else none else none else none
def s_isUnfelt_L2 (x1 : Int32)  : Int32 → Mem → Option (Int32 × Mem) := fixN (fun _ _ => none) (s_isUnfelt_B2 x1) 60000
def s_isUnfelt (x1 : Int32) (μ : Mem) : Option (Int32 × Mem) :=
s_isUnfelt_L2 x1  (nI 0) μ
-- SluiceLogs.unfelt()I
def s_unfelt_B8   (self : Int32 → Int32 → Mem → Option (Int32 × Mem)) (x1 : Int32) (x2 : Int32) (μ : Mem) : Option (Int32 × Mem) :=
if (nI 24) ≤ x2 then
some (x1, μ) else
ob (wo_canStep 0 x2 μ) fun r12 μ9 =>
if r12 = (nI 0) then
self x1 (x2 + (nI 1)) μ9 else
ob (s_isUnfelt x2 μ9) fun r20 μ17 =>
if r20 = (nI 0) then
self x1 (x2 + (nI 1)) μ17 else
self (x1 ||| ((nI 1) <<< (x2 &&& 31))) (x2 + (nI 1)) μ17
def s_unfelt_L8   : Int32 → Int32 → Mem → Option (Int32 × Mem) := fixN (fun _ _ _ => none) (s_unfelt_B8 ) 60000
def s_unfelt  (μ : Mem) : Option (Int32 × Mem) :=
ob (s_feelAllSteps μ) fun _ μ1 =>
s_unfelt_L8  (nI 0) (nI 0) μ1
-- SluiceLogs.best(II)I
def s_best_B55 (x1 : Int32) (x2 : Int32) (k154 : Int32 → Int32 → Mem → Option (Int32 × Mem)) (self : Int32 → Int32 → Int64 → Int64 → Int32 → Mem → Option (Int32 × Mem)) (x3 : Int32) (x4 : Int32) (x5 : Int64) (x7 : Int64) (x9 : Int32) (μ : Mem) : Option (Int32 × Mem) :=
if (nI 24) ≤ x9 then
k154 x3 x4 μ else
ob (s_wouldStep x9 μ) fun r25 μ22 =>
if r25 = (nI 0) then
self x3 x4 x5 x7 (x9 + (nI 1)) μ22 else
ob (s_feelsWhatWould x1 μ22) fun r33 μ30 =>
if r33 = (nI 1) then
if inB x1 6 = true then
if (lg_cmp ((mL μ30 34 1 (cl x1)) * x7) (x5 * (mL μ30 32 1 1))) ≤ (nI 0) then
self x3 x4 x5 x7 (x9 + (nI 1)) μ30 else
self x9 (mI μ30 35 1 (cl x1)) (mL μ30 34 1 (cl x1)) (mL μ30 32 1 1) (x9 + (nI 1)) μ30 else none else
self x3 x4 x5 x7 (x9 + (nI 1)) μ30
def s_best_L55 (x1 : Int32) (x2 : Int32) (k154 : Int32 → Int32 → Mem → Option (Int32 × Mem)) : Int32 → Int32 → Int64 → Int64 → Int32 → Mem → Option (Int32 × Mem) := fixN (fun _ _ _ _ _ _ => none) (s_best_B55 x1 x2 k154) 60000
def s_best (x1 : Int32) (x2 : Int32) (μ : Mem) : Option (Int32 × Mem) :=
ob (s_isField x1 μ) fun r4 μ1 =>
if r4 = (nI 0) then
some ((-1 : Int32), μ1) else
ob (s_isFrom (nI 0) x2 (nI 1) μ1) fun r12 μ9 =>
if r12 = (nI 0) then
some ((-1 : Int32), μ9) else
if inB x1 6 = true then
s_best_L55 x1 x2 (fun (x45 : Int32) (x46 : Int32) (μ47 : Mem) =>
if x2 = (nI 0) then
some (x45, μ47) else
some (x46, μ47)) (-2 : Int32) (-2 : Int32) (mL μ9 34 0 (cl x1)) (mL μ9 32 0 1) (nI 0) μ9 else none
-- SluiceLogs.wouldHaveMoreAt(II)Z
def s_wouldHaveMoreAt_B2 (x1 : Int32) (x2 : Int32)  (self : Int32 → Mem → Option (Int32 × Mem)) (x3 : Int32) (μ : Mem) : Option (Int32 × Mem) :=
if (mR μ 10 0 3) < 2 then
if ((nI 2) * (mI μ 18 (mR μ 10 0 3) 2)) ≤ x3 then
some ((nI 0), μ) else
if inB (x3 / (nI 2)) 12 = true then
if (mI μ 22 (mR μ 10 0 3) (cl (x3 / (nI 2)))) = x1 then
if inB x3 24 = true then
if inB x2 6 = true then
if (mI μ 53 (cl x3) (cl x2)) = (nI 1) then
some ((nI 1), μ) else
self (x3 + (nI 1)) μ else none else none else
self (x3 + (nI 1)) μ else none else none
def s_wouldHaveMoreAt_L2 (x1 : Int32) (x2 : Int32)  : Int32 → Mem → Option (Int32 × Mem) := fixN (fun _ _ => none) (s_wouldHaveMoreAt_B2 x1 x2) 60000
def s_wouldHaveMoreAt (x1 : Int32) (x2 : Int32) (μ : Mem) : Option (Int32 × Mem) :=
s_wouldHaveMoreAt_L2 x1 x2  (nI 0) μ
-- SluiceLogs.tempted()I
def s_tempted_B8   (self : Int32 → Int32 → Mem → Option (Int32 × Mem)) (x1 : Int32) (x2 : Int32) (μ : Mem) : Option (Int32 × Mem) :=
if (mR μ 10 0 3) < 2 then
if (mI μ 18 (mR μ 10 0 3) 2) ≤ x2 then
some (x1, μ) else
if inB x2 12 = true then
vb (((mI μ 23 (mR μ 10 0 3) (cl x2)) - (nI 10))) fun v13 : Int32 =>
ob (s_isField v13 μ) fun r17 μ14 =>
if r17 = (nI 0) then
self x1 (x2 + (nI 1)) μ14 else
if (mI μ14 27 2 (cl x2)) ≤ (nI 0) then
self x1 (x2 + (nI 1)) μ14 else
if (mR μ14 10 0 3) < 2 then
ob (s_wouldHaveMoreAt (mI μ14 22 (mR μ14 10 0 3) (cl x2)) v13 μ14) fun r30 μ27 =>
if r30 = (nI 0) then
self x1 (x2 + (nI 1)) μ27 else
self (x1 ||| ((nI 1) <<< (v13 &&& 31))) (x2 + (nI 1)) μ27 else none else none else none
def s_tempted_L8   : Int32 → Int32 → Mem → Option (Int32 × Mem) := fixN (fun _ _ _ => none) (s_tempted_B8 ) 60000
def s_tempted  (μ : Mem) : Option (Int32 × Mem) :=
ob (s_feelAllSteps μ) fun _ μ1 =>
s_tempted_L8  (nI 0) (nI 0) μ1
-- SluiceLogs.splitMend(III)Z
def s_splitMend_B8 (x2 : Int32) (x3 : Int32)  (self : Int32 → Int32 → Mem → Option (Int32 × Mem)) (x4 : Int32) (x5 : Int32) (μ : Mem) : Option (Int32 × Mem) :=
if x5 < (nI 0) then
some ((nI 1), μ) else
if x3 ≤ (nI 0) then
some ((nI 1), μ) else
if ¬ x3 = 0 then
if inB x5 3 = true then
if x2 ≤ (x5 + (nI 1)) then
self (x4 / x3) (x5 + (-1 : Int32)) (stI μ 54 0 (cl x5) (irm x4 x3)) else
if inB (x5 + (nI 1)) 3 = true then
if (mI (stI μ 54 0 (cl x5) (irm x4 x3)) 54 0 (cl x5)) ≤ (mI (stI μ 54 0 (cl x5) (irm x4 x3)) 54 0 (cl (x5 + (nI 1)))) then
self (x4 / x3) (x5 + (-1 : Int32)) (stI μ 54 0 (cl x5) (irm x4 x3)) else
some ((nI 0), (stI μ 54 0 (cl x5) (irm x4 x3))) else none else none else none
def s_splitMend_L8 (x2 : Int32) (x3 : Int32)  : Int32 → Int32 → Mem → Option (Int32 × Mem) := fixN (fun _ _ _ => none) (s_splitMend_B8 x2 x3) 60000
def s_splitMend (x1 : Int32) (x2 : Int32) (x3 : Int32) (μ : Mem) : Option (Int32 × Mem) :=
s_splitMend_L8 x2 x3  x1 (x2 - (nI 1)) μ
-- SluiceLogs.wouldMend(I)Z
def s_wouldMend_B19 (x1 : Int32) (k61 : Mem → Option (Int32 × Mem)) (self : Int32 → Mem → Option (Int32 × Mem)) (x2 : Int32) (μ : Mem) : Option (Int32 × Mem) :=
if x1 ≤ x2 then
k61 μ else
if inB x2 3 = true then
ob (wo_canStep 1 (mI μ 54 0 (cl x2)) μ) fun r14 μ11 =>
if r14 = (nI 0) then
some ((nI 0), μ11) else
ob (wo_doStep 1 (mI μ11 54 0 (cl x2)) μ11) fun _ μ19 =>
self (x2 + (nI 1)) μ19 else none
def s_wouldMend_L19 (x1 : Int32) (k61 : Mem → Option (Int32 × Mem)) : Int32 → Mem → Option (Int32 × Mem) := fixN (fun _ _ => none) (s_wouldMend_B19 x1 k61) 60000
def s_wouldMend (x1 : Int32) (μ : Mem) : Option (Int32 × Mem) :=
ob (st_become 3 2 μ) fun _ μ1 =>
s_wouldMend_L19 x1 (fun  (μ26 : Mem) =>
ob (wo_settle 1 μ26) fun _ μ30 =>
if (mI μ30 32 1 0) = (nI 0) then
ob (wo_lacksSomewhere 1 μ30) fun r41 μ38 =>
if r41 = (nI 0) then
some ((nI 1), μ38) else
some ((nI 0), μ38) else
some ((nI 0), μ30)) (nI 0) μ1
-- SluiceLogs.findMend(I)Z
def s_findMend_B15 (x1 : Int32) (x2 : Int32) (k31 : Int32 → Mem → Option (Int32 × Mem)) (self : Int32 → Int32 → Mem → Option (Int32 × Mem)) (x3 : Int32) (x4 : Int32) (μ : Mem) : Option (Int32 × Mem) :=
if x1 ≤ x4 then
k31 x3 μ else
self (x3 * x2) (x4 + (nI 1)) μ
def s_findMend_L15 (x1 : Int32) (x2 : Int32) (k31 : Int32 → Mem → Option (Int32 × Mem)) : Int32 → Int32 → Mem → Option (Int32 × Mem) := fixN (fun _ _ _ => none) (s_findMend_B15 x1 x2 k31) 60000
def s_findMend_B34 (x1 : Int32) (x2 : Int32) (x3 : Int32)  (self : Int32 → Mem → Option (Int32 × Mem)) (x4 : Int32) (μ : Mem) : Option (Int32 × Mem) :=
if x3 ≤ x4 then
some ((nI 0), μ) else
ob (s_splitMend x4 x1 x2 μ) fun r17 μ14 =>
if r17 = (nI 0) then
self (x4 + (nI 1)) μ14 else
ob (s_wouldMend x1 μ14) fun r25 μ22 =>
if r25 = (nI 0) then
self (x4 + (nI 1)) μ22 else
some ((nI 1), μ22)
def s_findMend_L34 (x1 : Int32) (x2 : Int32) (x3 : Int32)  : Int32 → Mem → Option (Int32 × Mem) := fixN (fun _ _ => none) (s_findMend_B34 x1 x2 x3) 60000
def s_findMend (x1 : Int32) (μ : Mem) : Option (Int32 × Mem) :=
if (mR μ 10 0 3) < 2 then
s_findMend_L15 x1 ((nI 2) * (mI μ 18 (mR μ 10 0 3) 2)) (fun (x6 : Int32) (μ7 : Mem) =>
s_findMend_L34 x1 ((nI 2) * (mI μ 18 (mR μ 10 0 3) 2)) x6  (nI 0) μ7) (nI 1) (nI 0) μ else none
-- SluiceLogs.mend(I)I
def s_mend_B9 (x1 : Int32) (k28 : Int32 → Mem → Option (Int32 × Mem)) (self : Int32 → Mem → Option (Int32 × Mem)) (x2 : Int32) (μ : Mem) : Option (Int32 × Mem) :=
if (nI 3) < x2 then
k28 x2 μ else
ob (s_findMend x2 μ) fun r10 μ7 =>
if r10 = (nI 0) then
self (x2 + (nI 1)) μ7 else
k28 x2 μ7
def s_mend_L9 (x1 : Int32) (k28 : Int32 → Mem → Option (Int32 × Mem)) : Int32 → Mem → Option (Int32 × Mem) := fixN (fun _ _ => none) (s_mend_B9 x1 k28) 60000
def s_mend (x1 : Int32) (μ : Mem) : Option (Int32 × Mem) :=
if (-1 : Int32) ≤ x1 then
s_mend_L9 x1 (fun (x16 : Int32) (μ17 : Mem) =>
if x16 ≤ (nI 3) then
if x1 = (-1 : Int32) then
some (x16, μ17) else
if x16 ≤ x1 then
some ((-1 : Int32), μ17) else
if inB x1 3 = true then
some ((mI μ17 54 0 (cl x1)), μ17) else none else
some ((-2 : Int32), μ17)) (nI 0) μ else
some ((-1 : Int32), μ)
-- SluiceLogs.feeds(I)I
def s_feeds_B39 (x4 : Int32) (k161 : Int32 → Int32 → Mem → Option (Int32 × Mem)) (self : Int32 → Int32 → Int32 → Mem → Option (Int32 × Mem)) (x2 : Int32) (x3 : Int32) (x5 : Int32) (μ : Mem) : Option (Int32 × Mem) :=
if (mR μ 10 0 3) < 2 then
if (mI μ 18 (mR μ 10 0 3) 2) ≤ x5 then
k161 x2 x3 μ else
if inB x5 12 = true then
if (mI μ 27 2 (cl x5)) = (nI 0) then
self x2 x3 (x5 + (nI 1)) μ else
if ((x2 >>> ((mI μ 22 (mR μ 10 0 3) (cl x5)) &&& 31)) &&& (nI 1)) = (nI 0) then
self x2 x3 (x5 + (nI 1)) μ else
ob (s_isLog (mI μ 23 (mR μ 10 0 3) (cl x5)) μ) fun r35 μ32 =>
if r35 = (nI 0) then
ob (s_isField ((mI μ 23 (mR μ 10 0 3) (cl x5)) - (nI 10)) μ32) fun r43 μ40 =>
if r43 = (nI 0) then
self x2 x3 (x5 + (nI 1)) μ40 else
vb ((x3 ||| ((nI 1) <<< (((mI μ 23 (mR μ 10 0 3) (cl x5)) - (nI 10)) &&& 31)))) fun v48 : Int32 =>
ob (wo_drainTarget 0 ((mI μ 23 (mR μ 10 0 3) (cl x5)) - (nI 10)) μ40) fun r52 μ49 =>
self (x2 ||| r52) v48 (x5 + (nI 1)) μ49 else
vb ((x2 ||| ((nI 1) <<< ((mI μ 23 (mR μ 10 0 3) (cl x5)) &&& 31)))) fun v56 : Int32 =>
self v56 x3 (x5 + (nI 1)) μ32 else none else none
def s_feeds_L39 (x4 : Int32) (k161 : Int32 → Int32 → Mem → Option (Int32 × Mem)) : Int32 → Int32 → Int32 → Mem → Option (Int32 × Mem) := fixN (fun _ _ _ _ => none) (s_feeds_B39 x4 k161) 60000
def s_feeds_B24   (self : Int32 → Int32 → Int32 → Mem → Option (Int32 × Mem)) (x2 : Int32) (x3 : Int32) (x4 : Int32) (μ : Mem) : Option (Int32 × Mem) :=
if (mR μ 10 0 3) < 2 then
if (mI μ 18 (mR μ 10 0 3) 0) ≤ x4 then
some (x3, μ) else
s_feeds_L39 x4 (fun (x58 : Int32) (x59 : Int32) (μ60 : Mem) =>
self x58 x59 (x4 + (nI 1)) μ60) x2 x3 (nI 0) μ else none
def s_feeds_L24   : Int32 → Int32 → Int32 → Mem → Option (Int32 × Mem) := fixN (fun _ _ _ _ => none) (s_feeds_B24 ) 60000
def s_feeds (x1 : Int32) (μ : Mem) : Option (Int32 × Mem) :=
ob (s_isField x1 μ) fun r4 μ1 =>
if r4 = (nI 0) then
some ((-1 : Int32), μ1) else
ob (wo_drainTarget 0 x1 μ1) fun r12 μ9 =>
s_feeds_L24  r12 (nI 0) (nI 0) μ9
-- SluiceLogs.hangs(I)I
def s_hangs_B46 (x1 : Int32)  (self : Int32 → Int32 → Mem → Option (Int32 × Mem)) (x2 : Int32) (x3 : Int32) (μ : Mem) : Option (Int32 × Mem) :=
if (mR μ 10 0 3) < 2 then
if (mI μ 18 (mR μ 10 0 3) 2) ≤ x3 then
some (x2, μ) else
ob (st_become 3 2 μ) fun _ μ22 =>
if inB x3 12 = true then
ob (wo_settle 1 (stI μ22 27 3 (cl x3) (nI 0))) fun _ μ29 =>
if (mI μ29 32 1 0) = (nI 0) then
if inB x1 6 = true then
if (lg_cmp (mL μ29 34 1 (cl x1)) (0 : Int64)) = (nI 0) then
self (x2 ||| ((nI 1) <<< (x3 &&& 31))) (x3 + (nI 1)) μ29 else
self x2 (x3 + (nI 1)) μ29 else none else
self x2 (x3 + (nI 1)) μ29 else none else none
def s_hangs_L46 (x1 : Int32)  : Int32 → Int32 → Mem → Option (Int32 × Mem) := fixN (fun _ _ _ => none) (s_hangs_B46 x1) 60000
def s_hangs (x1 : Int32) (μ : Mem) : Option (Int32 × Mem) :=
ob (s_isField x1 μ) fun r4 μ1 =>
if r4 = (nI 0) then
some ((-1 : Int32), μ1) else
if (mI μ1 32 0 0) = (nI 0) then
if inB x1 6 = true then
if (lg_cmp (mL μ1 34 0 (cl x1)) (0 : Int64)) = (nI 0) then
some ((nI 0), μ1) else
s_hangs_L46 x1  (nI 0) (nI 0) μ1 else none else
some ((nI 0), μ1)
-- SluiceLogs.spread()I
def s_spread_B29   (self : Int32 → Int32 → Int32 → Mem → Option (Int32 × Mem)) (x1 : Int32) (x2 : Int32) (x3 : Int32) (μ : Mem) : Option (Int32 × Mem) :=
if (mR μ 10 0 3) < 2 then
if (mI μ 18 (mR μ 10 0 3) 1) ≤ x3 then
some ((x2 - x1), μ) else
if inB x3 6 = true then
ob (j_min x1 (mI μ 35 0 (cl x3)) μ) fun r16 μ13 =>
ob (j_max x2 (mI μ13 35 0 (cl x3)) μ13) fun r21 μ18 =>
self r16 r21 (x3 + (nI 1)) μ18 else none else none
def s_spread_L29   : Int32 → Int32 → Int32 → Mem → Option (Int32 × Mem) := fixN (fun _ _ _ _ => none) (s_spread_B29 ) 60000
def s_spread  (μ : Mem) : Option (Int32 × Mem) :=
if (mR μ 10 0 3) < 2 then
if (mI μ 18 (mR μ 10 0 3) 1) = (nI 0) then
some ((nI 0), μ) else
s_spread_L29  (mI μ 35 0 0) (mI μ 35 0 0) (nI 1) μ else none
-- SluiceLogs.richest()I
def s_richest_B30   (self : Int32 → Int32 → Mem → Option (Int32 × Mem)) (x1 : Int32) (x2 : Int32) (μ : Mem) : Option (Int32 × Mem) :=
if (mR μ 10 0 3) < 2 then
if (mI μ 18 (mR μ 10 0 3) 1) ≤ x2 then
some (x1, μ) else
if inB x2 6 = true then
if inB x1 6 = true then
if (lg_cmp (mL μ 34 0 (cl x2)) (mL μ 34 0 (cl x1))) ≤ (nI 0) then
self x1 (x2 + (nI 1)) μ else
self x2 (x2 + (nI 1)) μ else none else none else none
def s_richest_L30   : Int32 → Int32 → Mem → Option (Int32 × Mem) := fixN (fun _ _ _ => none) (s_richest_B30 ) 60000
def s_richest  (μ : Mem) : Option (Int32 × Mem) :=
if (mR μ 10 0 3) < 2 then
if (mI μ 18 (mR μ 10 0 3) 1) = (nI 0) then
some ((-2 : Int32), μ) else
if (mI μ 32 0 0) = (nI 0) then
s_richest_L30  (nI 0) (nI 1) μ else
some ((-2 : Int32), μ) else none
-- SluiceLogs.wouldPassDays(IIZ)V
def s_wouldPassDays (x1 : Int32) (x2 : Int32) (x3 : Int32) (μ : Mem) : Option (Unit × Mem) :=
ob (st_become 3 2 μ) fun _ μ1 =>
ob (wo_settle 1 μ1) fun _ μ6 =>
ob (wo_passDays 1 x1 x2 x3 μ6) fun _ μ11 =>
some ((), μ11)
-- SluiceLogs.crop(I)I
def s_crop (x1 : Int32) (μ : Mem) : Option (Int32 × Mem) :=
ob (s_isFrom (nI 0) x1 (nI 60) μ) fun r4 μ1 =>
if r4 = (nI 0) then
some ((-1 : Int32), μ1) else
if (mR μ1 10 0 3) < 2 then
ob (s_wouldPassDays x1 (mI μ1 18 (mR μ1 10 0 3) 3) (nI 0) μ1) fun _ μ11 =>
ob (wo_grownOfAll 1 μ11) fun r19 μ16 =>
ob (wo_grownOfAll 0 μ16) fun r24 μ21 =>
some ((r19 - r24), μ21) else none
-- SluiceLogs.again(II)I
def s_again (x1 : Int32) (x2 : Int32) (μ : Mem) : Option (Int32 × Mem) :=
ob (s_isField x1 μ) fun r4 μ1 =>
if r4 = (nI 0) then
some ((-1 : Int32), μ1) else
ob (s_isFrom (nI 0) x2 (nI 3) μ1) fun r12 μ9 =>
if r12 = (nI 0) then
some ((-1 : Int32), μ9) else
if (mR μ9 10 0 3) < 2 then
if (mI μ9 18 (mR μ9 10 0 3) 0) = (nI 0) then
some ((-1 : Int32), μ9) else
ob (st_become 3 2 μ9) fun _ μ22 =>
if inB x1 6 = true then
if (mI (stI μ22 29 3 (cl x1) x2) 28 3 (cl x1)) = (-2 : Int32) then
mb (stI (stI μ22 29 3 (cl x1) x2) 28 3 (cl x1) (nI 0)) fun μ38 =>
ob (wo_settle 1 μ38) fun _ μ40 =>
some ((mI μ40 35 1 (cl x1)), μ40) else
ob (wo_settle 1 (stI μ22 29 3 (cl x1) x2)) fun _ μ32 =>
some ((mI μ32 35 1 (cl x1)), μ32) else none else none
-- SluiceLogs.wouldSwap(II)V
def s_wouldSwap (x1 : Int32) (x2 : Int32) (μ : Mem) : Option (Unit × Mem) :=
ob (st_become 3 2 μ) fun _ μ1 =>
if inB x2 12 = true then
if inB x1 12 = true then
mb (stI μ1 27 3 (cl x1) (mI μ1 27 2 (cl x2))) fun μ10 =>
mb (stI μ10 27 3 (cl x2) (mI μ10 27 2 (cl x1))) fun μ12 =>
ob (wo_settle 1 μ12) fun _ μ14 =>
some ((), μ14) else none else none
-- SluiceLogs.swap()I
def s_swap_B32 (x3 : Int32) (k86 : Int32 → Int32 → Mem → Option (Int32 × Mem)) (self : Int32 → Int32 → Int32 → Mem → Option (Int32 × Mem)) (x1 : Int32) (x2 : Int32) (x4 : Int32) (μ : Mem) : Option (Int32 × Mem) :=
if (mR μ 10 0 3) < 2 then
if (mI μ 18 (mR μ 10 0 3) 2) ≤ x4 then
k86 x1 x2 μ else
ob (s_wouldSwap x3 x4 μ) fun _ μ21 =>
ob (wo_lackingFields 1 μ21) fun r29 μ26 =>
ob (j_bitCount r29 μ26) fun r34 μ31 =>
if x2 ≤ r34 then
self x1 x2 (x4 + (nI 1)) μ31 else
self (((nI 100) * x3) + x4) r34 (x4 + (nI 1)) μ31 else none
def s_swap_L32 (x3 : Int32) (k86 : Int32 → Int32 → Mem → Option (Int32 × Mem)) : Int32 → Int32 → Int32 → Mem → Option (Int32 × Mem) := fixN (fun _ _ _ _ => none) (s_swap_B32 x3 k86) 60000
def s_swap_B16   (self : Int32 → Int32 → Int32 → Mem → Option (Int32 × Mem)) (x1 : Int32) (x2 : Int32) (x3 : Int32) (μ : Mem) : Option (Int32 × Mem) :=
if (mR μ 10 0 3) < 2 then
if (mI μ 18 (mR μ 10 0 3) 2) ≤ x3 then
some (x1, μ) else
s_swap_L32 x3 (fun (x42 : Int32) (x43 : Int32) (μ44 : Mem) =>
self x42 x43 (x3 + (nI 1)) μ44) x1 x2 (x3 + (nI 1)) μ else none
def s_swap_L16   : Int32 → Int32 → Int32 → Mem → Option (Int32 × Mem) := fixN (fun _ _ _ _ => none) (s_swap_B16 ) 60000
def s_swap  (μ : Mem) : Option (Int32 × Mem) :=
ob (wo_lackingFields 0 μ) fun r4 μ1 =>
ob (j_bitCount r4 μ1) fun r9 μ6 =>
s_swap_L16  (-2 : Int32) r9 (nI 0) μ6
-- SluiceLogs.grownIn(II)I
def s_grownIn (x1 : Int32) (x2 : Int32) (μ : Mem) : Option (Int32 × Mem) :=
ob (s_isField x1 μ) fun r4 μ1 =>
if r4 = (nI 0) then
some ((-1 : Int32), μ1) else
ob (s_isFrom (nI 0) x2 (nI 60) μ1) fun r12 μ9 =>
if r12 = (nI 0) then
some ((-1 : Int32), μ9) else
if (mR μ9 10 0 3) < 2 then
ob (s_wouldPassDays x2 (mI μ9 18 (mR μ9 10 0 3) 3) (nI 1) μ9) fun _ μ19 =>
if inB x1 6 = true then
some ((mI μ19 30 3 (cl x1)), μ19) else none else none
-- SluiceLogs.wideIn(II)I
def s_wideIn (x1 : Int32) (x2 : Int32) (μ : Mem) : Option (Int32 × Mem) :=
ob (s_isNotch x1 μ) fun r4 μ1 =>
if r4 = (nI 0) then
some ((-1 : Int32), μ1) else
ob (s_isFrom (nI 0) x2 (nI 60) μ1) fun r12 μ9 =>
if r12 = (nI 0) then
some ((-1 : Int32), μ9) else
if (mR μ9 10 0 3) < 2 then
ob (s_wouldPassDays x2 (mI μ9 18 (mR μ9 10 0 3) 3) (nI 1) μ9) fun _ μ19 =>
if inB x1 12 = true then
some ((mI μ19 27 3 (cl x1)), μ19) else none else none
-- SluiceLogs.year(III)I
def s_year_B36 (x1 : Int32) (x2 : Int32) (x3 : Int32)  (self : Int32 → Int32 → Mem → Option (Int32 × Mem)) (x4 : Int32) (x5 : Int32) (μ : Mem) : Option (Int32 × Mem) :=
if x3 ≤ x5 then
some (x4, μ) else
if (mR μ 10 0 3) < 2 then
ob (s_wouldPassDays x2 ((mI μ 18 (mR μ 10 0 3) 3) + x5) (nI 1) μ) fun _ μ30 =>
ob (wo_lacks 1 x1 μ30) fun r38 μ35 =>
if r38 = (nI 0) then
self x4 (x5 + (nI 1)) μ35 else
self (x4 + (nI 1)) (x5 + (nI 1)) μ35 else none
def s_year_L36 (x1 : Int32) (x2 : Int32) (x3 : Int32)  : Int32 → Int32 → Mem → Option (Int32 × Mem) := fixN (fun _ _ _ => none) (s_year_B36 x1 x2 x3) 60000
def s_year (x1 : Int32) (x2 : Int32) (x3 : Int32) (μ : Mem) : Option (Int32 × Mem) :=
ob (s_isField x1 μ) fun r4 μ1 =>
if r4 = (nI 0) then
some ((-1 : Int32), μ1) else
ob (s_isFrom (nI 0) x2 (nI 60) μ1) fun r12 μ9 =>
if r12 = (nI 0) then
some ((-1 : Int32), μ9) else
ob (s_isFrom (nI 1) x3 (nI 20) μ9) fun r20 μ17 =>
if r20 = (nI 0) then
some ((-1 : Int32), μ17) else
s_year_L36 x1 x2 x3  (nI 0) (nI 0) μ17
-- SluiceLogs.tell(IIZ)I
def s_tell (x1 : Int32) (x2 : Int32) (x3 : Int32) (μ : Mem) : Option (Int32 × Mem) :=
if (nI 20) ≤ (mI μ 48 0 3) then
some ((-1 : Int32), μ) else
ob (s_isField x1 μ) fun r7 μ4 =>
if r7 = (nI 0) then
some ((-1 : Int32), μ4) else
ob (s_isFrom (nI 0) x2 (nI 2) μ4) fun r15 μ12 =>
if r15 = (nI 0) then
some ((-1 : Int32), μ12) else
if inB (mI μ12 48 0 3) 20 = true then
mb (stI (stI μ12 49 0 (cl (mI μ12 48 0 3)) x1) 50 0 (cl (mI μ12 48 0 3)) x2) fun μ22 =>
mb (stI μ22 51 0 (cl (mI μ12 48 0 3)) (x3 &&& 1)) fun μ24 =>
mb (stI μ24 48 0 3 ((mI μ24 48 0 3) + (nI 1))) fun μ26 =>
some ((mI μ12 48 0 3), μ26) else none
-- SluiceLogs.forget()I
def s_forget  (μ : Mem) : Option (Int32 × Mem) :=
some ((mI μ 48 0 3), (stI μ 48 0 3 (nI 0)))
-- SluiceLogs.stepsThatFit(I)I
def s_stepsThatFit_B4 (x1 : Int32)  (self : Int32 → Int32 → Mem → Option (Int32 × Mem)) (x2 : Int32) (x3 : Int32) (μ : Mem) : Option (Int32 × Mem) :=
if (nI 24) ≤ x3 then
some (x2, μ) else
ob (wo_canStep 0 x3 μ) fun r7 μ4 =>
if r7 = (nI 0) then
self x2 (x3 + (nI 1)) μ4 else
if inB x3 24 = true then
ob (tk_fitsKnown_r53 (cl x3) x1 μ4) fun r17 μ14 =>
if r17 = (nI 0) then
self x2 (x3 + (nI 1)) μ14 else
self (x2 ||| ((nI 1) <<< (x3 &&& 31))) (x3 + (nI 1)) μ14 else none
def s_stepsThatFit_L4 (x1 : Int32)  : Int32 → Int32 → Mem → Option (Int32 × Mem) := fixN (fun _ _ _ => none) (s_stepsThatFit_B4 x1) 60000
def s_stepsThatFit (x1 : Int32) (μ : Mem) : Option (Int32 × Mem) :=
s_stepsThatFit_L4 x1  (nI 0) (nI 0) μ
-- SluiceLogs.fits(II)I
def s_fits (x1 : Int32) (x2 : Int32) (μ : Mem) : Option (Int32 × Mem) :=
ob (s_isFrom (nI 0) x1 (mI μ 48 0 3) μ) fun r4 μ1 =>
if r4 = (nI 0) then
some ((-1 : Int32), μ1) else
ob (s_isFrom (nI 0) x2 (nI 1) μ1) fun r12 μ9 =>
if r12 = (nI 0) then
some ((-1 : Int32), μ9) else
ob (s_feelAllSteps μ9) fun _ μ17 =>
ob (s_stepsThatFit x1 μ17) fun r25 μ22 =>
if x2 = (nI 0) then
ob (j_bitCount r25 μ22) fun r33 μ30 =>
some (r33, μ30) else
some (r25, μ22)
-- SluiceLogs.leftAtWorst(II)I
def s_leftAtWorst_B17 (x1 : Int32) (x2 : Int32) (x3 : Int32) (x4 : Int32) (k57 : Int32 → Mem → Option (Int32 × Mem)) (self : Int32 → Int32 → Mem → Option (Int32 × Mem)) (x5 : Int32) (x6 : Int32) (μ : Mem) : Option (Int32 × Mem) :=
if (nI 24) ≤ x6 then
k57 x5 μ else
if ((x1 >>> (x6 &&& 31)) &&& (nI 1)) = (nI 1) then
if inB x6 24 = true then
if inB x2 6 = true then
if (mI μ 53 (cl x6) (cl x2)) = x4 then
self (x5 + (nI 1)) (x6 + (nI 1)) μ else
self x5 (x6 + (nI 1)) μ else none else none else
self x5 (x6 + (nI 1)) μ
def s_leftAtWorst_L17 (x1 : Int32) (x2 : Int32) (x3 : Int32) (x4 : Int32) (k57 : Int32 → Mem → Option (Int32 × Mem)) : Int32 → Int32 → Mem → Option (Int32 × Mem) := fixN (fun _ _ _ => none) (s_leftAtWorst_B17 x1 x2 x3 x4 k57) 60000
def s_leftAtWorst_B5 (x1 : Int32) (x2 : Int32)  (self : Int32 → Int32 → Mem → Option (Int32 × Mem)) (x3 : Int32) (x4 : Int32) (μ : Mem) : Option (Int32 × Mem) :=
if (nI 2) < x4 then
some (x3, μ) else
s_leftAtWorst_L17 x1 x2 x3 x4 (fun (x17 : Int32) (μ18 : Mem) =>
ob (j_max x3 x17 μ18) fun r25 μ22 =>
self r25 (x4 + (nI 1)) μ22) (nI 0) (nI 0) μ
def s_leftAtWorst_L5 (x1 : Int32) (x2 : Int32)  : Int32 → Int32 → Mem → Option (Int32 × Mem) := fixN (fun _ _ _ => none) (s_leftAtWorst_B5 x1 x2) 60000
def s_leftAtWorst (x1 : Int32) (x2 : Int32) (μ : Mem) : Option (Int32 × Mem) :=
s_leftAtWorst_L5 x1 x2  (nI 0) (nI 0) μ
-- SluiceLogs.ask(I)I
def s_ask_B44 (x2 : Int32)  (self : Int32 → Int32 → Int32 → Mem → Option (Int32 × Mem)) (x3 : Int32) (x4 : Int32) (x5 : Int32) (μ : Mem) : Option (Int32 × Mem) :=
if (mR μ 10 0 3) < 2 then
if (mI μ 18 (mR μ 10 0 3) 1) ≤ x5 then
some (x3, μ) else
ob (s_leftAtWorst x2 x5 μ) fun r30 μ27 =>
if x4 ≤ r30 then
self x3 x4 (x5 + (nI 1)) μ27 else
self x5 r30 (x5 + (nI 1)) μ27 else none
def s_ask_L44 (x2 : Int32)  : Int32 → Int32 → Int32 → Mem → Option (Int32 × Mem) := fixN (fun _ _ _ _ => none) (s_ask_B44 x2) 60000
def s_ask (x1 : Int32) (μ : Mem) : Option (Int32 × Mem) :=
ob (s_isFrom (nI 0) x1 (mI μ 48 0 3) μ) fun r4 μ1 =>
if r4 = (nI 0) then
some ((-1 : Int32), μ1) else
ob (s_feelAllSteps μ1) fun _ μ9 =>
ob (s_stepsThatFit x1 μ9) fun r17 μ14 =>
if r17 = (nI 0) then
some ((-2 : Int32), μ14) else
s_ask_L44 r17  (-2 : Int32) (nI 25) (nI 0) μ14
-- SluiceLogs.hold(I)Z
def s_hold (x1 : Int32) (μ : Mem) : Option (Int32 × Mem) :=
ob (s_isFrom (nI 0) x1 (nI 2) μ) fun r4 μ1 =>
if r4 = (nI 0) then
some ((nI 0), μ1) else
if inB x1 3 = true then
ob (st_become ((cl x1) + 44) 2 μ1) fun _ μ11 =>
some ((nI 1), (stI μ11 47 0 (cl x1) ((nI 1) &&& 1))) else none
-- SluiceLogs.restore(I)Z
def s_restore (x1 : Int32) (μ : Mem) : Option (Int32 × Mem) :=
ob (s_isFrom (nI 0) x1 (nI 2) μ) fun r4 μ1 =>
if r4 = (nI 0) then
some ((nI 0), μ1) else
if inB x1 3 = true then
if (mI μ1 47 0 (cl x1)) = (nI 0) then
some ((nI 0), μ1) else
ob (st_become 2 ((cl x1) + 44) μ1) fun _ μ14 =>
ob (wo_settle 0 μ14) fun _ μ19 =>
some ((nI 1), (stI μ19 44 0 2 (nI 0))) else none
-- SluiceLogs.flowOfAll()I
def s_flowOfAll_B4   (self : Int32 → Int32 → Mem → Option (Int32 × Mem)) (x1 : Int32) (x2 : Int32) (μ : Mem) : Option (Int32 × Mem) :=
if (mR μ 10 0 3) < 2 then
if (mI μ 18 (mR μ 10 0 3) 1) ≤ x2 then
some (x1, μ) else
if inB x2 6 = true then
self (x1 + (mI μ 35 0 (cl x2))) (x2 + (nI 1)) μ else none else none
def s_flowOfAll_L4   : Int32 → Int32 → Mem → Option (Int32 × Mem) := fixN (fun _ _ _ => none) (s_flowOfAll_B4 ) 60000
def s_flowOfAll  (μ : Mem) : Option (Int32 × Mem) :=
s_flowOfAll_L4  (nI 0) (nI 0) μ
-- SluiceLogs.slotsThatHold()I
def s_slotsThatHold_B4   (self : Int32 → Int32 → Mem → Option (Int32 × Mem)) (x1 : Int32) (x2 : Int32) (μ : Mem) : Option (Int32 × Mem) :=
if (nI 3) ≤ x2 then
some (x1, μ) else
if inB x2 3 = true then
if (mI μ 47 0 (cl x2)) = (nI 0) then
self (x1 + (nI 0)) (x2 + (nI 1)) μ else
self (x1 + (nI 1)) (x2 + (nI 1)) μ else none
def s_slotsThatHold_L4   : Int32 → Int32 → Mem → Option (Int32 × Mem) := fixN (fun _ _ _ => none) (s_slotsThatHold_B4 ) 60000
def s_slotsThatHold  (μ : Mem) : Option (Int32 × Mem) :=
s_slotsThatHold_L4  (nI 0) (nI 0) μ
-- SluiceLogs.stepsThatCanBe()I
def s_stepsThatCanBe_B4   (self : Int32 → Int32 → Mem → Option (Int32 × Mem)) (x1 : Int32) (x2 : Int32) (μ : Mem) : Option (Int32 × Mem) :=
if (nI 24) ≤ x2 then
some (x1, μ) else
ob (wo_canStep 0 x2 μ) fun r7 μ4 =>
if r7 = (nI 0) then
self x1 (x2 + (nI 1)) μ4 else
self (x1 ||| ((nI 1) <<< (x2 &&& 31))) (x2 + (nI 1)) μ4
def s_stepsThatCanBe_L4   : Int32 → Int32 → Mem → Option (Int32 × Mem) := fixN (fun _ _ _ => none) (s_stepsThatCanBe_B4 ) 60000
def s_stepsThatCanBe  (μ : Mem) : Option (Int32 × Mem) :=
s_stepsThatCanBe_L4  (nI 0) (nI 0) μ
-- SluiceLogs.count(I)I
def s_count (x1 : Int32) (μ : Mem) : Option (Int32 × Mem) :=
if x1 = (nI 0) then
if (mR μ 10 0 3) < 2 then
some ((mI μ 18 (mR μ 10 0 3) 0), μ) else none else
if x1 = (nI 1) then
if (mR μ 10 0 3) < 2 then
some ((mI μ 18 (mR μ 10 0 3) 1), μ) else none else
if x1 = (nI 2) then
if (mR μ 10 0 3) < 2 then
some ((mI μ 18 (mR μ 10 0 3) 2), μ) else none else
if x1 = (nI 3) then
some ((mI μ 26 2 5), μ) else
if x1 = (nI 4) then
some ((mI μ 26 2 6), μ) else
if x1 = (nI 5) then
some ((mI μ 26 2 4), μ) else
if x1 = (nI 6) then
if (mI μ 32 0 0) = (nI 0) then
some ((nI 0), μ) else
some ((nI 1), μ) else
if x1 = (nI 7) then
ob (s_flowOfAll μ) fun r22 μ19 =>
some (r22, μ19) else
if x1 = (nI 8) then
some ((mI μ 10 0 1), μ) else
if x1 = (nI 9) then
some ((mI μ 44 0 2), μ) else
if x1 = (nI 10) then
some ((mI μ 48 0 3), μ) else
if x1 = (nI 11) then
ob (s_slotsThatHold μ) fun r32 μ29 =>
some (r32, μ29) else
if x1 = (nI 12) then
ob (wo_grownOfAll 0 μ) fun r39 μ36 =>
some (r39, μ36) else
if x1 = (nI 13) then
ob (s_stepsThatCanBe μ) fun r46 μ43 =>
some (r46, μ43) else
some ((-1 : Int32), μ)
-- SluiceLogsModel.lays(I)V
def m_lays_B3 (x1 : Int32)  (self : Int32 → Mem → Option (Unit × Mem)) (x2 : Int32) (μ : Mem) : Option (Unit × Mem) :=
if x2 < (nI 0) then
some ((), μ) else
if inB (mI μ 55 0 2) 2000 = true then
mb (stI μ 56 0 (cl (mI μ 55 0 2)) (Int8.toInt32 (Int32.toInt8 (Int8.toInt32 (Int32.toInt8 (x1 >>> (x2 &&& 31))))))) fun μ6 =>
self (x2 + (-8 : Int32)) (stI μ6 55 0 2 ((mI μ6 55 0 2) + (nI 1))) else none
def m_lays_L3 (x1 : Int32)  : Int32 → Mem → Option (Unit × Mem) := fixN (fun _ _ => none) (m_lays_B3 x1) 60000
def m_lays (x1 : Int32) (μ : Mem) : Option (Unit × Mem) :=
m_lays_L3 x1  (nI 24) μ
-- SluiceLogsModel.feed(IIIII)I
def m_feed (x1 : Int32) (x2 : Int32) (x3 : Int32) (x4 : Int32) (x5 : Int32) (μ : Mem) : Option (Int32 × Mem) :=
if ((mI μ 55 0 2) + (nI 20)) ≤ (nI 2000) then
ob (m_lays x1 μ) fun _ μ4 =>
ob (m_lays x2 μ4) fun _ μ9 =>
ob (m_lays x3 μ9) fun _ μ14 =>
ob (m_lays x4 μ14) fun _ μ19 =>
ob (m_lays x5 μ19) fun _ μ24 =>
some ((mI μ24 55 0 2), μ24) else
some ((-1 : Int32), μ)
-- SluiceLogsModel.back(I)I
def m_back (x1 : Int32) (μ : Mem) : Option (Int32 × Mem) :=
if x1 < (nI 0) then
some ((-1 : Int32), μ) else
if x1 ≤ (mI μ 55 0 2) then
some ((mI (stI μ 55 0 2 ((mI μ 55 0 2) - x1)) 55 0 2), (stI μ 55 0 2 ((mI μ 55 0 2) - x1))) else
some ((-1 : Int32), μ)
-- SluiceLogsModel.byteAt(I)I
def m_byteAt (x1 : Int32) (μ : Mem) : Option (Int32 × Mem) :=
if (mI μ 55 0 4) ≤ x1 then
some ((nI 0), μ) else
if inB x1 2000 = true then
some (((mI μ 57 0 (cl x1)) &&& (nI 255)), μ) else none
-- SluiceLogsModel.isDigit(I)Z
def m_isDigit (x0 : Int32) (μ : Mem) : Option (Int32 × Mem) :=
if x0 < (nI 48) then
some ((nI 0), μ) else
if (nI 57) < x0 then
some ((nI 0), μ) else
some ((nI 1), μ)
-- SluiceLogsModel.isLetter(I)Z
def m_isLetter (x0 : Int32) (μ : Mem) : Option (Int32 × Mem) :=
if x0 < (nI 97) then
some ((nI 0), μ) else
if (nI 122) < x0 then
some ((nI 0), μ) else
some ((nI 1), μ)
-- SluiceLogsModel.appends(JI)J
def m_appends (x0 : Int64) (x2 : Int32) (μ : Mem) : Option (Int64 × Mem) :=
if x2 = (nI 0) then
some (x0, μ) else
some ((((27 : Int64) * x0) + (Int32.toInt64 ((x2 - (nI 97)) + (nI 1)))), μ)
-- SluiceLogsModel.letters(IIIIIII)J
def m_letters (x0 : Int32) (x1 : Int32) (x2 : Int32) (x3 : Int32) (x4 : Int32) (x5 : Int32) (x6 : Int32) (μ : Mem) : Option (Int64 × Mem) :=
ob (m_appends (0 : Int64) x0 μ) fun r4 μ1 =>
ob (m_appends r4 x1 μ1) fun r9 μ6 =>
ob (m_appends r9 x2 μ6) fun r14 μ11 =>
ob (m_appends r14 x3 μ11) fun r19 μ16 =>
ob (m_appends r19 x4 μ16) fun r24 μ21 =>
ob (m_appends r24 x5 μ21) fun r29 μ26 =>
ob (m_appends r29 x6 μ26) fun r34 μ31 =>
some (r34, μ31)
-- SluiceLogsModel.token(IIIJ)V
def m_token (x1 : Int32) (x2 : Int32) (x3 : Int32) (x4 : Int64) (μ : Mem) : Option (Unit × Mem) :=
if inB (mI μ 55 0 10) 403 = true then
if inB (mI (stI μ 58 0 (cl (mI μ 55 0 10)) x1) 55 0 10) 403 = true then
mb (stI (stI μ 58 0 (cl (mI μ 55 0 10)) x1) 59 0 (cl (mI (stI μ 58 0 (cl (mI μ 55 0 10)) x1) 55 0 10)) x2) fun μ5 =>
if inB (mI μ5 55 0 10) 403 = true then
if inB (mI (stI μ5 60 0 (cl (mI μ5 55 0 10)) x3) 55 0 10) 403 = true then
mb (stL (stI μ5 60 0 (cl (mI μ5 55 0 10)) x3) 61 0 (cl (mI (stI μ5 60 0 (cl (mI μ5 55 0 10)) x3) 55 0 10)) x4) fun μ11 =>
mb (stI μ11 55 0 10 ((mI μ11 55 0 10) + (nI 1))) fun μ13 =>
some ((), μ13) else none else none else none else none
-- SluiceLogsModel.sign(III)I
def m_sign (x1 : Int32) (x2 : Int32) (x3 : Int32) (μ : Mem) : Option (Int32 × Mem) :=
if x2 = (nI 59) then
ob (m_token (nI 4) x1 (nI 0) (0 : Int64) μ) fun _ μ112 =>
some ((nI 1), μ112) else
if x2 = (nI 61) then
ob (m_token (nI 5) x1 (nI 0) (0 : Int64) μ) fun _ μ101 =>
some ((nI 1), μ101) else
if x2 = (nI 40) then
ob (m_token (nI 6) x1 (nI 0) (0 : Int64) μ) fun _ μ90 =>
some ((nI 1), μ90) else
if x2 = (nI 41) then
ob (m_token (nI 7) x1 (nI 0) (0 : Int64) μ) fun _ μ79 =>
some ((nI 1), μ79) else
if x2 = (nI 43) then
ob (m_token (nI 8) x1 (nI 0) (0 : Int64) μ) fun _ μ68 =>
some ((nI 1), μ68) else
if x2 = (nI 45) then
ob (m_token (nI 9) x1 (nI 0) (0 : Int64) μ) fun _ μ58 =>
some ((nI 1), μ58) else
if x2 = (nI 42) then
ob (m_token (nI 10) x1 (nI 0) (0 : Int64) μ) fun _ μ49 =>
some ((nI 1), μ49) else
if x2 = (nI 47) then
ob (m_token (nI 15) x1 (nI 0) (0 : Int64) μ) fun _ μ41 =>
some ((nI 1), μ41) else
if x2 = (nI 60) then
ob (m_token (nI 13) x1 (nI 0) (0 : Int64) μ) fun _ μ34 =>
some ((nI 1), μ34) else
ob (m_token (nI 3) x1 (nI 0) (0 : Int64) μ) fun _ μ28 =>
some ((nI 1), μ28)
-- SluiceLogsModel.cut()V
def m_cut_B208 (x1 : Int32) (k250 : Int32 → Int32 → Mem → Option (Unit × Mem)) (self : Int32 → Int32 → Mem → Option (Unit × Mem)) (x3 : Int32) (x4 : Int32) (μ : Mem) : Option (Unit × Mem) :=
ob (m_byteAt (x1 + x3) μ) fun r55 μ52 =>
ob (m_isDigit r55 μ52) fun r60 μ57 =>
if r60 = (nI 0) then
k250 x3 x4 μ57 else
if (nI 4) ≤ x3 then
self (x3 + (nI 1)) x4 μ57 else
ob (m_byteAt (x1 + x3) μ57) fun r71 μ68 =>
self (x3 + (nI 1)) ((((nI 10) * x4) + r71) - (nI 48)) μ68
def m_cut_L208 (x1 : Int32) (k250 : Int32 → Int32 → Mem → Option (Unit × Mem)) : Int32 → Int32 → Mem → Option (Unit × Mem) := fixN (fun _ _ _ => none) (m_cut_B208 x1 k250) 60000
def m_cut_B85 (x1 : Int32) (k124 : Int32 → Int64 → Mem → Option (Unit × Mem)) (self : Int32 → Int64 → Mem → Option (Unit × Mem)) (x3 : Int32) (x4 : Int64) (μ : Mem) : Option (Unit × Mem) :=
ob (m_byteAt (x1 + x3) μ) fun r101 μ98 =>
ob (m_isLetter r101 μ98) fun r106 μ103 =>
if r106 = (nI 0) then
k124 x3 x4 μ103 else
if (nI 8) ≤ x3 then
self (x3 + (nI 1)) x4 μ103 else
ob (m_byteAt (x1 + x3) μ103) fun r117 μ114 =>
ob (m_appends x4 r117 μ114) fun r122 μ119 =>
self (x3 + (nI 1)) r122 μ119
def m_cut_L85 (x1 : Int32) (k124 : Int32 → Int64 → Mem → Option (Unit × Mem)) : Int32 → Int64 → Mem → Option (Unit × Mem) := fixN (fun _ _ _ => none) (m_cut_B85 x1 k124) 60000
def m_cut_B146 (x1 : Int32) (x3 : Int32) (x4 : Int64) (k179 : Int32 → Mem → Option (Unit × Mem)) (self : Int32 → Int32 → Mem → Option (Unit × Mem)) (x6 : Int32) (x7 : Int32) (μ : Mem) : Option (Unit × Mem) :=
if (nI 23) ≤ x7 then
k179 x6 μ else
if inB x7 23 = true then
if (lg_cmp (mL μ 62 0 (cl x7)) x4) = (nI 0) then
self ((nI 20) + x7) (x7 + (nI 1)) μ else
self x6 (x7 + (nI 1)) μ else none
def m_cut_L146 (x1 : Int32) (x3 : Int32) (x4 : Int64) (k179 : Int32 → Mem → Option (Unit × Mem)) : Int32 → Int32 → Mem → Option (Unit × Mem) := fixN (fun _ _ _ => none) (m_cut_B146 x1 x3 x4 k179) 60000
def m_cut_B7   (self : Int32 → Mem → Option (Unit × Mem)) (x1 : Int32) (μ : Mem) : Option (Unit × Mem) :=
if (nI 400) < (mI μ 55 0 10) then
some ((), μ) else
ob (m_byteAt x1 μ) fun r7 μ4 =>
if x1 < (mI μ4 55 0 4) then
if r7 = (nI 9) then
self (x1 + (nI 1)) μ4 else
if r7 = (nI 10) then
self (x1 + (nI 1)) μ4 else
if r7 = (nI 13) then
self (x1 + (nI 1)) μ4 else
if r7 = (nI 32) then
self (x1 + (nI 1)) μ4 else
ob (m_isLetter r7 μ4) fun r27 μ24 =>
if r27 = (nI 0) then
ob (m_isDigit r7 μ24) fun r35 μ32 =>
if r35 = (nI 0) then
ob (m_byteAt (x1 + (nI 1)) μ32) fun r43 μ40 =>
ob (m_sign x1 r7 r43 μ40) fun r48 μ45 =>
self (x1 + r48) μ45 else
m_cut_L208 x1 (fun (x76 : Int32) (x77 : Int32) (μ78 : Mem) =>
if x76 ≤ (nI 4) then
ob (m_token (nI 2) x1 x77 (0 : Int64) μ78) fun _ μ85 =>
self (x1 + x76) μ85 else
ob (m_token (nI 3) x1 x77 (0 : Int64) μ78) fun _ μ91 =>
self (x1 + x76) μ91) (nI 0) (nI 0) μ32 else
m_cut_L85 x1 (fun (x128 : Int32) (y129 : Int64) (μ130 : Mem) =>
if x128 ≤ (nI 8) then
if (nI 8) < x128 then
ob (m_token (nI 1) x1 (nI 0) y129 μ130) fun _ μ140 =>
self (x1 + x128) μ140 else
m_cut_L146 x1 x128 y129 (fun (x154 : Int32) (μ155 : Mem) =>
ob (m_token x154 x1 (nI 0) y129 μ155) fun _ μ159 =>
self (x1 + x128) μ159) (nI 1) (nI 0) μ130 else
if (nI 8) < x128 then
ob (m_token (nI 3) x1 (nI 0) y129 μ130) fun _ μ168 =>
self (x1 + x128) μ168 else
m_cut_L146 x1 x128 y129 (fun (x174 : Int32) (μ175 : Mem) =>
ob (m_token x174 x1 (nI 0) y129 μ175) fun _ μ179 =>
self (x1 + x128) μ179) (nI 3) (nI 0) μ130) (nI 0) (0 : Int64) μ24 else
ob (m_token (nI 0) (mI μ4 55 0 4) (nI 0) (0 : Int64) μ4) fun _ μ186 =>
some ((), μ186)
def m_cut_L7   : Int32 → Mem → Option (Unit × Mem) := fixN (fun _ _ => none) (m_cut_B7 ) 60000
def m_cut  (μ : Mem) : Option (Unit × Mem) :=
m_cut_L7  (nI 0) (stI μ 55 0 10 (nI 0))
-- SluiceLogsModel.is(I)Z
def m_is (x1 : Int32) (μ : Mem) : Option (Int32 × Mem) :=
if (mI μ 55 0 13) = (nI 0) then
if inB (mI μ 55 0 11) 403 = true then
if (mI μ 58 0 (cl (mI μ 55 0 11))) = x1 then
some ((nI 1), μ) else
some ((nI 0), μ) else none else
some ((nI 0), μ)
-- SluiceLogsModel.fail(I)V
def m_fail (x1 : Int32) (μ : Mem) : Option (Unit × Mem) :=
if (mI μ 55 0 13) ≤ (nI 0) then
if inB (mI (stI μ 55 0 13 x1) 55 0 11) 403 = true then
mb (stI (stI μ 55 0 13 x1) 55 0 14 (mI (stI μ 55 0 13 x1) 59 0 (cl (mI (stI μ 55 0 13 x1) 55 0 11)))) fun μ6 =>
some ((), μ6) else none else
some ((), μ)
-- SluiceLogsModel.wrong(II)V
def m_wrong (x1 : Int32) (x2 : Int32) (μ : Mem) : Option (Unit × Mem) :=
if inB x2 403 = true then
if (nI 0) < (mI μ 55 0 13) then
some ((), μ) else
if (mI μ 55 0 15) = (nI 0) then
mb (stI (stI μ 55 0 15 x1) 55 0 16 (mI μ 59 0 (cl x2))) fun μ9 =>
some ((), μ9) else
if (mI μ 55 0 16) < (mI μ 59 0 (cl x2)) then
some ((), μ) else
if (mI μ 59 0 (cl x2)) = (mI μ 55 0 16) then
if x1 < (mI μ 55 0 15) then
mb (stI (stI μ 55 0 15 x1) 55 0 16 (mI μ 59 0 (cl x2))) fun μ22 =>
some ((), μ22) else
some ((), μ) else
mb (stI (stI μ 55 0 15 x1) 55 0 16 (mI μ 59 0 (cl x2))) fun μ17 =>
some ((), μ17) else none
-- SluiceLogsModel.goesOn()V
def m_goesOn  (μ : Mem) : Option (Unit × Mem) :=
if (mI μ 55 0 11) = (nI 400) then
ob (m_fail (nI 2) μ) fun _ μ4 =>
some ((), μ4) else
some ((), (stI μ 55 0 11 ((mI μ 55 0 11) + (nI 1))))
-- SluiceLogsModel.must(I)V
def m_must (x1 : Int32) (μ : Mem) : Option (Unit × Mem) :=
ob (m_is x1 μ) fun r4 μ1 =>
if r4 = (nI 0) then
ob (m_fail (nI 1) μ1) fun _ μ9 =>
some ((), μ9) else
ob (m_goesOn μ1) fun _ μ15 =>
some ((), μ15)
-- SluiceLogsModel.plain(I)V
def m_plain_B38 (x1 : Int32)  (self : Int32 → Mem → Option (Unit × Mem)) (x2 : Int32) (μ : Mem) : Option (Unit × Mem) :=
if (nI 4) ≤ x2 then
some ((), μ) else
if inB (((nI 4) * x1) + x2) 8 = true then
mb (stI μ 76 0 (cl (((nI 4) * x1) + x2)) (nI 0)) fun μ12 =>
mb (stI μ12 77 0 (cl (((nI 4) * x1) + x2)) (nI 0)) fun μ14 =>
self (x2 + (nI 1)) μ14 else none
def m_plain_L38 (x1 : Int32)  : Int32 → Mem → Option (Unit × Mem) := fixN (fun _ _ => none) (m_plain_B38 x1) 60000
def m_plain (x1 : Int32) (μ : Mem) : Option (Unit × Mem) :=
if inB x1 2 = true then
mb (stI (stI μ 65 0 (cl x1) (nI 0)) 66 0 (cl x1) (nI 0)) fun μ3 =>
mb (stI (stI μ3 70 0 (cl x1) (nI 0)) 74 0 (cl x1) (nI 8)) fun μ5 =>
m_plain_L38 x1  (nI 0) (stI μ5 75 0 (cl x1) (nI 0)) else none
-- SluiceLogsModel.roomFor(II)V
def m_roomFor (x1 : Int32) (x2 : Int32) (μ : Mem) : Option (Unit × Mem) :=
if x1 = x2 then
ob (m_fail (nI 2) μ) fun _ μ13 =>
if (mI μ13 55 0 13) = (nI 0) then
ob (m_goesOn μ13) fun _ μ21 =>
some ((), μ21) else
some ((), μ13) else
if (mI μ 55 0 13) = (nI 0) then
ob (m_goesOn μ) fun _ μ7 =>
some ((), μ7) else
some ((), μ)
-- SluiceLogsModel.named()I
def m_named_B12 (x1 : Int32)  (self : Int32 → Mem → Option (Int32 × Mem)) (x2 : Int32) (μ : Mem) : Option (Int32 × Mem) :=
if (mI μ 55 0 20) ≤ x2 then
some (x1, μ) else
if (mI μ 55 0 13) = (nI 0) then
if inB x2 10 = true then
if inB x1 403 = true then
if (lg_cmp (mL μ 63 0 (cl x2)) (mL μ 61 0 (cl x1))) = (nI 0) then
ob (m_wrong (nI 3) x1 μ) fun _ μ19 =>
self (x2 + (nI 1)) μ19 else
self (x2 + (nI 1)) μ else none else none else
some (x1, μ)
def m_named_L12 (x1 : Int32)  : Int32 → Mem → Option (Int32 × Mem) := fixN (fun _ _ => none) (m_named_B12 x1) 60000
def m_named  (μ : Mem) : Option (Int32 × Mem) :=
ob (m_must (nI 1) μ) fun _ μ1 =>
m_named_L12 (mI μ 55 0 11)  (nI 0) μ1
-- SluiceLogsModel.endsName(II)V
def m_endsName (x1 : Int32) (x2 : Int32) (μ : Mem) : Option (Unit × Mem) :=
ob (m_must (nI 4) μ) fun _ μ1 =>
if (mI μ1 55 0 13) ≤ (nI 0) then
if inB x1 403 = true then
if inB (mI μ1 55 0 20) 10 = true then
mb (stL μ1 63 0 (cl (mI μ1 55 0 20)) (mL μ1 61 0 (cl x1))) fun μ13 =>
if inB (mI μ13 55 0 20) 10 = true then
mb (stI (stI μ13 64 0 (cl (mI μ13 55 0 20)) x2) 55 0 20 ((mI (stI μ13 64 0 (cl (mI μ13 55 0 20)) x2) 55 0 20) + (nI 1))) fun μ17 =>
some ((), μ17) else none else none else none else
some ((), μ1)
-- SluiceLogsModel.bounded(II)I
def m_bounded (x1 : Int32) (x2 : Int32) (μ : Mem) : Option (Int32 × Mem) :=
if (nI 0) < (mI μ 55 0 13) then
ob (m_fail (nI 1) μ) fun _ μ4 =>
some (x1, μ4) else
ob (m_is (nI 2) μ) fun r13 μ10 =>
if r13 = (nI 0) then
ob (m_fail (nI 1) μ10) fun _ μ56 =>
some (x1, μ56) else
if inB (mI μ10 55 0 11) 403 = true then
if (mI μ10 60 0 (cl (mI μ10 55 0 11))) < x1 then
ob (m_wrong (nI 5) (mI μ10 55 0 11) μ10) fun _ μ23 =>
ob (m_goesOn μ23) fun _ μ28 =>
some ((mI μ10 60 0 (cl (mI μ10 55 0 11))), μ28) else
if (mI μ10 60 0 (cl (mI μ10 55 0 11))) ≤ x2 then
ob (m_goesOn μ10) fun _ μ38 =>
some ((mI μ10 60 0 (cl (mI μ10 55 0 11))), μ38) else
ob (m_wrong (nI 5) (mI μ10 55 0 11) μ10) fun _ μ44 =>
ob (m_goesOn μ44) fun _ μ49 =>
some ((mI μ10 60 0 (cl (mI μ10 55 0 11))), μ49) else none
-- SluiceLogsModel.tellField()V
def m_tellField  (μ : Mem) : Option (Unit × Mem) :=
if inB (mI μ 55 0 19) 2 = true then
vb ((((nI 6) * (mI μ 55 0 19)) + (mI μ 66 0 (cl (mI μ 55 0 19))))) fun v3 : Int32 =>
ob (m_named μ) fun r7 μ4 =>
ob (m_bounded (nI 1) (nI 99) μ4) fun r12 μ9 =>
if inB v3 12 = true then
mb (stI (stI μ9 67 0 (cl v3) r12) 68 0 (cl v3) (-2 : Int32)) fun μ16 =>
if inB (mI (stI μ16 69 0 (cl v3) (nI 0)) 55 0 19) 2 = true then
ob (m_endsName r7 ((nI 10) + (mI (stI μ16 69 0 (cl v3) (nI 0)) 66 0 (cl (mI (stI μ16 69 0 (cl v3) (nI 0)) 55 0 19)))) (stI μ16 69 0 (cl v3) (nI 0))) fun _ μ20 =>
if (mI μ20 55 0 13) = (nI 0) then
if inB (mI μ20 55 0 19) 2 = true then
mb (stI μ20 66 0 (cl (mI μ20 55 0 19)) ((mI μ20 66 0 (cl (mI μ20 55 0 19))) + (nI 1))) fun μ30 =>
some ((), μ30) else none else
some ((), μ20) else none else none else none
-- SluiceLogsModel.foundOf(II)I
def m_foundOf_B2 (x1 : Int32) (x2 : Int32)  (self : Int32 → Mem → Option (Int32 × Mem)) (x3 : Int32) (μ : Mem) : Option (Int32 × Mem) :=
if (mI μ 55 0 20) ≤ x3 then
some ((-1 : Int32), μ) else
if inB x3 10 = true then
if inB x1 403 = true then
if (lg_cmp (mL μ 63 0 (cl x3)) (mL μ 61 0 (cl x1))) = (nI 0) then
if (mI μ 64 0 (cl x3)) < x2 then
self (x3 + (nI 1)) μ else
if (x2 + (nI 10)) ≤ (mI μ 64 0 (cl x3)) then
self (x3 + (nI 1)) μ else
some (((mI μ 64 0 (cl x3)) - x2), μ) else
self (x3 + (nI 1)) μ else none else none
def m_foundOf_L2 (x1 : Int32) (x2 : Int32)  : Int32 → Mem → Option (Int32 × Mem) := fixN (fun _ _ => none) (m_foundOf_B2 x1 x2) 60000
def m_foundOf (x1 : Int32) (x2 : Int32) (μ : Mem) : Option (Int32 × Mem) :=
m_foundOf_L2 x1 x2  (nI 0) μ
-- SluiceLogsModel.known(I)I
def m_known (x1 : Int32) (μ : Mem) : Option (Int32 × Mem) :=
ob (m_must (nI 1) μ) fun _ μ1 =>
if (mI μ1 55 0 13) ≤ (nI 0) then
ob (m_foundOf (mI μ 55 0 11) x1 μ1) fun r12 μ9 =>
if (nI 0) ≤ r12 then
some (r12, μ9) else
ob (m_wrong (nI 4) (mI μ 55 0 11) μ9) fun _ μ17 =>
some (r12, μ17) else
some ((-1 : Int32), μ1)
-- SluiceLogsModel.toTold()I
def m_toTold  (μ : Mem) : Option (Int32 × Mem) :=
ob (m_is (nI 25) μ) fun r4 μ1 =>
if r4 = (nI 0) then
ob (m_must (nI 1) μ1) fun _ μ9 =>
if (mI μ9 55 0 13) ≤ (nI 0) then
ob (m_foundOf (mI μ 55 0 11) (nI 0) μ9) fun r20 μ17 =>
ob (m_foundOf (mI μ 55 0 11) (nI 10) μ17) fun r25 μ22 =>
if (nI 0) ≤ r20 then
if r20 < (nI 0) then
some (((nI 10) + r25), μ22) else
some (r20, μ22) else
if (nI 0) ≤ r25 then
if r20 < (nI 0) then
some (((nI 10) + r25), μ22) else
some (r20, μ22) else
ob (m_wrong (nI 4) (mI μ 55 0 11) μ22) fun _ μ39 =>
if r20 < (nI 0) then
some (((nI 10) + r25), μ39) else
some (r20, μ39) else
some ((-1 : Int32), μ9) else
ob (m_goesOn μ1) fun _ μ51 =>
some ((nI 20), μ51)
-- SluiceLogsModel.tellNotch()V
def m_tellNotch_B45 (x1 : Int32) (x2 : Int32) (k83 : Int32 → Mem → Option (Unit × Mem)) (self : Int32 → Int32 → Mem → Option (Unit × Mem)) (x3 : Int32) (x4 : Int32) (μ : Mem) : Option (Unit × Mem) :=
if x1 ≤ x4 then
k83 x3 μ else
if (mI μ 55 0 13) = (nI 0) then
if inB x4 24 = true then
if inB x1 24 = true then
if (mI μ 71 0 (cl x4)) = (mI μ 71 0 (cl x1)) then
self (x3 + (nI 1)) (x4 + (nI 1)) μ else
self x3 (x4 + (nI 1)) μ else none else none else
k83 x3 μ
def m_tellNotch_L45 (x1 : Int32) (x2 : Int32) (k83 : Int32 → Mem → Option (Unit × Mem)) : Int32 → Int32 → Mem → Option (Unit × Mem) := fixN (fun _ _ _ => none) (m_tellNotch_B45 x1 x2 k83) 60000
def m_tellNotch  (μ : Mem) : Option (Unit × Mem) :=
if inB (mI μ 55 0 19) 2 = true then
vb ((((nI 12) * (mI μ 55 0 19)) + (mI μ 70 0 (cl (mI μ 55 0 19))))) fun v3 : Int32 =>
ob (m_known (nI 0) μ) fun r7 μ4 =>
if inB v3 24 = true then
vb (((nI 12) * (mI (stI μ4 71 0 (cl v3) r7) 55 0 19))) fun v11 : Int32 =>
m_tellNotch_L45 v3 (mI μ 55 0 11) (fun (x25 : Int32) (μ26 : Mem) =>
if (mI μ26 55 0 13) = (nI 0) then
if (mI μ26 71 0 (cl v3)) < (nI 0) then
ob (m_toTold μ26) fun r64 μ61 =>
ob (m_bounded (nI 0) (nI 3) (stI μ61 72 0 (cl v3) r64)) fun r69 μ66 =>
ob (m_must (nI 4) (stI μ66 73 0 (cl v3) r69)) fun _ μ71 =>
if (mI μ71 55 0 13) = (nI 0) then
if inB (mI μ71 55 0 19) 2 = true then
mb (stI μ71 70 0 (cl (mI μ71 55 0 19)) ((mI μ71 70 0 (cl (mI μ71 55 0 19))) + (nI 1))) fun μ81 =>
some ((), μ81) else none else
some ((), μ71) else
if x25 < (nI 3) then
ob (m_toTold μ26) fun r92 μ89 =>
ob (m_bounded (nI 0) (nI 3) (stI μ89 72 0 (cl v3) r92)) fun r97 μ94 =>
ob (m_must (nI 4) (stI μ94 73 0 (cl v3) r97)) fun _ μ99 =>
if (mI μ99 55 0 13) = (nI 0) then
if inB (mI μ99 55 0 19) 2 = true then
mb (stI μ99 70 0 (cl (mI μ99 55 0 19)) ((mI μ99 70 0 (cl (mI μ99 55 0 19))) + (nI 1))) fun μ109 =>
some ((), μ109) else none else
some ((), μ99) else
ob (m_wrong (nI 6) (mI μ 55 0 11) μ26) fun _ μ114 =>
ob (m_toTold μ114) fun r122 μ119 =>
ob (m_bounded (nI 0) (nI 3) (stI μ119 72 0 (cl v3) r122)) fun r127 μ124 =>
ob (m_must (nI 4) (stI μ124 73 0 (cl v3) r127)) fun _ μ129 =>
if (mI μ129 55 0 13) = (nI 0) then
if inB (mI μ129 55 0 19) 2 = true then
mb (stI μ129 70 0 (cl (mI μ129 55 0 19)) ((mI μ129 70 0 (cl (mI μ129 55 0 19))) + (nI 1))) fun μ139 =>
some ((), μ139) else none else
some ((), μ129) else
ob (m_toTold μ26) fun r36 μ33 =>
ob (m_bounded (nI 0) (nI 3) (stI μ33 72 0 (cl v3) r36)) fun r41 μ38 =>
ob (m_must (nI 4) (stI μ38 73 0 (cl v3) r41)) fun _ μ43 =>
if (mI μ43 55 0 13) = (nI 0) then
if inB (mI μ43 55 0 19) 2 = true then
mb (stI μ43 70 0 (cl (mI μ43 55 0 19)) ((mI μ43 70 0 (cl (mI μ43 55 0 19))) + (nI 1))) fun μ53 =>
some ((), μ53) else none else
some ((), μ43)) (nI 0) v11 (stI μ4 71 0 (cl v3) r7) else none else none
-- SluiceLogsModel.tellDrain()V
def m_tellDrain  (μ : Mem) : Option (Unit × Mem) :=
ob (m_known (nI 10) μ) fun r4 μ1 =>
ob (m_known (nI 0) μ1) fun r9 μ6 =>
ob (m_bounded (nI 0) (nI 3) μ6) fun r14 μ11 =>
ob (m_must (nI 4) μ11) fun _ μ16 =>
if (nI 0) < (mI μ16 55 0 13) then
some ((), μ16) else
if (nI 0) ≤ r4 then
if inB (((nI 6) * (mI μ16 55 0 19)) + r4) 12 = true then
mb (stI μ16 68 0 (cl (((nI 6) * (mI μ16 55 0 19)) + r4)) r9) fun μ29 =>
if inB (((nI 6) * (mI μ29 55 0 19)) + r4) 12 = true then
mb (stI μ29 69 0 (cl (((nI 6) * (mI μ29 55 0 19)) + r4)) r14) fun μ33 =>
some ((), μ33) else none else none else
some ((), μ16)
-- SluiceLogsModel.emit(II)V
def m_emit (x1 : Int32) (x2 : Int32) (μ : Mem) : Option (Unit × Mem) :=
if inB (mI μ 55 0 42) 840 = true then
if inB (mI (stI μ 83 0 (cl (mI μ 55 0 42)) x1) 55 0 42) 840 = true then
mb (stI (stI μ 83 0 (cl (mI μ 55 0 42)) x1) 84 0 (cl (mI (stI μ 83 0 (cl (mI μ 55 0 42)) x1) 55 0 42)) x2) fun μ5 =>
mb (stI μ5 55 0 42 ((mI μ5 55 0 42) + (nI 1))) fun μ7 =>
some ((), μ7) else none else none
-- SluiceLogsModel.unit()V
def m_unit  (μ : Mem) : Option (Unit × Mem) :=
ob (m_is (nI 2) μ) fun r4 μ1 =>
if r4 = (nI 0) then
if (mI μ1 55 0 13) = (nI 0) then
if inB (mI μ1 55 0 11) 403 = true then
if (mI μ1 58 0 (cl (mI μ1 55 0 11))) < (nI 34) then
ob (m_fail (nI 1) μ1) fun _ μ23 =>
some ((), μ23) else
if (nI 42) < (mI μ1 58 0 (cl (mI μ1 55 0 11))) then
ob (m_fail (nI 1) μ1) fun _ μ32 =>
some ((), μ32) else
ob (m_emit (nI 1) ((mI μ1 58 0 (cl (mI μ1 55 0 11))) - (nI 34)) μ1) fun _ μ38 =>
ob (m_goesOn μ38) fun _ μ43 =>
some ((), μ43) else none else
ob (m_fail (nI 1) μ1) fun _ μ12 =>
some ((), μ12) else
if inB (mI μ1 55 0 11) 403 = true then
ob (m_emit (nI 0) (mI μ1 60 0 (cl (mI μ1 55 0 11))) μ1) fun _ μ52 =>
ob (m_goesOn μ52) fun _ μ57 =>
some ((), μ57) else none
-- SluiceLogsModel.comesOut(Z)V
def m_comesOut_B0 (x1 : Int32)  (self : Mem → Option (Unit × Mem))  (μ : Mem) : Option (Unit × Mem) :=
if (mI μ 55 0 46) ≤ (nI 0) then
some ((), μ) else
if inB ((mI μ 55 0 46) - (nI 1)) 64 = true then
vb ((mI μ 85 0 (cl ((mI μ 55 0 46) - (nI 1))))) fun v6 : Int32 =>
if v6 = (nI 6) then
some ((), μ) else
if x1 = (nI 0) then
if v6 = (nI 8) then
ob (m_emit (nI 2) (nI 0) (stI μ 55 0 46 ((mI μ 55 0 46) - (nI 1)))) fun _ μ40 =>
self μ40 else
if v6 = (nI 9) then
ob (m_emit (nI 3) (nI 0) (stI μ 55 0 46 ((mI μ 55 0 46) - (nI 1)))) fun _ μ34 =>
self μ34 else
if v6 = (nI 10) then
ob (m_emit (nI 4) (nI 0) (stI μ 55 0 46 ((mI μ 55 0 46) - (nI 1)))) fun _ μ28 =>
self μ28 else
ob (m_emit (nI 5) (nI 0) (stI μ 55 0 46 ((mI μ 55 0 46) - (nI 1)))) fun _ μ22 =>
self μ22 else
if v6 = (nI 8) then
some ((), μ) else
if v6 = (nI 9) then
some ((), μ) else
if v6 = (nI 8) then
ob (m_emit (nI 2) (nI 0) (stI μ 55 0 46 ((mI μ 55 0 46) - (nI 1)))) fun _ μ79 =>
self μ79 else
if v6 = (nI 9) then
ob (m_emit (nI 3) (nI 0) (stI μ 55 0 46 ((mI μ 55 0 46) - (nI 1)))) fun _ μ73 =>
self μ73 else
if v6 = (nI 10) then
ob (m_emit (nI 4) (nI 0) (stI μ 55 0 46 ((mI μ 55 0 46) - (nI 1)))) fun _ μ67 =>
self μ67 else
ob (m_emit (nI 5) (nI 0) (stI μ 55 0 46 ((mI μ 55 0 46) - (nI 1)))) fun _ μ61 =>
self μ61 else none
def m_comesOut_L0 (x1 : Int32)  : Mem → Option (Unit × Mem) := fixN (fun _ => none) (m_comesOut_B0 x1) 60000
def m_comesOut (x1 : Int32) (μ : Mem) : Option (Unit × Mem) :=
m_comesOut_L0 x1  μ
-- SluiceLogsModel.expression()V
def m_expression_B23 (x1 : Int32) (k84 : Mem → Option (Unit × Mem)) (self : Mem → Option (Unit × Mem))  (μ : Mem) : Option (Unit × Mem) :=
ob (m_is (nI 6) μ) fun r10 μ7 =>
if r10 = (nI 0) then
k84 μ7 else
if (mI μ7 55 0 12) = (nI 6) then
ob (m_fail (nI 2) μ7) fun _ μ32 =>
mb (stI μ32 55 0 12 ((mI μ32 55 0 12) + (nI 1))) fun μ37 =>
ob (m_goesOn μ37) fun _ μ39 =>
if inB (mI μ39 55 0 46) 64 = true then
mb (stI μ39 85 0 (cl (mI μ39 55 0 46)) (nI 6)) fun μ46 =>
mb (stI μ46 55 0 46 ((mI μ46 55 0 46) + (nI 1))) fun μ48 =>
self μ48 else none else
mb (stI μ7 55 0 12 ((mI μ7 55 0 12) + (nI 1))) fun μ18 =>
ob (m_goesOn μ18) fun _ μ20 =>
if inB (mI μ20 55 0 46) 64 = true then
mb (stI μ20 85 0 (cl (mI μ20 55 0 46)) (nI 6)) fun μ27 =>
mb (stI μ27 55 0 46 ((mI μ27 55 0 46) + (nI 1))) fun μ29 =>
self μ29 else none
def m_expression_L23 (x1 : Int32) (k84 : Mem → Option (Unit × Mem)) : Mem → Option (Unit × Mem) := fixN (fun _ => none) (m_expression_B23 x1 k84) 60000
def m_expression_B96 (x1 : Int32) (k145 : Mem → Option (Unit × Mem)) (self : Mem → Option (Unit × Mem))  (μ : Mem) : Option (Unit × Mem) :=
ob (m_is (nI 7) μ) fun r68 μ65 =>
if r68 = (nI 0) then
k145 μ65 else
if (mI μ65 55 0 12) ≤ x1 then
k145 μ65 else
ob (m_comesOut (nI 0) μ65) fun _ μ76 =>
mb (stI μ76 55 0 46 ((mI μ76 55 0 46) - (nI 1))) fun μ81 =>
mb (stI μ81 55 0 12 ((mI μ81 55 0 12) - (nI 1))) fun μ83 =>
ob (m_goesOn μ83) fun _ μ85 =>
self μ85
def m_expression_L96 (x1 : Int32) (k145 : Mem → Option (Unit × Mem)) : Mem → Option (Unit × Mem) := fixN (fun _ => none) (m_expression_B96 x1 k145) 60000
def m_expression_B12 (x1 : Int32) (k204 : Mem → Option (Unit × Mem)) (self : Int32 → Mem → Option (Unit × Mem)) (x2 : Int32) (μ : Mem) : Option (Unit × Mem) :=
if x2 = (nI 0) then
some ((), μ) else
if (mI μ 55 0 13) = (nI 0) then
m_expression_L23 x1 (fun  (μ53 : Mem) =>
ob (m_unit μ53) fun _ μ57 =>
if (mI μ57 55 0 13) ≤ (nI 0) then
m_expression_L96 x1 (fun  (μ93 : Mem) =>
ob (m_is (nI 8) μ93) fun r100 μ97 =>
if r100 = (nI 0) then
ob (m_is (nI 9) μ97) fun r187 μ184 =>
if r187 = (nI 0) then
ob (m_is (nI 10) μ184) fun r274 μ271 =>
if r274 = (nI 0) then
ob (m_is (nI 15) μ271) fun r361 μ358 =>
if r361 = (nI 0) then
if (mI μ358 55 0 12) ≤ x1 then
k204 μ358 else
ob (m_fail (nI 1) μ358) fun _ μ370 =>
k204 μ370 else
ob (m_is (nI 10) μ358) fun r380 μ377 =>
if r380 = (nI 0) then
ob (m_is (nI 15) μ377) fun r408 μ405 =>
if r408 = (nI 0) then
ob (m_comesOut (nI 0) μ405) fun _ μ413 =>
if inB (mI μ413 55 0 11) 403 = true then
if inB (mI μ413 55 0 46) 64 = true then
mb (stI μ413 85 0 (cl (mI μ413 55 0 46)) (mI μ413 58 0 (cl (mI μ413 55 0 11)))) fun μ422 =>
mb (stI μ422 55 0 46 ((mI μ422 55 0 46) + (nI 1))) fun μ424 =>
ob (m_goesOn μ424) fun _ μ426 =>
self (nI 1) μ426 else none else none else
ob (m_comesOut (nI 1) μ405) fun _ μ433 =>
if inB (mI μ433 55 0 11) 403 = true then
if inB (mI μ433 55 0 46) 64 = true then
mb (stI μ433 85 0 (cl (mI μ433 55 0 46)) (mI μ433 58 0 (cl (mI μ433 55 0 11)))) fun μ442 =>
mb (stI μ442 55 0 46 ((mI μ442 55 0 46) + (nI 1))) fun μ444 =>
ob (m_goesOn μ444) fun _ μ446 =>
self (nI 1) μ446 else none else none else
ob (m_comesOut (nI 1) μ377) fun _ μ385 =>
if inB (mI μ385 55 0 11) 403 = true then
if inB (mI μ385 55 0 46) 64 = true then
mb (stI μ385 85 0 (cl (mI μ385 55 0 46)) (mI μ385 58 0 (cl (mI μ385 55 0 11)))) fun μ394 =>
mb (stI μ394 55 0 46 ((mI μ394 55 0 46) + (nI 1))) fun μ396 =>
ob (m_goesOn μ396) fun _ μ398 =>
self (nI 1) μ398 else none else none else
ob (m_is (nI 10) μ271) fun r283 μ280 =>
if r283 = (nI 0) then
ob (m_is (nI 15) μ280) fun r311 μ308 =>
if r311 = (nI 0) then
ob (m_comesOut (nI 0) μ308) fun _ μ316 =>
if inB (mI μ316 55 0 11) 403 = true then
if inB (mI μ316 55 0 46) 64 = true then
mb (stI μ316 85 0 (cl (mI μ316 55 0 46)) (mI μ316 58 0 (cl (mI μ316 55 0 11)))) fun μ325 =>
mb (stI μ325 55 0 46 ((mI μ325 55 0 46) + (nI 1))) fun μ327 =>
ob (m_goesOn μ327) fun _ μ329 =>
self (nI 1) μ329 else none else none else
ob (m_comesOut (nI 1) μ308) fun _ μ336 =>
if inB (mI μ336 55 0 11) 403 = true then
if inB (mI μ336 55 0 46) 64 = true then
mb (stI μ336 85 0 (cl (mI μ336 55 0 46)) (mI μ336 58 0 (cl (mI μ336 55 0 11)))) fun μ345 =>
mb (stI μ345 55 0 46 ((mI μ345 55 0 46) + (nI 1))) fun μ347 =>
ob (m_goesOn μ347) fun _ μ349 =>
self (nI 1) μ349 else none else none else
ob (m_comesOut (nI 1) μ280) fun _ μ288 =>
if inB (mI μ288 55 0 11) 403 = true then
if inB (mI μ288 55 0 46) 64 = true then
mb (stI μ288 85 0 (cl (mI μ288 55 0 46)) (mI μ288 58 0 (cl (mI μ288 55 0 11)))) fun μ297 =>
mb (stI μ297 55 0 46 ((mI μ297 55 0 46) + (nI 1))) fun μ299 =>
ob (m_goesOn μ299) fun _ μ301 =>
self (nI 1) μ301 else none else none else
ob (m_is (nI 10) μ184) fun r196 μ193 =>
if r196 = (nI 0) then
ob (m_is (nI 15) μ193) fun r224 μ221 =>
if r224 = (nI 0) then
ob (m_comesOut (nI 0) μ221) fun _ μ229 =>
if inB (mI μ229 55 0 11) 403 = true then
if inB (mI μ229 55 0 46) 64 = true then
mb (stI μ229 85 0 (cl (mI μ229 55 0 46)) (mI μ229 58 0 (cl (mI μ229 55 0 11)))) fun μ238 =>
mb (stI μ238 55 0 46 ((mI μ238 55 0 46) + (nI 1))) fun μ240 =>
ob (m_goesOn μ240) fun _ μ242 =>
self (nI 1) μ242 else none else none else
ob (m_comesOut (nI 1) μ221) fun _ μ249 =>
if inB (mI μ249 55 0 11) 403 = true then
if inB (mI μ249 55 0 46) 64 = true then
mb (stI μ249 85 0 (cl (mI μ249 55 0 46)) (mI μ249 58 0 (cl (mI μ249 55 0 11)))) fun μ258 =>
mb (stI μ258 55 0 46 ((mI μ258 55 0 46) + (nI 1))) fun μ260 =>
ob (m_goesOn μ260) fun _ μ262 =>
self (nI 1) μ262 else none else none else
ob (m_comesOut (nI 1) μ193) fun _ μ201 =>
if inB (mI μ201 55 0 11) 403 = true then
if inB (mI μ201 55 0 46) 64 = true then
mb (stI μ201 85 0 (cl (mI μ201 55 0 46)) (mI μ201 58 0 (cl (mI μ201 55 0 11)))) fun μ210 =>
mb (stI μ210 55 0 46 ((mI μ210 55 0 46) + (nI 1))) fun μ212 =>
ob (m_goesOn μ212) fun _ μ214 =>
self (nI 1) μ214 else none else none else
ob (m_is (nI 10) μ97) fun r109 μ106 =>
if r109 = (nI 0) then
ob (m_is (nI 15) μ106) fun r137 μ134 =>
if r137 = (nI 0) then
ob (m_comesOut (nI 0) μ134) fun _ μ142 =>
if inB (mI μ142 55 0 11) 403 = true then
if inB (mI μ142 55 0 46) 64 = true then
mb (stI μ142 85 0 (cl (mI μ142 55 0 46)) (mI μ142 58 0 (cl (mI μ142 55 0 11)))) fun μ151 =>
mb (stI μ151 55 0 46 ((mI μ151 55 0 46) + (nI 1))) fun μ153 =>
ob (m_goesOn μ153) fun _ μ155 =>
self (nI 1) μ155 else none else none else
ob (m_comesOut (nI 1) μ134) fun _ μ162 =>
if inB (mI μ162 55 0 11) 403 = true then
if inB (mI μ162 55 0 46) 64 = true then
mb (stI μ162 85 0 (cl (mI μ162 55 0 46)) (mI μ162 58 0 (cl (mI μ162 55 0 11)))) fun μ171 =>
mb (stI μ171 55 0 46 ((mI μ171 55 0 46) + (nI 1))) fun μ173 =>
ob (m_goesOn μ173) fun _ μ175 =>
self (nI 1) μ175 else none else none else
ob (m_comesOut (nI 1) μ106) fun _ μ114 =>
if inB (mI μ114 55 0 11) 403 = true then
if inB (mI μ114 55 0 46) 64 = true then
mb (stI μ114 85 0 (cl (mI μ114 55 0 46)) (mI μ114 58 0 (cl (mI μ114 55 0 11)))) fun μ123 =>
mb (stI μ123 55 0 46 ((mI μ123 55 0 46) + (nI 1))) fun μ125 =>
ob (m_goesOn μ125) fun _ μ127 =>
self (nI 1) μ127 else none else none) μ57 else
some ((), μ57)) μ else
some ((), μ)
def m_expression_L12 (x1 : Int32) (k204 : Mem → Option (Unit × Mem)) : Int32 → Mem → Option (Unit × Mem) := fixN (fun _ _ => none) (m_expression_B12 x1 k204) 60000
def m_expression  (μ : Mem) : Option (Unit × Mem) :=
m_expression_L12 (mI (stI μ 55 0 46 (nI 0)) 55 0 12) (fun  (μ460 : Mem) =>
ob (m_comesOut (nI 0) μ460) fun _ μ464 =>
some ((), μ464)) (nI 1) (stI μ 55 0 46 (nI 0))
-- SluiceLogsModel.term()V
def m_term  (μ : Mem) : Option (Unit × Mem) :=
if inB (mI μ 55 0 36) 260 = true then
mb (stI μ 81 0 (cl (mI μ 55 0 36)) (mI μ 55 0 42)) fun μ3 =>
if (mI μ3 55 0 13) = (nI 0) then
ob (m_expression μ3) fun _ μ14 =>
if inB (mI μ14 55 0 36) 260 = true then
mb (stI μ14 82 0 (cl (mI μ14 55 0 36)) (mI μ14 55 0 42)) fun μ21 =>
mb (stI μ21 55 0 36 ((mI μ21 55 0 36) + (nI 1))) fun μ23 =>
some ((), μ23) else none else
if inB (mI μ3 55 0 36) 260 = true then
mb (stI μ3 82 0 (cl (mI μ3 55 0 36)) (mI μ3 55 0 42)) fun μ10 =>
mb (stI μ10 55 0 36 ((mI μ10 55 0 36) + (nI 1))) fun μ12 =>
some ((), μ12) else none else none
-- SluiceLogsModel.tellLaw(I)V
def m_tellLaw_B12 (x1 : Int32) (x2 : Int32) (k129 : Mem → Option (Unit × Mem)) (self : Int32 → Mem → Option (Unit × Mem)) (x3 : Int32) (μ : Mem) : Option (Unit × Mem) :=
if (mI μ 55 0 13) = (nI 0) then
ob (m_is (nI 31) μ) fun r12 μ9 =>
if r12 = (nI 0) then
k129 μ9 else
if x3 = (nI 4) then
ob (m_fail (nI 2) μ9) fun _ μ98 =>
if (mI μ98 55 0 13) ≤ (nI 0) then
ob (m_goesOn μ98) fun _ μ106 =>
if inB (mI μ106 55 0 36) 260 = true then
mb (stI μ106 78 0 (cl (mI μ106 55 0 36)) ((nI 1) &&& 1)) fun μ113 =>
if inB (mI μ113 55 0 36) 260 = true then
mb (stI μ113 79 0 (cl (mI μ113 55 0 36)) (mI μ113 55 0 42)) fun μ117 =>
ob (m_expression μ117) fun _ μ119 =>
ob (m_must (nI 13) μ119) fun _ μ124 =>
if inB (mI μ124 55 0 36) 260 = true then
mb (stI μ124 80 0 (cl (mI μ124 55 0 36)) (mI μ124 55 0 42)) fun μ131 =>
if (mI μ131 55 0 13) = (nI 0) then
ob (m_expression μ131) fun _ μ154 =>
ob (m_must (nI 32) μ154) fun _ μ159 =>
ob (m_term μ159) fun _ μ164 =>
ob (m_must (nI 33) μ164) fun _ μ169 =>
self (x3 + (nI 1)) μ169 else
ob (m_must (nI 32) μ131) fun _ μ136 =>
ob (m_term μ136) fun _ μ141 =>
ob (m_must (nI 33) μ141) fun _ μ146 =>
self (x3 + (nI 1)) μ146 else none else none else none else
some ((), μ98) else
if (mI μ9 55 0 13) ≤ (nI 0) then
ob (m_goesOn μ9) fun _ μ23 =>
if inB (mI μ23 55 0 36) 260 = true then
mb (stI μ23 78 0 (cl (mI μ23 55 0 36)) ((nI 1) &&& 1)) fun μ30 =>
if inB (mI μ30 55 0 36) 260 = true then
mb (stI μ30 79 0 (cl (mI μ30 55 0 36)) (mI μ30 55 0 42)) fun μ34 =>
ob (m_expression μ34) fun _ μ36 =>
ob (m_must (nI 13) μ36) fun _ μ41 =>
if inB (mI μ41 55 0 36) 260 = true then
mb (stI μ41 80 0 (cl (mI μ41 55 0 36)) (mI μ41 55 0 42)) fun μ48 =>
if (mI μ48 55 0 13) = (nI 0) then
ob (m_expression μ48) fun _ μ71 =>
ob (m_must (nI 32) μ71) fun _ μ76 =>
ob (m_term μ76) fun _ μ81 =>
ob (m_must (nI 33) μ81) fun _ μ86 =>
self (x3 + (nI 1)) μ86 else
ob (m_must (nI 32) μ48) fun _ μ53 =>
ob (m_term μ53) fun _ μ58 =>
ob (m_must (nI 33) μ58) fun _ μ63 =>
self (x3 + (nI 1)) μ63 else none else none else none else
some ((), μ9) else
k129 μ
def m_tellLaw_L12 (x1 : Int32) (x2 : Int32) (k129 : Mem → Option (Unit × Mem)) : Int32 → Mem → Option (Unit × Mem) := fixN (fun _ _ => none) (m_tellLaw_B12 x1 x2 k129) 60000
def m_tellLaw (x1 : Int32) (μ : Mem) : Option (Unit × Mem) :=
ob (m_must (nI 5) μ) fun _ μ1 =>
m_tellLaw_L12 x1 (mI μ1 55 0 36) (fun  (μ183 : Mem) =>
if inB (mI μ183 55 0 36) 260 = true then
mb (stI μ183 78 0 (cl (mI μ183 55 0 36)) ((nI 0) &&& 1)) fun μ189 =>
ob (m_term μ189) fun _ μ191 =>
ob (m_must (nI 4) μ191) fun _ μ196 =>
if (mI μ196 55 0 13) ≤ (nI 0) then
if inB (((nI 4) * (mI μ196 55 0 19)) + x1) 8 = true then
mb (stI μ196 76 0 (cl (((nI 4) * (mI μ196 55 0 19)) + x1)) (mI μ1 55 0 36)) fun μ206 =>
if inB (((nI 4) * (mI μ206 55 0 19)) + x1) 8 = true then
mb (stI μ206 77 0 (cl (((nI 4) * (mI μ206 55 0 19)) + x1)) (mI μ206 55 0 36)) fun μ210 =>
some ((), μ210) else none else none else
some ((), μ196) else none) (nI 0) μ1
-- SluiceLogsModel.tellOne()V
def m_tellOne  (μ : Mem) : Option (Unit × Mem) :=
if inB (mI μ 55 0 11) 403 = true then
if (mI μ 58 0 (cl (mI μ 55 0 11))) = (nI 20) then
if inB (mI μ 55 0 19) 2 = true then
ob (m_roomFor (mI μ 65 0 (cl (mI μ 55 0 19))) (nI 4) μ) fun _ μ7 =>
if (mI μ7 55 0 13) ≤ (nI 0) then
ob (m_named μ7) fun r18 μ15 =>
if inB (mI μ15 55 0 19) 2 = true then
ob (m_endsName r18 (mI μ15 65 0 (cl (mI μ15 55 0 19))) μ15) fun _ μ22 =>
if (mI μ22 55 0 13) = (nI 0) then
if inB (mI μ22 55 0 19) 2 = true then
mb (stI μ22 65 0 (cl (mI μ22 55 0 19)) ((mI μ22 65 0 (cl (mI μ22 55 0 19))) + (nI 1))) fun μ32 =>
some ((), μ32) else none else
some ((), μ22) else none else
some ((), μ7) else none else
if (mI μ 58 0 (cl (mI μ 55 0 11))) = (nI 21) then
if inB (mI μ 55 0 19) 2 = true then
ob (m_roomFor (mI μ 66 0 (cl (mI μ 55 0 19))) (nI 6) μ) fun _ μ40 =>
if (mI μ40 55 0 13) = (nI 0) then
ob (m_tellField μ40) fun _ μ48 =>
some ((), μ48) else
some ((), μ40) else none else
if (mI μ 58 0 (cl (mI μ 55 0 11))) = (nI 22) then
if inB (mI μ 55 0 19) 2 = true then
ob (m_roomFor (mI μ 70 0 (cl (mI μ 55 0 19))) (nI 12) μ) fun _ μ58 =>
if (mI μ58 55 0 13) = (nI 0) then
ob (m_tellNotch μ58) fun _ μ66 =>
some ((), μ66) else
some ((), μ58) else none else
if (mI μ 58 0 (cl (mI μ 55 0 11))) = (nI 23) then
ob (m_goesOn μ) fun _ μ74 =>
ob (m_tellDrain μ74) fun _ μ79 =>
some ((), μ79) else
if (mI μ 58 0 (cl (mI μ 55 0 11))) = (nI 24) then
ob (m_goesOn μ) fun _ μ87 =>
ob (m_bounded (nI 1) (nI 9) μ87) fun r95 μ92 =>
if inB (mI μ87 55 0 19) 2 = true then
ob (m_must (nI 4) (stI μ92 74 0 (cl (mI μ87 55 0 19)) r95)) fun _ μ99 =>
some ((), μ99) else none else
if (mI μ 58 0 (cl (mI μ 55 0 11))) = (nI 30) then
ob (m_goesOn μ) fun _ μ108 =>
ob (m_bounded (nI 0) (nI 9999) μ108) fun r116 μ113 =>
if inB (mI μ108 55 0 19) 2 = true then
mb (stI μ113 75 0 (cl (mI μ108 55 0 19)) r116) fun μ120 =>
ob (m_must (nI 4) μ120) fun _ μ122 =>
some ((), μ122) else none else
vb (((mI μ 58 0 (cl (mI μ 55 0 11))) - (nI 26))) fun v131 : Int32 =>
if v131 < (nI 0) then
ob (m_fail (nI 1) μ) fun _ μ135 =>
if (mI μ135 55 0 13) ≤ (nI 0) then
ob (m_goesOn μ135) fun _ μ143 =>
ob (m_tellLaw v131 μ143) fun _ μ148 =>
some ((), μ148) else
some ((), μ135) else
if (mI μ 58 0 (cl (mI μ 55 0 11))) ≤ (nI 29) then
if (mI μ 55 0 13) ≤ (nI 0) then
ob (m_goesOn μ) fun _ μ162 =>
ob (m_tellLaw v131 μ162) fun _ μ167 =>
some ((), μ167) else
some ((), μ) else
ob (m_fail (nI 1) μ) fun _ μ174 =>
if (mI μ174 55 0 13) ≤ (nI 0) then
ob (m_goesOn μ174) fun _ μ182 =>
ob (m_tellLaw v131 μ182) fun _ μ187 =>
some ((), μ187) else
some ((), μ174) else none
-- SluiceLogsModel.fromLog(I)I
def m_fromLog (x1 : Int32) (μ : Mem) : Option (Int32 × Mem) :=
if inB (((nI 12) * (mI μ 55 0 18)) + x1) 24 = true then
some ((mI μ 71 0 (cl (((nI 12) * (mI μ 55 0 18)) + x1))), μ) else none
-- SluiceLogsModel.toWhere(I)I
def m_toWhere (x1 : Int32) (μ : Mem) : Option (Int32 × Mem) :=
if inB (((nI 12) * (mI μ 55 0 18)) + x1) 24 = true then
some ((mI μ 72 0 (cl (((nI 12) * (mI μ 55 0 18)) + x1))), μ) else none
-- SluiceLogsModel.wideAt(I)I
def m_wideAt (x1 : Int32) (μ : Mem) : Option (Int32 × Mem) :=
if inB ((nI 18) + x1) 33 = true then
some ((mI μ 89 0 (cl ((nI 18) + x1))), μ) else none
-- SluiceLogsModel.fillsLeads()V
def m_fillsLeads_B2  (k20 : Mem → Option (Unit × Mem)) (self : Int32 → Mem → Option (Unit × Mem)) (x1 : Int32) (μ : Mem) : Option (Unit × Mem) :=
if (nI 4) ≤ x1 then
k20 μ else
if inB x1 4 = true then
self (x1 + (nI 1)) (stI μ 90 0 (cl x1) (nI 0)) else none
def m_fillsLeads_L2  (k20 : Mem → Option (Unit × Mem)) : Int32 → Mem → Option (Unit × Mem) := fixN (fun _ _ => none) (m_fillsLeads_B2 k20) 60000
def m_fillsLeads_B22  (k41 : Mem → Option (Unit × Mem)) (self : Int32 → Mem → Option (Unit × Mem)) (x1 : Int32) (μ : Mem) : Option (Unit × Mem) :=
if (nI 16) ≤ x1 then
k41 μ else
if inB x1 16 = true then
self (x1 + (nI 1)) (stI μ 91 0 (cl x1) (nI 0)) else none
def m_fillsLeads_L22  (k41 : Mem → Option (Unit × Mem)) : Int32 → Mem → Option (Unit × Mem) := fixN (fun _ _ => none) (m_fillsLeads_B22 k41) 60000
def m_fillsLeads_B43   (self : Int32 → Mem → Option (Unit × Mem)) (x1 : Int32) (μ : Mem) : Option (Unit × Mem) :=
if inB (mI μ 55 0 18) 2 = true then
if (mI μ 70 0 (cl (mI μ 55 0 18))) ≤ x1 then
some ((), μ) else
ob (m_fromLog x1 μ) fun r27 μ24 =>
ob (m_toWhere x1 μ24) fun r32 μ29 =>
ob (m_wideAt x1 μ29) fun r37 μ34 =>
if inB r27 4 = true then
mb (stI μ34 90 0 (cl r27) ((mI μ34 90 0 (cl r27)) + r37)) fun μ41 =>
if (nI 10) ≤ r32 then
if (nI 20) ≤ r32 then
self (x1 + (nI 1)) μ41 else
if inB (r32 - (nI 10)) 33 = true then
if (mI μ41 89 0 (cl (r32 - (nI 10)))) < (nI 0) then
self (x1 + (nI 1)) μ41 else
if inB (((nI 4) * r27) + (mI μ41 89 0 (cl (r32 - (nI 10))))) 16 = true then
if inB (r32 - (nI 4)) 33 = true then
mb (stI μ41 91 0 (cl (((nI 4) * r27) + (mI μ41 89 0 (cl (r32 - (nI 10)))))) ((mI μ41 91 0 (cl (((nI 4) * r27) + (mI μ41 89 0 (cl (r32 - (nI 10))))))) + (r37 * (mI μ41 89 0 (cl (r32 - (nI 4))))))) fun μ58 =>
self (x1 + (nI 1)) μ58 else none else none else none else
if inB (((nI 4) * r27) + r32) 16 = true then
mb (stI μ41 91 0 (cl (((nI 4) * r27) + r32)) ((mI μ41 91 0 (cl (((nI 4) * r27) + r32))) + ((nI 4) * r37))) fun μ62 =>
self (x1 + (nI 1)) μ62 else none else none else none
def m_fillsLeads_L43   : Int32 → Mem → Option (Unit × Mem) := fixN (fun _ _ => none) (m_fillsLeads_B43 ) 60000
def m_fillsLeads  (μ : Mem) : Option (Unit × Mem) :=
m_fillsLeads_L2 (fun  (μ6 : Mem) =>
m_fillsLeads_L22 (fun  (μ15 : Mem) =>
m_fillsLeads_L43  (nI 0) μ15) (nI 0) μ6) (nI 0) μ
-- SluiceLogsModel.comesBy(I)I
def m_comesBy_B14 (x3 : Int32) (k58 : Int32 → Mem → Option (Int32 × Mem)) (self : Int32 → Int32 → Mem → Option (Int32 × Mem)) (x2 : Int32) (x4 : Int32) (μ : Mem) : Option (Int32 × Mem) :=
if (nI 16) ≤ x4 then
k58 x2 μ else
if ((x3 >>> ((x4 / (nI 4)) &&& 31)) &&& (nI 1)) = (nI 1) then
if inB x4 16 = true then
if (mI μ 91 0 (cl x4)) ≤ (nI 0) then
self x2 (x4 + (nI 1)) μ else
vb ((x2 ||| ((nI 1) <<< ((irm x4 (nI 4)) &&& 31)))) fun v15 : Int32 =>
self v15 (x4 + (nI 1)) μ else none else
self x2 (x4 + (nI 1)) μ
def m_comesBy_L14 (x3 : Int32) (k58 : Int32 → Mem → Option (Int32 × Mem)) : Int32 → Int32 → Mem → Option (Int32 × Mem) := fixN (fun _ _ _ => none) (m_comesBy_B14 x3 k58) 60000
def m_comesBy_B4   (self : Int32 → Int32 → Mem → Option (Int32 × Mem)) (x2 : Int32) (x3 : Int32) (μ : Mem) : Option (Int32 × Mem) :=
if x2 = x3 then
some (x2, μ) else
m_comesBy_L14 x2 (fun (x16 : Int32) (μ17 : Mem) =>
self x16 x2 μ17) x2 (nI 0) μ
def m_comesBy_L4   : Int32 → Int32 → Mem → Option (Int32 × Mem) := fixN (fun _ _ _ => none) (m_comesBy_B4 ) 60000
def m_comesBy (x1 : Int32) (μ : Mem) : Option (Int32 × Mem) :=
m_comesBy_L4  x1 (nI 0) μ
-- SluiceLogsModel.isOut(I)Z
def m_isOut_B13 (x1 : Int32)  (self : Int32 → Mem → Option (Int32 × Mem)) (x2 : Int32) (μ : Mem) : Option (Int32 × Mem) :=
if inB (mI μ 55 0 18) 2 = true then
if (mI μ 70 0 (cl (mI μ 55 0 18))) ≤ x2 then
some ((nI 0), μ) else
ob (m_fromLog x2 μ) fun r14 μ11 =>
if r14 = x1 then
ob (m_wideAt x2 μ11) fun r22 μ19 =>
if r22 ≤ (nI 0) then
self (x2 + (nI 1)) μ19 else
ob (m_toWhere x2 μ19) fun r30 μ27 =>
if r30 < (nI 10) then
self (x2 + (nI 1)) μ27 else
some ((nI 1), μ27) else
self (x2 + (nI 1)) μ11 else none
def m_isOut_L13 (x1 : Int32)  : Int32 → Mem → Option (Int32 × Mem) := fixN (fun _ _ => none) (m_isOut_B13 x1) 60000
def m_isOut (x1 : Int32) (μ : Mem) : Option (Int32 × Mem) :=
if inB x1 4 = true then
if (mI μ 90 0 (cl x1)) = (nI 0) then
some ((nI 1), μ) else
m_isOut_L13 x1  (nI 0) μ else none
-- SluiceLogsModel.outBits()I
def m_outBits_B4   (self : Int32 → Int32 → Mem → Option (Int32 × Mem)) (x1 : Int32) (x2 : Int32) (μ : Mem) : Option (Int32 × Mem) :=
if inB (mI μ 55 0 18) 2 = true then
if (mI μ 65 0 (cl (mI μ 55 0 18))) ≤ x2 then
some (x1, μ) else
ob (m_isOut x2 μ) fun r9 μ6 =>
if r9 = (nI 0) then
self x1 (x2 + (nI 1)) μ6 else
self (x1 ||| ((nI 1) <<< (x2 &&& 31))) (x2 + (nI 1)) μ6 else none
def m_outBits_L4   : Int32 → Int32 → Mem → Option (Int32 × Mem) := fixN (fun _ _ _ => none) (m_outBits_B4 ) 60000
def m_outBits  (μ : Mem) : Option (Int32 × Mem) :=
m_outBits_L4  (nI 0) (nI 0) μ
-- SluiceLogsModel.isShut(I)Z
def m_isShut_B2 (x1 : Int32)  (self : Int32 → Mem → Option (Int32 × Mem)) (x2 : Int32) (μ : Mem) : Option (Int32 × Mem) :=
if inB (mI μ 55 0 18) 2 = true then
if (mI μ 65 0 (cl (mI μ 55 0 18))) ≤ x2 then
some ((nI 0), μ) else
if ((x1 >>> (x2 &&& 31)) &&& (nI 1)) = (nI 1) then
ob (m_comesBy ((nI 1) <<< (x2 &&& 31)) μ) fun r12 μ9 =>
ob (m_outBits μ9) fun r17 μ14 =>
if (r12 &&& r17) = (nI 0) then
some ((nI 1), μ14) else
self (x2 + (nI 1)) μ14 else
self (x2 + (nI 1)) μ else none
def m_isShut_L2 (x1 : Int32)  : Int32 → Mem → Option (Int32 × Mem) := fixN (fun _ _ => none) (m_isShut_B2 x1) 60000
def m_isShut (x1 : Int32) (μ : Mem) : Option (Int32 × Mem) :=
m_isShut_L2 x1  (nI 0) μ
-- SluiceLogsModel.fillsTable(I)V
def m_fillsTable_B2 (x1 : Int32) (k32 : Mem → Option (Unit × Mem)) (self : Int32 → Mem → Option (Unit × Mem)) (x2 : Int32) (μ : Mem) : Option (Unit × Mem) :=
if (nI 20) ≤ x2 then
k32 μ else
if (irm x2 (nI 6)) = (nI 0) then
if inB x2 20 = true then
self (x2 + (nI 1)) (stL μ 93 0 (cl x2) (1 : Int64)) else none else
if inB x2 20 = true then
self (x2 + (nI 1)) (stL μ 93 0 (cl x2) (0 : Int64)) else none
def m_fillsTable_L2 (x1 : Int32) (k32 : Mem → Option (Unit × Mem)) : Int32 → Mem → Option (Unit × Mem) := fixN (fun _ _ => none) (m_fillsTable_B2 x1 k32) 60000
def m_fillsTable_B91 (x1 : Int32) (x2 : Int32) (k143 : Mem → Option (Unit × Mem)) (self : Int32 → Mem → Option (Unit × Mem)) (x3 : Int32) (μ : Mem) : Option (Unit × Mem) :=
if inB (mI μ 55 0 18) 2 = true then
if (mI μ 65 0 (cl (mI μ 55 0 18))) ≤ x3 then
k143 μ else
if ((x1 >>> (x3 &&& 31)) &&& (nI 1)) = (nI 1) then
if inB (((nI 5) * x2) + x3) 20 = true then
if inB (((nI 4) * x3) + x2) 16 = true then
mb (stL μ 93 0 (cl (((nI 5) * x2) + x3)) ((mL μ 93 0 (cl (((nI 5) * x2) + x3))) - (Int32.toInt64 (mI μ 91 0 (cl (((nI 4) * x3) + x2)))))) fun μ44 =>
self (x3 + (nI 1)) μ44 else none else none else
self (x3 + (nI 1)) μ else none
def m_fillsTable_L91 (x1 : Int32) (x2 : Int32) (k143 : Mem → Option (Unit × Mem)) : Int32 → Mem → Option (Unit × Mem) := fixN (fun _ _ => none) (m_fillsTable_B91 x1 x2 k143) 60000
def m_fillsTable_B34 (x1 : Int32) (k149 : Mem → Option (Unit × Mem)) (self : Int32 → Mem → Option (Unit × Mem)) (x2 : Int32) (μ : Mem) : Option (Unit × Mem) :=
if inB (mI μ 55 0 18) 2 = true then
if (mI μ 65 0 (cl (mI μ 55 0 18))) ≤ x2 then
k149 μ else
if ((x1 >>> (x2 &&& 31)) &&& (nI 1)) = (nI 0) then
self (x2 + (nI 1)) μ else
if inB x2 4 = true then
if (mI μ 90 0 (cl x2)) = (nI 0) then
if inB ((nI 6) * x2) 20 = true then
mb (stL μ 93 0 (cl ((nI 6) * x2)) (Int32.toInt64 ((nI 4) * (nI 1)))) fun μ52 =>
m_fillsTable_L91 x1 x2 (fun  (μ54 : Mem) =>
self (x2 + (nI 1)) μ54) (nI 0) μ52 else none else
if inB ((nI 6) * x2) 20 = true then
mb (stL μ 93 0 (cl ((nI 6) * x2)) (Int32.toInt64 ((nI 4) * (mI μ 90 0 (cl x2))))) fun μ30 =>
m_fillsTable_L91 x1 x2 (fun  (μ46 : Mem) =>
self (x2 + (nI 1)) μ46) (nI 0) μ30 else none else none else none
def m_fillsTable_L34 (x1 : Int32) (k149 : Mem → Option (Unit × Mem)) : Int32 → Mem → Option (Unit × Mem) := fixN (fun _ _ => none) (m_fillsTable_B34 x1 k149) 60000
def m_fillsTable (x1 : Int32) (μ : Mem) : Option (Unit × Mem) :=
m_fillsTable_L2 x1 (fun  (μ11 : Mem) =>
m_fillsTable_L34 x1 (fun  (μ58 : Mem) =>
mb (stL μ58 93 0 4 (Int32.toInt64 (mI μ58 89 0 30))) fun μ62 =>
some ((), μ62)) (nI 0) μ11) (nI 0) μ
-- SluiceLogsModel.clears(IJ)V
def m_clears_B36 (x1 : Int32) (x2 : Int64) (x4 : Int64) (x6 : Int32) (x7 : Int64) (k98 : Mem → Option (Unit × Mem)) (self : Int32 → Mem → Option (Unit × Mem)) (x9 : Int32) (μ : Mem) : Option (Unit × Mem) :=
if (nI 5) ≤ x9 then
k98 μ else
if x6 = x1 then
k98 μ else
if inB (((nI 5) * x6) + x9) 20 = true then
if inB (((nI 5) * x1) + x9) 20 = true then
if ¬ x2 = 0 then
mb (stL μ 93 0 (cl (((nI 5) * x6) + x9)) ((((mL μ 93 0 (cl (((nI 5) * x6) + x9))) * x4) - (x7 * (mL μ 93 0 (cl (((nI 5) * x1) + x9))))) / x2)) fun μ20 =>
self (x9 + (nI 1)) μ20 else none else none else none
def m_clears_L36 (x1 : Int32) (x2 : Int64) (x4 : Int64) (x6 : Int32) (x7 : Int64) (k98 : Mem → Option (Unit × Mem)) : Int32 → Mem → Option (Unit × Mem) := fixN (fun _ _ => none) (m_clears_B36 x1 x2 x4 x6 x7 k98) 60000
def m_clears_B14 (x1 : Int32) (x2 : Int64) (x4 : Int64)  (self : Int32 → Mem → Option (Unit × Mem)) (x6 : Int32) (μ : Mem) : Option (Unit × Mem) :=
if (nI 4) ≤ x6 then
some ((), μ) else
if inB (((nI 5) * x6) + x1) 20 = true then
m_clears_L36 x1 x2 x4 x6 (mL μ 93 0 (cl (((nI 5) * x6) + x1))) (fun  (μ22 : Mem) =>
self (x6 + (nI 1)) μ22) (nI 0) μ else none
def m_clears_L14 (x1 : Int32) (x2 : Int64) (x4 : Int64)  : Int32 → Mem → Option (Unit × Mem) := fixN (fun _ _ => none) (m_clears_B14 x1 x2 x4) 60000
def m_clears (x1 : Int32) (x2 : Int64) (μ : Mem) : Option (Unit × Mem) :=
if inB ((nI 6) * x1) 20 = true then
m_clears_L14 x1 x2 (mL μ 93 0 (cl ((nI 6) * x1)))  (nI 0) μ else none
-- SluiceLogsModel.parts()V
def m_parts_B12  (k30 : Mem → Option (Unit × Mem)) (self : Int32 → Mem → Option (Unit × Mem)) (x1 : Int32) (μ : Mem) : Option (Unit × Mem) :=
if (nI 4) ≤ x1 then
k30 μ else
if inB x1 4 = true then
self (x1 + (nI 1)) (stL μ 92 0 (cl x1) (0 : Int64)) else none
def m_parts_L12  (k30 : Mem → Option (Unit × Mem)) : Int32 → Mem → Option (Unit × Mem) := fixN (fun _ _ => none) (m_parts_B12 k30) 60000
def m_parts_B77 (x1 : Int32) (k112 : Mem → Option (Unit × Mem)) (self : Int32 → Mem → Option (Unit × Mem)) (x2 : Int32) (μ : Mem) : Option (Unit × Mem) :=
if (nI 4) ≤ x2 then
k112 μ else
if inB ((nI 6) * x2) 20 = true then
ob (m_clears x2 (mL μ 55 0 57) μ) fun _ μ47 =>
mb (stL μ47 55 0 57 (mL μ 93 0 (cl ((nI 6) * x2)))) fun μ52 =>
self (x2 + (nI 1)) μ52 else none
def m_parts_L77 (x1 : Int32) (k112 : Mem → Option (Unit × Mem)) : Int32 → Mem → Option (Unit × Mem) := fixN (fun _ _ => none) (m_parts_B77 x1 k112) 60000
def m_parts_B114 (x1 : Int32)  (self : Int32 → Mem → Option (Unit × Mem)) (x2 : Int32) (μ : Mem) : Option (Unit × Mem) :=
if (nI 4) ≤ x2 then
some ((), μ) else
if ((x1 >>> (x2 &&& 31)) &&& (nI 1)) = (nI 1) then
if inB (((nI 5) * x2) + (nI 4)) 20 = true then
if inB x2 4 = true then
mb (stL μ 92 0 (cl x2) (mL μ 93 0 (cl (((nI 5) * x2) + (nI 4))))) fun μ71 =>
self (x2 + (nI 1)) μ71 else none else none else
if inB x2 4 = true then
self (x2 + (nI 1)) (stL μ 92 0 (cl x2) (0 : Int64)) else none
def m_parts_L114 (x1 : Int32)  : Int32 → Mem → Option (Unit × Mem) := fixN (fun _ _ => none) (m_parts_B114 x1) 60000
def m_parts  (μ : Mem) : Option (Unit × Mem) :=
mb (stL (stI μ 55 0 56 (nI 0)) 55 0 57 (1 : Int64)) fun μ1 =>
m_parts_L12 (fun  (μ8 : Mem) =>
if inB (mI μ8 55 0 18) 2 = true then
if (mI μ8 65 0 (cl (mI μ8 55 0 18))) = (nI 0) then
some ((), μ8) else
ob (m_fillsLeads μ8) fun _ μ17 =>
ob (m_comesBy (nI 1) μ17) fun r25 μ22 =>
ob (m_isShut r25 μ22) fun r30 μ27 =>
if r30 = nI 0 ∨ r30 = nI 1 then
if (mI (stI μ27 55 0 56 r30) 55 0 56) = (nI 0) then
ob (m_fillsTable r25 (stI μ27 55 0 56 r30)) fun _ μ37 =>
m_parts_L77 r25 (fun  (μ55 : Mem) =>
m_parts_L114 r25  (nI 0) μ55) (nI 0) μ37 else
some ((), (stI μ27 55 0 56 r30)) else none else none) (nI 0) μ1
-- SluiceLogsModel.begins()V
def m_begins_B2  (k21 : Mem → Option (Unit × Mem)) (self : Int32 → Mem → Option (Unit × Mem)) (x1 : Int32) (μ : Mem) : Option (Unit × Mem) :=
if (nI 33) ≤ x1 then
k21 μ else
if inB x1 33 = true then
self (x1 + (nI 1)) (stI μ 89 0 (cl x1) (nI 0)) else none
def m_begins_L2  (k21 : Mem → Option (Unit × Mem)) : Int32 → Mem → Option (Unit × Mem) := fixN (fun _ _ => none) (m_begins_B2 k21) 60000
def m_begins_B23  (k85 : Mem → Option (Unit × Mem)) (self : Int32 → Mem → Option (Unit × Mem)) (x1 : Int32) (μ : Mem) : Option (Unit × Mem) :=
if inB (mI μ 55 0 18) 2 = true then
if (mI μ 66 0 (cl (mI μ 55 0 18))) ≤ x1 then
k85 μ else
if inB (((nI 6) * (mI μ 55 0 18)) + x1) 12 = true then
if inB x1 33 = true then
mb (stI μ 89 0 (cl x1) (mI μ 68 0 (cl (((nI 6) * (mI μ 55 0 18)) + x1)))) fun μ19 =>
if inB (((nI 6) * (mI μ19 55 0 18)) + x1) 12 = true then
if inB ((nI 6) + x1) 33 = true then
mb (stI μ19 89 0 (cl ((nI 6) + x1)) (mI μ19 69 0 (cl (((nI 6) * (mI μ19 55 0 18)) + x1)))) fun μ25 =>
self (x1 + (nI 1)) μ25 else none else none else none else none else none
def m_begins_L23  (k85 : Mem → Option (Unit × Mem)) : Int32 → Mem → Option (Unit × Mem) := fixN (fun _ _ => none) (m_begins_B23 k85) 60000
def m_begins_B87  (k129 : Mem → Option (Unit × Mem)) (self : Int32 → Mem → Option (Unit × Mem)) (x1 : Int32) (μ : Mem) : Option (Unit × Mem) :=
if inB (mI μ 55 0 18) 2 = true then
if (mI μ 70 0 (cl (mI μ 55 0 18))) ≤ x1 then
k129 μ else
if inB (((nI 12) * (mI μ 55 0 18)) + x1) 24 = true then
if inB ((nI 18) + x1) 33 = true then
mb (stI μ 89 0 (cl ((nI 18) + x1)) (mI μ 73 0 (cl (((nI 12) * (mI μ 55 0 18)) + x1)))) fun μ40 =>
self (x1 + (nI 1)) μ40 else none else none else none
def m_begins_L87  (k129 : Mem → Option (Unit × Mem)) : Int32 → Mem → Option (Unit × Mem) := fixN (fun _ _ => none) (m_begins_B87 k129) 60000
def m_begins  (μ : Mem) : Option (Unit × Mem) :=
m_begins_L2 (fun  (μ6 : Mem) =>
m_begins_L23 (fun  (μ27 : Mem) =>
m_begins_L87 (fun  (μ42 : Mem) =>
if inB (mI μ42 55 0 18) 2 = true then
mb (stI μ42 89 0 30 (mI μ42 74 0 (cl (mI μ42 55 0 18)))) fun μ48 =>
if inB (mI μ48 55 0 18) 2 = true then
mb (stI μ48 55 0 52 (mI μ48 75 0 (cl (mI μ48 55 0 18)))) fun μ52 =>
ob (m_parts (stI μ52 55 0 53 (nI 0))) fun _ μ54 =>
some ((), μ54) else none else none) (nI 0) μ27) (nI 0) μ6) (nI 0) μ
-- SluiceLogsModel.keepsRow()V
def m_keepsRow_B2   (self : Int32 → Mem → Option (Unit × Mem)) (x1 : Int32) (μ : Mem) : Option (Unit × Mem) :=
if (nI 33) ≤ x1 then
some ((), μ) else
if inB x1 33 = true then
self (x1 + (nI 1)) (stI μ 88 0 (cl x1) (mI μ 89 0 (cl x1))) else none
def m_keepsRow_L2   : Int32 → Mem → Option (Unit × Mem) := fixN (fun _ _ => none) (m_keepsRow_B2 ) 60000
def m_keepsRow  (μ : Mem) : Option (Unit × Mem) :=
m_keepsRow_L2  (nI 0) μ
-- SluiceLogsModel.read()I
def m_read_B10  (k36 : Mem → Option (Int32 × Mem)) (self : Int32 → Mem → Option (Int32 × Mem)) (x1 : Int32) (μ : Mem) : Option (Int32 × Mem) :=
if (mI μ 55 0 4) ≤ x1 then
k36 μ else
if inB x1 2000 = true then
mb (stI μ 57 0 (cl x1) (Int8.toInt32 (Int32.toInt8 (mI μ 56 0 (cl x1))))) fun μ6 =>
self (x1 + (nI 1)) μ6 else none
def m_read_L10  (k36 : Mem → Option (Int32 × Mem)) : Int32 → Mem → Option (Int32 × Mem) := fixN (fun _ _ => none) (m_read_B10 k36) 60000
def m_read_B112  (k134 : Mem → Option (Int32 × Mem)) (self : Mem → Option (Int32 × Mem))  (μ : Mem) : Option (Int32 × Mem) :=
if (mI μ 55 0 13) = (nI 0) then
ob (m_is (nI 0) μ) fun r38 μ35 =>
if r38 = (nI 0) then
ob (m_tellOne μ35) fun _ μ43 =>
self μ43 else
k134 μ35 else
k134 μ
def m_read_L112  (k134 : Mem → Option (Int32 × Mem)) : Mem → Option (Int32 × Mem) := fixN (fun _ => none) (m_read_B112 k134) 60000
def m_read_B219   (self : Int32 → Mem → Option (Int32 × Mem)) (x1 : Int32) (μ : Mem) : Option (Int32 × Mem) :=
if (nI 3) ≤ x1 then
some ((nI 0), μ) else
if inB x1 3 = true then
self (x1 + (nI 1)) (stI μ 102 0 (cl x1) ((nI 0) &&& 1)) else none
def m_read_L219   : Int32 → Mem → Option (Int32 × Mem) := fixN (fun _ _ => none) (m_read_B219 ) 60000
def m_read  (μ : Mem) : Option (Int32 × Mem) :=
m_read_L10 (fun  (μ8 : Mem) =>
ob (m_cut (stI μ8 55 0 2 (nI 0))) fun _ μ12 =>
mb (stI (stI μ12 55 0 11 (nI 0)) 55 0 12 (nI 0)) fun μ17 =>
mb (stI (stI μ17 55 0 13 (nI 0)) 55 0 15 (nI 0)) fun μ19 =>
mb (stI μ19 55 0 19 ((nI 1) - (mI μ19 55 0 18))) fun μ21 =>
ob (m_plain (mI (stI μ21 55 0 20 (nI 0)) 55 0 19) (stI μ21 55 0 20 (nI 0))) fun _ μ23 =>
mb (stI μ23 55 0 36 ((nI 130) * (mI μ23 55 0 19))) fun μ28 =>
mb (stI μ28 55 0 42 ((nI 420) * (mI μ28 55 0 19))) fun μ30 =>
m_read_L112 (fun  (μ50 : Mem) =>
if (mI μ50 55 0 13) ≤ (nI 0) then
if (mI μ50 55 0 15) ≤ (nI 0) then
if (mI (stI μ50 55 0 17 (-1 : Int32)) 55 0 13) ≤ (nI 0) then
if (mI (stI μ50 55 0 17 (-1 : Int32)) 55 0 15) ≤ (nI 0) then
mb (stI (stI μ50 55 0 17 (-1 : Int32)) 55 0 18 (mI (stI μ50 55 0 17 (-1 : Int32)) 55 0 19)) fun μ66 =>
ob (m_begins μ66) fun _ μ68 =>
ob (m_keepsRow μ68) fun _ μ73 =>
mb (stI (stI μ73 55 0 61 (nI 0)) 55 0 67 (nI 0)) fun μ78 =>
m_read_L219  (nI 0) μ78 else
some ((mI (stI μ50 55 0 17 (-1 : Int32)) 55 0 15), (stI μ50 55 0 17 (-1 : Int32))) else
some ((mI (stI μ50 55 0 17 (-1 : Int32)) 55 0 13), (stI μ50 55 0 17 (-1 : Int32))) else
if (mI (stI μ50 55 0 17 (mI μ50 55 0 16)) 55 0 13) ≤ (nI 0) then
if (mI (stI μ50 55 0 17 (mI μ50 55 0 16)) 55 0 15) ≤ (nI 0) then
mb (stI (stI μ50 55 0 17 (mI μ50 55 0 16)) 55 0 18 (mI (stI μ50 55 0 17 (mI μ50 55 0 16)) 55 0 19)) fun μ93 =>
ob (m_begins μ93) fun _ μ95 =>
ob (m_keepsRow μ95) fun _ μ100 =>
mb (stI (stI μ100 55 0 61 (nI 0)) 55 0 67 (nI 0)) fun μ105 =>
m_read_L219  (nI 0) μ105 else
some ((mI (stI μ50 55 0 17 (mI μ50 55 0 16)) 55 0 15), (stI μ50 55 0 17 (mI μ50 55 0 16))) else
some ((mI (stI μ50 55 0 17 (mI μ50 55 0 16)) 55 0 13), (stI μ50 55 0 17 (mI μ50 55 0 16))) else
if (mI (stI μ50 55 0 17 (mI μ50 55 0 14)) 55 0 13) ≤ (nI 0) then
if (mI (stI μ50 55 0 17 (mI μ50 55 0 14)) 55 0 15) ≤ (nI 0) then
mb (stI (stI μ50 55 0 17 (mI μ50 55 0 14)) 55 0 18 (mI (stI μ50 55 0 17 (mI μ50 55 0 14)) 55 0 19)) fun μ115 =>
ob (m_begins μ115) fun _ μ117 =>
ob (m_keepsRow μ117) fun _ μ122 =>
mb (stI (stI μ122 55 0 61 (nI 0)) 55 0 67 (nI 0)) fun μ127 =>
m_read_L219  (nI 0) μ127 else
some ((mI (stI μ50 55 0 17 (mI μ50 55 0 14)) 55 0 15), (stI μ50 55 0 17 (mI μ50 55 0 14))) else
some ((mI (stI μ50 55 0 17 (mI μ50 55 0 14)) 55 0 13), (stI μ50 55 0 17 (mI μ50 55 0 14)))) μ30) (nI 0) (stI μ 55 0 4 (mI μ 55 0 2))
-- SluiceLogsModel.place()I
def m_place  (μ : Mem) : Option (Int32 × Mem) :=
some ((mI μ 55 0 17), μ)
-- SluiceLogsModel.termOf(II)I
def m_termOf_B5 (x2 : Int32)  (self : Int32 → Int32 → Mem → Option (Int32 × Mem)) (x3 : Int32) (x4 : Int32) (μ : Mem) : Option (Int32 × Mem) :=
if x2 ≤ x4 then
some ((mI μ 87 0 0), μ) else
if inB x4 840 = true then
if (nI 2) ≤ (mI μ 83 0 (cl x4)) then
if inB ((x3 + (-1 : Int32)) - (nI 1)) 400 = true then
vb ((mI μ 87 0 (cl ((x3 + (-1 : Int32)) - (nI 1))))) fun v11 : Int32 =>
if inB (x3 + (-1 : Int32)) 400 = true then
if (mI μ 83 0 (cl x4)) = (nI 5) then
if (mI μ 87 0 (cl (x3 + (-1 : Int32)))) = (nI 0) then
some ((nI 0), (stI μ 55 0 49 (nI 1))) else
if (mI μ 83 0 (cl x4)) = (nI 2) then
mb (stI μ 87 0 (cl ((x3 + (-1 : Int32)) - (nI 1))) (v11 + (mI μ 87 0 (cl (x3 + (-1 : Int32)))))) fun μ56 =>
self (x3 + (-1 : Int32)) (x4 + (nI 1)) μ56 else
if (mI μ 83 0 (cl x4)) = (nI 3) then
mb (stI μ 87 0 (cl ((x3 + (-1 : Int32)) - (nI 1))) (v11 - (mI μ 87 0 (cl (x3 + (-1 : Int32)))))) fun μ54 =>
self (x3 + (-1 : Int32)) (x4 + (nI 1)) μ54 else
if (mI μ 83 0 (cl x4)) = (nI 4) then
mb (stI μ 87 0 (cl ((x3 + (-1 : Int32)) - (nI 1))) (v11 * (mI μ 87 0 (cl (x3 + (-1 : Int32)))))) fun μ52 =>
self (x3 + (-1 : Int32)) (x4 + (nI 1)) μ52 else
if ¬ (mI μ 87 0 (cl (x3 + (-1 : Int32)))) = 0 then
mb (stI μ 87 0 (cl ((x3 + (-1 : Int32)) - (nI 1))) (v11 / (mI μ 87 0 (cl (x3 + (-1 : Int32)))))) fun μ50 =>
self (x3 + (-1 : Int32)) (x4 + (nI 1)) μ50 else none else
if (mI μ 83 0 (cl x4)) = (nI 2) then
mb (stI μ 87 0 (cl ((x3 + (-1 : Int32)) - (nI 1))) (v11 + (mI μ 87 0 (cl (x3 + (-1 : Int32)))))) fun μ34 =>
self (x3 + (-1 : Int32)) (x4 + (nI 1)) μ34 else
if (mI μ 83 0 (cl x4)) = (nI 3) then
mb (stI μ 87 0 (cl ((x3 + (-1 : Int32)) - (nI 1))) (v11 - (mI μ 87 0 (cl (x3 + (-1 : Int32)))))) fun μ32 =>
self (x3 + (-1 : Int32)) (x4 + (nI 1)) μ32 else
if (mI μ 83 0 (cl x4)) = (nI 4) then
mb (stI μ 87 0 (cl ((x3 + (-1 : Int32)) - (nI 1))) (v11 * (mI μ 87 0 (cl (x3 + (-1 : Int32)))))) fun μ30 =>
self (x3 + (-1 : Int32)) (x4 + (nI 1)) μ30 else
if ¬ (mI μ 87 0 (cl (x3 + (-1 : Int32)))) = 0 then
mb (stI μ 87 0 (cl ((x3 + (-1 : Int32)) - (nI 1))) (v11 / (mI μ 87 0 (cl (x3 + (-1 : Int32)))))) fun μ28 =>
self (x3 + (-1 : Int32)) (x4 + (nI 1)) μ28 else none else none else none else
if (mI μ 83 0 (cl x4)) = (nI 0) then
if inB x3 400 = true then
self (x3 + (nI 1)) (x4 + (nI 1)) (stI μ 87 0 (cl x3) (mI μ 84 0 (cl x4))) else none else
if inB (mI μ 84 0 (cl x4)) 9 = true then
if inB x3 400 = true then
mb (stI μ 87 0 (cl x3) (mI μ 86 0 (cl (mI μ 84 0 (cl x4))))) fun μ65 =>
self (x3 + (nI 1)) (x4 + (nI 1)) μ65 else none else none else none
def m_termOf_L5 (x2 : Int32)  : Int32 → Int32 → Mem → Option (Int32 × Mem) := fixN (fun _ _ _ => none) (m_termOf_B5 x2) 60000
def m_termOf (x1 : Int32) (x2 : Int32) (μ : Mem) : Option (Int32 × Mem) :=
m_termOf_L5 x2  (nI 0) x1 μ
-- SluiceLogsModel.in(III)Z
def m_in (x0 : Int32) (x1 : Int32) (x2 : Int32) (μ : Mem) : Option (Int32 × Mem) :=
if x0 < x1 then
some ((nI 0), μ) else
if x2 < x0 then
some ((nI 0), μ) else
some ((nI 1), μ)
-- SluiceLogsModel.within(III)I
def m_within (x0 : Int32) (x1 : Int32) (x2 : Int32) (μ : Mem) : Option (Int32 × Mem) :=
if x1 ≤ x0 then
if x0 ≤ x2 then
some (x0, μ) else
some (x2, μ) else
some (x1, μ)
-- SluiceLogsModel.bits(I)I
def m_bits_B4 (x0 : Int32)  (self : Int32 → Int32 → Mem → Option (Int32 × Mem)) (x1 : Int32) (x2 : Int32) (μ : Mem) : Option (Int32 × Mem) :=
if (nI 24) ≤ x2 then
some (x1, μ) else
vb ((x1 + ((x0 >>> (x2 &&& 31)) &&& (nI 1)))) fun v4 : Int32 =>
self v4 (x2 + (nI 1)) μ
def m_bits_L4 (x0 : Int32)  : Int32 → Int32 → Mem → Option (Int32 × Mem) := fixN (fun _ _ _ => none) (m_bits_B4 x0) 60000
def m_bits (x0 : Int32) (μ : Mem) : Option (Int32 × Mem) :=
m_bits_L4 x0  (nI 0) (nI 0) μ
-- SluiceLogsModel.isLog(I)Z
def m_isLog (x1 : Int32) (μ : Mem) : Option (Int32 × Mem) :=
if inB (mI μ 55 0 18) 2 = true then
ob (m_in x1 (nI 0) ((mI μ 65 0 (cl (mI μ 55 0 18))) - (nI 1)) μ) fun r6 μ3 =>
if r6 = nI 0 ∨ r6 = nI 1 then
some (r6, μ3) else none else none
-- SluiceLogsModel.isField(I)Z
def m_isField (x1 : Int32) (μ : Mem) : Option (Int32 × Mem) :=
if inB (mI μ 55 0 18) 2 = true then
ob (m_in x1 (nI 0) ((mI μ 66 0 (cl (mI μ 55 0 18))) - (nI 1)) μ) fun r6 μ3 =>
if r6 = nI 0 ∨ r6 = nI 1 then
some (r6, μ3) else none else none
-- SluiceLogsModel.isNotch(I)Z
def m_isNotch (x1 : Int32) (μ : Mem) : Option (Int32 × Mem) :=
if inB (mI μ 55 0 18) 2 = true then
ob (m_in x1 (nI 0) ((mI μ 70 0 (cl (mI μ 55 0 18))) - (nI 1)) μ) fun r6 μ3 =>
if r6 = nI 0 ∨ r6 = nI 1 then
some (r6, μ3) else none else none
-- SluiceLogsModel.copies()V
def m_copies_B2  (k26 : Mem → Option (Unit × Mem)) (self : Int32 → Mem → Option (Unit × Mem)) (x1 : Int32) (μ : Mem) : Option (Unit × Mem) :=
if (nI 33) ≤ x1 then
k26 μ else
if inB x1 33 = true then
self (x1 + (nI 1)) (stI μ 89 0 (cl x1) (mI μ 88 0 (cl x1))) else none
def m_copies_L2  (k26 : Mem → Option (Unit × Mem)) : Int32 → Mem → Option (Unit × Mem) := fixN (fun _ _ => none) (m_copies_B2 k26) 60000
def m_copies  (μ : Mem) : Option (Unit × Mem) :=
m_copies_L2 (fun  (μ6 : Mem) =>
if inB (mI μ6 55 0 18) 2 = true then
mb (stI μ6 55 0 52 (mI μ6 75 0 (cl (mI μ6 55 0 18)))) fun μ12 =>
ob (m_parts (stI μ12 55 0 53 (nI 0))) fun _ μ14 =>
some ((), μ14) else none) (nI 0) μ
-- SluiceLogsModel.mixed(II)I
def m_mixed (x0 : Int32) (x1 : Int32) (μ : Mem) : Option (Int32 × Mem) :=
vb ((((x0 ^^^ x1) * (nI 1103515245)) + (nI 12345))) fun v1 : Int32 =>
some ((v1 ^^^ (ushr v1 (nI 15))), μ)
-- SluiceLogsModel.lotOf(I)I
def m_lotOf (x1 : Int32) (μ : Mem) : Option (Int32 × Mem) :=
ob (m_mixed (mI μ 55 0 52) (nI 217) μ) fun r4 μ1 =>
ob (m_mixed r4 x1 μ1) fun r9 μ6 =>
some ((irm (ushr r9 (nI 1)) (nI 100)), μ6)
-- SluiceLogsModel.common(JJ)J
def m_common_B6   (self : Int64 → Int64 → Mem → Option (Int64 × Mem)) (x4 : Int64) (x6 : Int64) (μ : Mem) : Option (Int64 × Mem) :=
if (lg_cmp x6 (0 : Int64)) = (nI 0) then
some (x4, μ) else
if ¬ x6 = 0 then
self x6 (lrm x4 x6) μ else none
def m_common_L6   : Int64 → Int64 → Mem → Option (Int64 × Mem) := fixN (fun _ _ _ => none) (m_common_B6 ) 60000
def m_common (x0 : Int64) (x2 : Int64) (μ : Mem) : Option (Int64 × Mem) :=
m_common_L6  x0 x2 μ
-- SluiceLogsModel.termOfTwo(JI)I
def m_termOfTwo (x1 : Int64) (x3 : Int32) (μ : Mem) : Option (Int32 × Mem) :=
if (mI μ 55 0 56) = (nI 0) then
ob (m_common x1 (mL μ 55 0 57) μ) fun r7 μ4 =>
if x3 = (nI 0) then
if ¬ r7 = 0 then
some ((Int64.toInt32 (x1 / r7)), μ4) else none else
if ¬ r7 = 0 then
some ((Int64.toInt32 ((mL μ4 55 0 57) / r7)), μ4) else none else
some ((nI 0), μ)
-- SluiceLogsModel.logOver(I)J
def m_logOver (x1 : Int32) (μ : Mem) : Option (Int64 × Mem) :=
if inB x1 4 = true then
if (mI μ 90 0 (cl x1)) = (nI 0) then
some (((Int32.toInt64 ((nI 4) * (nI 1))) * (mL μ 92 0 (cl x1))), μ) else
some (((Int32.toInt64 ((nI 4) * (mI μ 90 0 (cl x1)))) * (mL μ 92 0 (cl x1))), μ) else none
-- SluiceLogsModel.fieldOver(I)J
def m_fieldOver_B5 (x1 : Int32)  (self : Int64 → Int32 → Mem → Option (Int64 × Mem)) (x2 : Int64) (x4 : Int32) (μ : Mem) : Option (Int64 × Mem) :=
if inB (mI μ 55 0 18) 2 = true then
if (mI μ 70 0 (cl (mI μ 55 0 18))) ≤ x4 then
some (x2, μ) else
ob (m_toWhere x4 μ) fun r9 μ6 =>
if r9 = ((nI 10) + x1) then
ob (m_wideAt x4 μ6) fun r17 μ14 =>
ob (m_fromLog x4 μ14) fun r22 μ19 =>
if inB r22 4 = true then
vb ((x2 + ((Int32.toInt64 ((nI 4) * r17)) * (mL μ19 92 0 (cl r22))))) fun v26 : Int64 =>
self v26 (x4 + (nI 1)) μ19 else none else
self x2 (x4 + (nI 1)) μ6 else none
def m_fieldOver_L5 (x1 : Int32)  : Int64 → Int32 → Mem → Option (Int64 × Mem) := fixN (fun _ _ _ => none) (m_fieldOver_B5 x1) 60000
def m_fieldOver (x1 : Int32) (μ : Mem) : Option (Int64 × Mem) :=
m_fieldOver_L5 x1  (0 : Int64) (nI 0) μ
-- SluiceLogsModel.widthsTo(I)I
def m_widthsTo_B4 (x1 : Int32)  (self : Int32 → Int32 → Mem → Option (Int32 × Mem)) (x2 : Int32) (x3 : Int32) (μ : Mem) : Option (Int32 × Mem) :=
if inB (mI μ 55 0 18) 2 = true then
if (mI μ 70 0 (cl (mI μ 55 0 18))) ≤ x3 then
some (x2, μ) else
ob (m_toWhere x3 μ) fun r9 μ6 =>
if r9 = ((nI 10) + x1) then
ob (m_wideAt x3 μ6) fun r17 μ14 =>
self (x2 + r17) (x3 + (nI 1)) μ14 else
self x2 (x3 + (nI 1)) μ6 else none
def m_widthsTo_L4 (x1 : Int32)  : Int32 → Int32 → Mem → Option (Int32 × Mem) := fixN (fun _ _ _ => none) (m_widthsTo_B4 x1) 60000
def m_widthsTo (x1 : Int32) (μ : Mem) : Option (Int32 × Mem) :=
m_widthsTo_L4 x1  (nI 0) (nI 0) μ
-- SluiceLogsModel.flowOf(I)I
def m_flowOf (x1 : Int32) (μ : Mem) : Option (Int32 × Mem) :=
if (mI μ 55 0 56) = (nI 0) then
ob (m_fieldOver x1 μ) fun r7 μ4 =>
if ¬ (mL μ4 55 0 57) = 0 then
some ((Int64.toInt32 (((100 : Int64) * r7) / (mL μ4 55 0 57))), μ4) else none else
some ((nI 0), μ)
-- SluiceLogsModel.lawTells(II)I
def m_lawTells_B39 (x3 : Int32) (k119 : Int32 → Mem → Option (Int32 × Mem)) (self : Int32 → Mem → Option (Int32 × Mem)) (x4 : Int32) (μ : Mem) : Option (Int32 × Mem) :=
if inB x3 8 = true then
if (mI μ 77 0 (cl x3)) ≤ x4 then
some ((nI 0), μ) else
if inB x4 260 = true then
if (mI μ 78 0 (cl x4)) = (nI 0) then
k119 x4 μ else
ob (m_termOf (mI μ 79 0 (cl x4)) (mI μ 80 0 (cl x4)) μ) fun r20 μ17 =>
ob (m_termOf (mI μ17 80 0 (cl x4)) (mI μ17 81 0 (cl x4)) μ17) fun r25 μ22 =>
if (mI μ22 55 0 49) = (nI 0) then
if r20 < r25 then
k119 x4 μ22 else
self (x4 + (nI 1)) μ22 else
some ((nI 0), μ22) else none else none
def m_lawTells_L39 (x3 : Int32) (k119 : Int32 → Mem → Option (Int32 × Mem)) : Int32 → Mem → Option (Int32 × Mem) := fixN (fun _ _ => none) (m_lawTells_B39 x3 k119) 60000
def m_lawTells (x1 : Int32) (x2 : Int32) (μ : Mem) : Option (Int32 × Mem) :=
if inB (((nI 4) * (mI μ 55 0 18)) + x1) 8 = true then
if (mI μ 76 0 (cl (((nI 4) * (mI μ 55 0 18)) + x1))) = (mI μ 77 0 (cl (((nI 4) * (mI μ 55 0 18)) + x1))) then
some (x2, μ) else
vb ((mI (stI μ 55 0 49 (nI 0)) 76 0 (cl (((nI 4) * (mI μ 55 0 18)) + x1)))) fun v6 : Int32 =>
m_lawTells_L39 (((nI 4) * (mI μ 55 0 18)) + x1) (fun (x35 : Int32) (μ36 : Mem) =>
if inB x35 260 = true then
ob (m_termOf (mI μ36 81 0 (cl x35)) (mI μ36 82 0 (cl x35)) μ36) fun r45 μ42 =>
if (mI μ42 55 0 49) = (nI 0) then
some (r45, μ42) else
some ((nI 0), μ42) else none) v6 (stI μ 55 0 49 (nI 0)) else none
-- SluiceLogsModel.views(II)V
def m_views (x1 : Int32) (x2 : Int32) (μ : Mem) : Option (Unit × Mem) :=
mb (stI (stI (stI μ 86 0 0 (nI 0)) 86 0 1 (nI 0)) 86 0 2 x2) fun μ1 =>
mb (stI (stI μ1 86 0 3 (nI 0)) 86 0 4 (mI (stI μ1 86 0 3 (nI 0)) 89 0 31)) fun μ3 =>
if inB (mI (stI (stI μ3 86 0 5 x1) 86 0 6 (nI 0)) 55 0 18) 2 = true then
mb (stI (stI (stI μ3 86 0 5 x1) 86 0 6 (nI 0)) 86 0 7 (mI (stI (stI μ3 86 0 5 x1) 86 0 6 (nI 0)) 65 0 (cl (mI (stI (stI μ3 86 0 5 x1) 86 0 6 (nI 0)) 55 0 18)))) fun μ7 =>
if inB (mI μ7 55 0 18) 2 = true then
mb (stI μ7 86 0 8 (mI μ7 66 0 (cl (mI μ7 55 0 18)))) fun μ11 =>
some ((), μ11) else none else none
-- SluiceLogsModel.viewsField(I)V
def m_viewsField (x1 : Int32) (μ : Mem) : Option (Unit × Mem) :=
ob (m_widthsTo x1 μ) fun r4 μ1 =>
ob (m_views x1 r4 μ1) fun _ μ6 =>
ob (m_flowOf x1 μ6) fun r14 μ11 =>
if inB (((nI 6) * (mI (stI μ11 86 0 0 r14) 55 0 18)) + x1) 12 = true then
mb (stI (stI μ11 86 0 0 r14) 86 0 1 (mI (stI μ11 86 0 0 r14) 67 0 (cl (((nI 6) * (mI (stI μ11 86 0 0 r14) 55 0 18)) + x1)))) fun μ18 =>
if inB ((nI 12) + x1) 33 = true then
mb (stI μ18 86 0 3 (mI μ18 89 0 (cl ((nI 12) + x1)))) fun μ22 =>
if inB ((nI 6) + x1) 33 = true then
mb (stI μ22 86 0 6 (mI μ22 89 0 (cl ((nI 6) + x1)))) fun μ26 =>
some ((), μ26) else none else none else none
-- SluiceLogsModel.needsOf(I)I
def m_needsOf (x1 : Int32) (μ : Mem) : Option (Int32 × Mem) :=
ob (m_viewsField x1 μ) fun _ μ1 =>
ob (m_lawTells (nI 0) (mI μ1 86 0 1) μ1) fun r9 μ6 =>
ob (m_within r9 (nI 0) (nI 9999) μ6) fun r14 μ11 =>
some (r14, μ11)
-- SluiceLogsModel.worthOf(I)I
def m_worthOf (x1 : Int32) (μ : Mem) : Option (Int32 × Mem) :=
ob (m_viewsField x1 μ) fun _ μ1 =>
ob (m_lawTells (nI 1) (mI μ1 86 0 0) μ1) fun r9 μ6 =>
ob (m_within r9 (nI 0) (nI 99) μ6) fun r14 μ11 =>
some (r14, μ11)
-- SluiceLogsModel.costsOf(I)I
def m_costsOf (x1 : Int32) (μ : Mem) : Option (Int32 × Mem) :=
ob (m_wideAt x1 μ) fun r4 μ1 =>
ob (m_views x1 r4 μ1) fun _ μ6 =>
ob (m_lawTells (nI 2) (nI 1) μ6) fun r14 μ11 =>
ob (m_within r14 (nI 0) (nI 99) μ11) fun r19 μ16 =>
some (r19, μ16)
-- SluiceLogsModel.siltsOf(I)I
def m_siltsOf (x1 : Int32) (μ : Mem) : Option (Int32 × Mem) :=
ob (m_wideAt x1 μ) fun r4 μ1 =>
ob (m_views x1 r4 μ1) fun _ μ6 =>
ob (m_lawTells (nI 3) (nI 0) μ6) fun r14 μ11 =>
ob (m_within r14 (nI 0) (nI 100) μ11) fun r19 μ16 =>
some (r19, μ16)
-- SluiceLogsModel.isLacking(I)Z
def m_isLacking (x1 : Int32) (μ : Mem) : Option (Int32 × Mem) :=
ob (m_flowOf x1 μ) fun r4 μ1 =>
ob (m_needsOf x1 μ1) fun r9 μ6 =>
if r9 ≤ r4 then
some ((nI 0), μ6) else
some ((nI 1), μ6)
-- SluiceLogsModel.lackingBits()I
def m_lackingBits_B4   (self : Int32 → Int32 → Mem → Option (Int32 × Mem)) (x1 : Int32) (x2 : Int32) (μ : Mem) : Option (Int32 × Mem) :=
if inB (mI μ 55 0 18) 2 = true then
if (mI μ 66 0 (cl (mI μ 55 0 18))) ≤ x2 then
some (x1, μ) else
ob (m_isLacking x2 μ) fun r9 μ6 =>
if r9 = (nI 0) then
self x1 (x2 + (nI 1)) μ6 else
self (x1 ||| ((nI 1) <<< (x2 &&& 31))) (x2 + (nI 1)) μ6 else none
def m_lackingBits_L4   : Int32 → Int32 → Mem → Option (Int32 × Mem) := fixN (fun _ _ _ => none) (m_lackingBits_B4 ) 60000
def m_lackingBits  (μ : Mem) : Option (Int32 × Mem) :=
m_lackingBits_L4  (nI 0) (nI 0) μ
-- SluiceLogsModel.canStep(I)Z
def m_canStep (x1 : Int32) (μ : Mem) : Option (Int32 × Mem) :=
if inB (mI μ 55 0 18) 2 = true then
ob (m_in x1 (nI 0) (((nI 2) * (mI μ 70 0 (cl (mI μ 55 0 18)))) - (nI 1)) μ) fun r6 μ3 =>
if r6 = (nI 0) then
some ((nI 0), μ3) else
if (irm x1 (nI 2)) = (nI 1) then
ob (m_wideAt (x1 / (nI 2)) μ3) fun r26 μ23 =>
if (nI 3) ≤ r26 then
some ((nI 0), μ23) else
some ((nI 1), μ23) else
ob (m_wideAt (x1 / (nI 2)) μ3) fun r17 μ14 =>
if r17 ≤ (nI 0) then
some ((nI 0), μ14) else
some ((nI 1), μ14) else none
-- SluiceLogsModel.steps(I)V
def m_steps (x1 : Int32) (μ : Mem) : Option (Unit × Mem) :=
if inB ((nI 18) + (x1 / (nI 2))) 33 = true then
if (irm x1 (nI 2)) = (nI 1) then
mb (stI μ 89 0 (cl ((nI 18) + (x1 / (nI 2)))) ((mI μ 89 0 (cl ((nI 18) + (x1 / (nI 2))))) + (nI 1))) fun μ8 =>
some ((), μ8) else
mb (stI μ 89 0 (cl ((nI 18) + (x1 / (nI 2)))) ((mI μ 89 0 (cl ((nI 18) + (x1 / (nI 2))))) + (-1 : Int32))) fun μ6 =>
some ((), μ6) else none
-- SluiceLogsModel.canBits()I
def m_canBits_B4   (self : Int32 → Int32 → Mem → Option (Int32 × Mem)) (x1 : Int32) (x2 : Int32) (μ : Mem) : Option (Int32 × Mem) :=
if (nI 24) ≤ x2 then
some (x1, μ) else
ob (m_canStep x2 μ) fun r7 μ4 =>
if r7 = (nI 0) then
self x1 (x2 + (nI 1)) μ4 else
self (x1 ||| ((nI 1) <<< (x2 &&& 31))) (x2 + (nI 1)) μ4
def m_canBits_L4   : Int32 → Int32 → Mem → Option (Int32 × Mem) := fixN (fun _ _ _ => none) (m_canBits_B4 ) 60000
def m_canBits  (μ : Mem) : Option (Int32 × Mem) :=
m_canBits_L4  (nI 0) (nI 0) μ
-- SluiceLogsModel.dayGoes()V
def m_dayGoes_B4 (x1 : Int32) (k34 : Mem → Option (Unit × Mem)) (self : Int32 → Mem → Option (Unit × Mem)) (x2 : Int32) (μ : Mem) : Option (Unit × Mem) :=
if inB (mI μ 55 0 18) 2 = true then
if (mI μ 66 0 (cl (mI μ 55 0 18))) ≤ x2 then
k34 μ else
ob (m_worthOf x2 μ) fun r9 μ6 =>
if inB x2 6 = true then
self (x2 + (nI 1)) (stI μ6 94 0 (cl x2) r9) else none else none
def m_dayGoes_L4 (x1 : Int32) (k34 : Mem → Option (Unit × Mem)) : Int32 → Mem → Option (Unit × Mem) := fixN (fun _ _ => none) (m_dayGoes_B4 x1 k34) 60000
def m_dayGoes_B36  (k100 : Int32 → Mem → Option (Unit × Mem)) (self : Int32 → Int32 → Mem → Option (Unit × Mem)) (x1 : Int32) (x2 : Int32) (μ : Mem) : Option (Unit × Mem) :=
if inB (mI μ 55 0 18) 2 = true then
if (mI μ 70 0 (cl (mI μ 55 0 18))) ≤ x2 then
k100 x1 μ else
if (mI μ 55 0 53) = (nI 0) then
ob (m_wideAt x2 μ) fun r29 μ26 =>
if r29 ≤ (nI 0) then
self x1 (x2 + (nI 1)) μ26 else
ob (m_lotOf (((nI 16) * (mI μ26 89 0 31)) + x2) μ26) fun r37 μ34 =>
ob (m_siltsOf x2 μ34) fun r42 μ39 =>
if r42 ≤ r37 then
self x1 (x2 + (nI 1)) μ39 else
self (x1 ||| ((nI 1) <<< (x2 &&& 31))) (x2 + (nI 1)) μ39 else
self x1 (x2 + (nI 1)) μ else none
def m_dayGoes_L36  (k100 : Int32 → Mem → Option (Unit × Mem)) : Int32 → Int32 → Mem → Option (Unit × Mem) := fixN (fun _ _ _ => none) (m_dayGoes_B36 k100) 60000
def m_dayGoes_B102 (x1 : Int32) (k153 : Mem → Option (Unit × Mem)) (self : Int32 → Mem → Option (Unit × Mem)) (x2 : Int32) (μ : Mem) : Option (Unit × Mem) :=
if inB (mI μ 55 0 18) 2 = true then
if (mI μ 66 0 (cl (mI μ 55 0 18))) ≤ x2 then
k153 μ else
if inB ((nI 12) + x2) 33 = true then
if inB x2 6 = true then
ob (m_within ((mI μ 89 0 (cl ((nI 12) + x2))) + (mI μ 94 0 (cl x2))) (nI 0) (nI 9999) μ) fun r67 μ64 =>
self (x2 + (nI 1)) (stI μ64 89 0 (cl ((nI 12) + x2)) r67) else none else none else none
def m_dayGoes_L102 (x1 : Int32) (k153 : Mem → Option (Unit × Mem)) : Int32 → Mem → Option (Unit × Mem) := fixN (fun _ _ => none) (m_dayGoes_B102 x1 k153) 60000
def m_dayGoes_B155 (x1 : Int32) (k191 : Mem → Option (Unit × Mem)) (self : Int32 → Mem → Option (Unit × Mem)) (x2 : Int32) (μ : Mem) : Option (Unit × Mem) :=
if inB (mI μ 55 0 18) 2 = true then
if (mI μ 70 0 (cl (mI μ 55 0 18))) ≤ x2 then
k191 μ else
if inB ((nI 18) + x2) 33 = true then
mb (stI μ 89 0 (cl ((nI 18) + x2)) ((mI μ 89 0 (cl ((nI 18) + x2))) - ((x1 >>> (x2 &&& 31)) &&& (nI 1)))) fun μ81 =>
self (x2 + (nI 1)) μ81 else none else none
def m_dayGoes_L155 (x1 : Int32) (k191 : Mem → Option (Unit × Mem)) : Int32 → Mem → Option (Unit × Mem) := fixN (fun _ _ => none) (m_dayGoes_B155 x1 k191) 60000
def m_dayGoes  (μ : Mem) : Option (Unit × Mem) :=
m_dayGoes_L4 (nI 0) (fun  (μ14 : Mem) =>
m_dayGoes_L36 (fun (x50 : Int32) (μ51 : Mem) =>
m_dayGoes_L102 x50 (fun  (μ70 : Mem) =>
m_dayGoes_L155 x50 (fun  (μ83 : Mem) =>
mb (stI μ83 89 0 31 ((mI μ83 89 0 31) + (nI 1))) fun μ87 =>
if x50 = (nI 0) then
some ((), μ87) else
ob (m_parts μ87) fun _ μ92 =>
some ((), μ92)) (nI 0) μ70) (nI 0) μ51) (nI 0) (nI 0) μ14) (nI 0) μ
-- SluiceLogsModel.goes(I)V
def m_goes_B2 (x1 : Int32)  (self : Int32 → Mem → Option (Unit × Mem)) (x2 : Int32) (μ : Mem) : Option (Unit × Mem) :=
if x1 ≤ x2 then
some ((), μ) else
ob (m_dayGoes μ) fun _ μ4 =>
self (x2 + (nI 1)) μ4
def m_goes_L2 (x1 : Int32)  : Int32 → Mem → Option (Unit × Mem) := fixN (fun _ _ => none) (m_goes_B2 x1) 60000
def m_goes (x1 : Int32) (μ : Mem) : Option (Unit × Mem) :=
m_goes_L2 x1  (nI 0) μ
-- SluiceLogsModel.log(II)I
def m_log_B84 (x1 : Int32)  (self : Int32 → Int32 → Mem → Option (Int32 × Mem)) (x3 : Int32) (x4 : Int32) (μ : Mem) : Option (Int32 × Mem) :=
if inB (mI μ 55 0 18) 2 = true then
if (mI μ 70 0 (cl (mI μ 55 0 18))) ≤ x4 then
some (x3, μ) else
ob (m_fromLog x4 μ) fun r58 μ55 =>
if r58 = x1 then
self (x3 ||| ((nI 1) <<< (x4 &&& 31))) (x4 + (nI 1)) μ55 else
self x3 (x4 + (nI 1)) μ55 else none
def m_log_L84 (x1 : Int32)  : Int32 → Int32 → Mem → Option (Int32 × Mem) := fixN (fun _ _ _ => none) (m_log_B84 x1) 60000
def m_log (x1 : Int32) (x2 : Int32) (μ : Mem) : Option (Int32 × Mem) :=
ob (m_isLog x1 μ) fun r4 μ1 =>
if r4 = (nI 0) then
some ((-1 : Int32), μ1) else
ob (m_copies μ1) fun _ μ9 =>
ob (m_fillsLeads μ9) fun _ μ14 =>
if x2 = (nI 0) then
ob (m_logOver x1 μ14) fun r24 μ21 =>
ob (m_termOfTwo r24 (nI 0) μ21) fun r29 μ26 =>
some (r29, μ26) else
if x2 = (nI 1) then
ob (m_logOver x1 μ14) fun r37 μ34 =>
ob (m_termOfTwo r37 (nI 1) μ34) fun r42 μ39 =>
some (r42, μ39) else
if x2 = (nI 2) then
if inB x1 4 = true then
some ((mI μ14 90 0 (cl x1)), μ14) else none else
if x2 = (nI 3) then
m_log_L84 x1  (nI 0) (nI 0) μ14 else
some ((-1 : Int32), μ14)
-- SluiceLogsModel.field(II)I
def m_field (x1 : Int32) (x2 : Int32) (μ : Mem) : Option (Int32 × Mem) :=
ob (m_isField x1 μ) fun r4 μ1 =>
if r4 = (nI 0) then
some ((-1 : Int32), μ1) else
ob (m_copies μ1) fun _ μ9 =>
if x2 = (nI 0) then
ob (m_fieldOver x1 μ9) fun r19 μ16 =>
ob (m_termOfTwo r19 (nI 0) μ16) fun r24 μ21 =>
some (r24, μ21) else
if x2 = (nI 1) then
ob (m_fieldOver x1 μ9) fun r32 μ29 =>
ob (m_termOfTwo r32 (nI 1) μ29) fun r37 μ34 =>
some (r37, μ34) else
if x2 = (nI 2) then
ob (m_flowOf x1 μ9) fun r45 μ42 =>
some (r45, μ42) else
if x2 = (nI 3) then
if inB (((nI 6) * (mI μ9 55 0 18)) + x1) 12 = true then
some ((mI μ9 67 0 (cl (((nI 6) * (mI μ9 55 0 18)) + x1))), μ9) else none else
if x2 = (nI 4) then
ob (m_needsOf x1 μ9) fun r55 μ52 =>
some (r55, μ52) else
if x2 = (nI 5) then
ob (m_worthOf x1 μ9) fun r62 μ59 =>
some (r62, μ59) else
if x2 = (nI 6) then
if inB ((nI 12) + x1) 33 = true then
some ((mI μ9 89 0 (cl ((nI 12) + x1))), μ9) else none else
if x2 = (nI 7) then
if inB ((nI 6) + x1) 33 = true then
some ((mI μ9 89 0 (cl ((nI 6) + x1))), μ9) else none else
if x2 = (nI 8) then
if inB x1 33 = true then
some ((mI μ9 89 0 (cl x1)), μ9) else none else
if x2 = (nI 9) then
ob (m_widthsTo x1 μ9) fun r78 μ75 =>
some (r78, μ75) else
some ((-1 : Int32), μ9)
-- SluiceLogsModel.notch(II)I
def m_notch (x1 : Int32) (x2 : Int32) (μ : Mem) : Option (Int32 × Mem) :=
ob (m_isNotch x1 μ) fun r4 μ1 =>
if r4 = (nI 0) then
some ((-1 : Int32), μ1) else
ob (m_copies μ1) fun _ μ9 =>
if x2 = (nI 0) then
ob (m_fromLog x1 μ9) fun r19 μ16 =>
some (r19, μ16) else
if x2 = (nI 1) then
ob (m_toWhere x1 μ9) fun r26 μ23 =>
some (r26, μ23) else
if x2 = (nI 2) then
ob (m_wideAt x1 μ9) fun r33 μ30 =>
some (r33, μ30) else
if x2 = (nI 3) then
ob (m_costsOf x1 μ9) fun r40 μ37 =>
some (r40, μ37) else
if x2 = (nI 4) then
ob (m_siltsOf x1 μ9) fun r47 μ44 =>
some (r47, μ44) else
some ((-1 : Int32), μ9)
-- SluiceLogsModel.records()V
def m_records_B51  (k83 : Mem → Option (Unit × Mem)) (self : Int32 → Mem → Option (Unit × Mem)) (x1 : Int32) (μ : Mem) : Option (Unit × Mem) :=
if (nI 33) ≤ x1 then
k83 μ else
if inB x1 33 = true then
if inB (((nI 33) * (mI μ 55 0 61)) + x1) 1320 = true then
mb (stI μ 95 0 (cl (((nI 33) * (mI μ 55 0 61)) + x1)) (mI μ 88 0 (cl x1))) fun μ11 =>
self (x1 + (nI 1)) μ11 else none else none
def m_records_L51  (k83 : Mem → Option (Unit × Mem)) : Int32 → Mem → Option (Unit × Mem) := fixN (fun _ _ => none) (m_records_B51 k83) 60000
def m_records_B11  (k39 : Mem → Option (Unit × Mem)) (self : Int32 → Mem → Option (Unit × Mem)) (x1 : Int32) (μ : Mem) : Option (Unit × Mem) :=
if (nI 1287) ≤ x1 then
k39 μ else
if inB (x1 + (nI 33)) 1320 = true then
if inB x1 1320 = true then
mb (stI μ 95 0 (cl x1) (mI μ 95 0 (cl (x1 + (nI 33))))) fun μ32 =>
self (x1 + (nI 1)) μ32 else none else none
def m_records_L11  (k39 : Mem → Option (Unit × Mem)) : Int32 → Mem → Option (Unit × Mem) := fixN (fun _ _ => none) (m_records_B11 k39) 60000
def m_records  (μ : Mem) : Option (Unit × Mem) :=
if (mI μ 55 0 61) = (nI 40) then
m_records_L11 (fun  (μ34 : Mem) =>
mb (stI μ34 55 0 61 ((mI μ34 55 0 61) - (nI 1))) fun μ38 =>
m_records_L51 (fun  (μ40 : Mem) =>
mb (stI μ40 55 0 61 ((mI μ40 55 0 61) + (nI 1))) fun μ44 =>
ob (m_keepsRow μ44) fun _ μ46 =>
some ((), μ46)) (nI 0) μ38) (nI 0) μ else
m_records_L51 (fun  (μ13 : Mem) =>
mb (stI μ13 55 0 61 ((mI μ13 55 0 61) + (nI 1))) fun μ17 =>
ob (m_keepsRow μ17) fun _ μ19 =>
some ((), μ19)) (nI 0) μ
-- SluiceLogsModel.stepOf(IZ)I
def m_stepOf (x0 : Int32) (x1 : Int32) (μ : Mem) : Option (Int32 × Mem) :=
if x1 = (nI 0) then
some ((((nI 2) * x0) + (nI 0)), μ) else
some ((((nI 2) * x0) + (nI 1)), μ)
-- SluiceLogsModel.step(IZ)I
def m_step (x1 : Int32) (x2 : Int32) (μ : Mem) : Option (Int32 × Mem) :=
ob (m_copies μ) fun _ μ1 =>
ob (m_isNotch x1 μ1) fun r9 μ6 =>
if r9 = (nI 0) then
some ((-1 : Int32), μ6) else
ob (m_stepOf x1 x2 μ6) fun r17 μ14 =>
ob (m_canStep r17 μ14) fun r22 μ19 =>
if r22 = (nI 0) then
some ((-1 : Int32), μ19) else
ob (m_costsOf x1 μ19) fun r30 μ27 =>
ob (m_stepOf x1 x2 μ27) fun r35 μ32 =>
ob (m_steps r35 μ32) fun _ μ37 =>
mb (stI μ37 89 0 32 ((mI μ37 89 0 32) + r30)) fun μ42 =>
ob (m_records μ42) fun _ μ44 =>
some (r30, μ44)
-- SluiceLogsModel.drain(III)Z
def m_drain (x1 : Int32) (x2 : Int32) (x3 : Int32) (μ : Mem) : Option (Int32 × Mem) :=
ob (m_isField x1 μ) fun r4 μ1 =>
if r4 = (nI 0) then
some ((nI 0), μ1) else
ob (m_isLog x2 μ1) fun r12 μ9 =>
if r12 = (nI 0) then
some ((nI 0), μ9) else
ob (m_in x3 (nI 0) (nI 3) μ9) fun r20 μ17 =>
if r20 = (nI 0) then
some ((nI 0), μ17) else
if inB x1 33 = true then
if (mI μ17 88 0 (cl x1)) = x2 then
if inB ((nI 6) + x1) 33 = true then
if (mI μ17 88 0 (cl ((nI 6) + x1))) = x3 then
some ((nI 0), μ17) else
ob (m_copies μ17) fun _ μ51 =>
mb (stI (stI μ51 89 0 (cl x1) x2) 89 0 (cl ((nI 6) + x1)) x3) fun μ56 =>
ob (m_records μ56) fun _ μ58 =>
some ((nI 1), μ58) else none else
ob (m_copies μ17) fun _ μ30 =>
if inB ((nI 6) + x1) 33 = true then
mb (stI (stI μ30 89 0 (cl x1) x2) 89 0 (cl ((nI 6) + x1)) x3) fun μ37 =>
ob (m_records μ37) fun _ μ39 =>
some ((nI 1), μ39) else none else none
-- SluiceLogsModel.spring(I)Z
def m_spring (x1 : Int32) (μ : Mem) : Option (Int32 × Mem) :=
ob (m_in x1 (nI 1) (nI 9) μ) fun r4 μ1 =>
if r4 = (nI 0) then
some ((nI 0), μ1) else
if (mI μ1 88 0 30) = x1 then
some ((nI 0), μ1) else
ob (m_copies μ1) fun _ μ12 =>
ob (m_records (stI μ12 89 0 30 x1)) fun _ μ17 =>
some ((nI 1), μ17)
-- SluiceLogsModel.isLong(I)Z
def m_isLong (x0 : Int32) (μ : Mem) : Option (Int32 × Mem) :=
ob (m_in x0 (nI 0) (nI 60) μ) fun r4 μ1 =>
if r4 = nI 0 ∨ r4 = nI 1 then
some (r4, μ1) else none
-- SluiceLogsModel.days(I)I
def m_days (x1 : Int32) (μ : Mem) : Option (Int32 × Mem) :=
ob (m_isLong x1 μ) fun r4 μ1 =>
if r4 = (nI 0) then
some ((-1 : Int32), μ1) else
if x1 = (nI 0) then
some ((mI μ1 88 0 31), μ1) else
ob (m_copies μ1) fun _ μ12 =>
ob (m_goes x1 μ12) fun _ μ17 =>
ob (m_records μ17) fun _ μ22 =>
some ((mI μ22 88 0 31), μ22)
-- SluiceLogsModel.undo()Z
def m_undo_B21   (self : Int32 → Mem → Option (Int32 × Mem)) (x1 : Int32) (μ : Mem) : Option (Int32 × Mem) :=
if (nI 33) ≤ x1 then
some ((nI 1), μ) else
if inB (((nI 33) * (mI μ 55 0 61)) + x1) 1320 = true then
if inB x1 33 = true then
mb (stI μ 88 0 (cl x1) (mI μ 95 0 (cl (((nI 33) * (mI μ 55 0 61)) + x1)))) fun μ11 =>
self (x1 + (nI 1)) μ11 else none else none
def m_undo_L21   : Int32 → Mem → Option (Int32 × Mem) := fixN (fun _ _ => none) (m_undo_B21 ) 60000
def m_undo  (μ : Mem) : Option (Int32 × Mem) :=
if (mI μ 55 0 61) = (nI 0) then
some ((nI 0), μ) else
m_undo_L21  (nI 0) (stI μ 55 0 61 ((mI μ 55 0 61) - (nI 1)))
-- SluiceLogsModel.riverOver()J
def m_riverOver_B4  (k40 : Int64 → Mem → Option (Int64 × Mem)) (self : Int64 → Int32 → Mem → Option (Int64 × Mem)) (x1 : Int64) (x3 : Int32) (μ : Mem) : Option (Int64 × Mem) :=
if inB (mI μ 55 0 18) 2 = true then
if (mI μ 65 0 (cl (mI μ 55 0 18))) ≤ x3 then
k40 x1 μ else
if inB x3 4 = true then
if (mI μ 90 0 (cl x3)) = (nI 0) then
ob (m_logOver x3 μ) fun r14 μ11 =>
self (x1 + r14) (x3 + (nI 1)) μ11 else
self x1 (x3 + (nI 1)) μ else none else none
def m_riverOver_L4  (k40 : Int64 → Mem → Option (Int64 × Mem)) : Int64 → Int32 → Mem → Option (Int64 × Mem) := fixN (fun _ _ _ => none) (m_riverOver_B4 k40) 60000
def m_riverOver_B42  (k93 : Int64 → Mem → Option (Int64 × Mem)) (self : Int64 → Int32 → Mem → Option (Int64 × Mem)) (x1 : Int64) (x3 : Int32) (μ : Mem) : Option (Int64 × Mem) :=
if inB (mI μ 55 0 18) 2 = true then
if (mI μ 70 0 (cl (mI μ 55 0 18))) ≤ x3 then
k93 x1 μ else
ob (m_toWhere x3 μ) fun r30 μ27 =>
if r30 = (nI 20) then
ob (m_wideAt x3 μ27) fun r38 μ35 =>
ob (m_fromLog x3 μ35) fun r43 μ40 =>
if inB r43 4 = true then
vb ((x1 + ((Int32.toInt64 ((nI 4) * r38)) * (mL μ40 92 0 (cl r43))))) fun v47 : Int64 =>
self v47 (x3 + (nI 1)) μ40 else none else
self x1 (x3 + (nI 1)) μ27 else none
def m_riverOver_L42  (k93 : Int64 → Mem → Option (Int64 × Mem)) : Int64 → Int32 → Mem → Option (Int64 × Mem) := fixN (fun _ _ _ => none) (m_riverOver_B42 k93) 60000
def m_riverOver  (μ : Mem) : Option (Int64 × Mem) :=
m_riverOver_L4 (fun (y17 : Int64) (μ18 : Mem) =>
m_riverOver_L42 (fun (y51 : Int64) (μ52 : Mem) =>
if inB (mI μ52 55 0 18) 2 = true then
if (mI μ52 65 0 (cl (mI μ52 55 0 18))) = (nI 0) then
some ((Int32.toInt64 (mI μ52 89 0 30)), μ52) else
some (y51, μ52) else none) y17 (nI 0) μ18) (0 : Int64) (nI 0) μ
-- SluiceLogsModel.quartersOver(I)J
def m_quartersOver_B5 (x1 : Int32)  (self : Int64 → Int32 → Mem → Option (Int64 × Mem)) (x2 : Int64) (x4 : Int32) (μ : Mem) : Option (Int64 × Mem) :=
if inB (mI μ 55 0 18) 2 = true then
if (mI μ 66 0 (cl (mI μ 55 0 18))) ≤ x4 then
some (x2, μ) else
ob (m_fieldOver x4 μ) fun r9 μ6 =>
if x1 = (nI 0) then
if inB ((nI 6) + x4) 33 = true then
vb ((x2 + ((r9 / (4 : Int64)) * (Int32.toInt64 (mI μ6 89 0 (cl ((nI 6) + x4))))))) fun v19 : Int64 =>
self v19 (x4 + (nI 1)) μ6 else none else
if inB ((nI 6) + x4) 33 = true then
vb ((x2 + ((r9 / (4 : Int64)) * (Int32.toInt64 (x1 - (mI μ6 89 0 (cl ((nI 6) + x4)))))))) fun v16 : Int64 =>
self v16 (x4 + (nI 1)) μ6 else none else none
def m_quartersOver_L5 (x1 : Int32)  : Int64 → Int32 → Mem → Option (Int64 × Mem) := fixN (fun _ _ _ => none) (m_quartersOver_B5 x1) 60000
def m_quartersOver (x1 : Int32) (μ : Mem) : Option (Int64 × Mem) :=
m_quartersOver_L5 x1  (0 : Int64) (nI 0) μ
-- SluiceLogsModel.river(I)I
def m_river (x1 : Int32) (μ : Mem) : Option (Int32 × Mem) :=
ob (m_in x1 (nI 0) (nI 3) μ) fun r4 μ1 =>
if r4 = (nI 0) then
some ((-1 : Int32), μ1) else
ob (m_copies μ1) fun _ μ9 =>
if (nI 2) ≤ x1 then
ob (m_quartersOver (nI 4) μ9) fun r20 μ17 =>
ob (m_termOfTwo r20 (irm x1 (nI 2)) μ17) fun r25 μ22 =>
some (r25, μ22) else
ob (m_riverOver μ9) fun r32 μ29 =>
ob (m_termOfTwo r32 (irm x1 (nI 2)) μ29) fun r37 μ34 =>
some (r37, μ34)
-- SluiceLogsModel.round()I
def m_round  (μ : Mem) : Option (Int32 × Mem) :=
ob (m_copies μ) fun _ μ1 =>
if (mI μ1 55 0 56) = (nI 0) then
ob (m_quartersOver (nI 0) μ1) fun r12 μ9 =>
if ¬ (mL μ9 55 0 57) = 0 then
some ((Int64.toInt32 (((100 : Int64) * r12) / (mL μ9 55 0 57))), μ9) else none else
some ((nI 0), μ1)
-- SluiceLogsModel.lacking()I
def m_lacking  (μ : Mem) : Option (Int32 × Mem) :=
ob (m_copies μ) fun _ μ1 =>
ob (m_lackingBits μ1) fun r9 μ6 =>
some (r9, μ6)
-- SluiceLogsModel.dry()I
def m_dry_B8   (self : Int32 → Int32 → Mem → Option (Int32 × Mem)) (x1 : Int32) (x2 : Int32) (μ : Mem) : Option (Int32 × Mem) :=
if inB (mI μ 55 0 18) 2 = true then
if (mI μ 66 0 (cl (mI μ 55 0 18))) ≤ x2 then
some (x1, μ) else
if (mI μ 55 0 56) = (nI 0) then
ob (m_fieldOver x2 μ) fun r17 μ14 =>
if (lg_cmp r17 (0 : Int64)) = (nI 0) then
self (x1 ||| ((nI 1) <<< (x2 &&& 31))) (x2 + (nI 1)) μ14 else
self x1 (x2 + (nI 1)) μ14 else
some (x1, μ) else none
def m_dry_L8   : Int32 → Int32 → Mem → Option (Int32 × Mem) := fixN (fun _ _ _ => none) (m_dry_B8 ) 60000
def m_dry  (μ : Mem) : Option (Int32 × Mem) :=
ob (m_copies μ) fun _ μ1 =>
m_dry_L8  (nI 0) (nI 0) μ1
-- SluiceLogsModel.spread()I
def m_spread_B12  (k56 : Int32 → Int32 → Mem → Option (Int32 × Mem)) (self : Int32 → Int32 → Int32 → Mem → Option (Int32 × Mem)) (x1 : Int32) (x2 : Int32) (x3 : Int32) (μ : Mem) : Option (Int32 × Mem) :=
if inB (mI μ 55 0 18) 2 = true then
if (mI μ 66 0 (cl (mI μ 55 0 18))) ≤ x3 then
k56 x1 x2 μ else
ob (m_flowOf x3 μ) fun r14 μ11 =>
if x1 ≤ r14 then
if r14 ≤ x2 then
self x1 x2 (x3 + (nI 1)) μ11 else
self x1 r14 (x3 + (nI 1)) μ11 else
if r14 ≤ x2 then
self r14 x2 (x3 + (nI 1)) μ11 else
self r14 r14 (x3 + (nI 1)) μ11 else none
def m_spread_L12  (k56 : Int32 → Int32 → Mem → Option (Int32 × Mem)) : Int32 → Int32 → Int32 → Mem → Option (Int32 × Mem) := fixN (fun _ _ _ _ => none) (m_spread_B12 k56) 60000
def m_spread  (μ : Mem) : Option (Int32 × Mem) :=
ob (m_copies μ) fun _ μ1 =>
m_spread_L12 (fun (x26 : Int32) (x27 : Int32) (μ28 : Mem) =>
if inB (mI μ28 55 0 18) 2 = true then
if (mI μ28 66 0 (cl (mI μ28 55 0 18))) = (nI 0) then
some ((nI 0), μ28) else
some ((x27 - x26), μ28) else none) (nI 999999) (nI 0) (nI 0) μ1
-- SluiceLogsModel.richest()I
def m_richest_B9   (self : Int32 → Int32 → Mem → Option (Int32 × Mem)) (x1 : Int32) (x2 : Int32) (μ : Mem) : Option (Int32 × Mem) :=
if inB (mI μ 55 0 18) 2 = true then
if (mI μ 66 0 (cl (mI μ 55 0 18))) ≤ x2 then
some (x1, μ) else
if (mI μ 55 0 56) = (nI 0) then
if x1 < (nI 0) then
self x2 (x2 + (nI 1)) μ else
ob (m_fieldOver x2 μ) fun r20 μ17 =>
ob (m_fieldOver x1 μ17) fun r25 μ22 =>
if (lg_cmp r20 r25) ≤ (nI 0) then
self x1 (x2 + (nI 1)) μ22 else
self x2 (x2 + (nI 1)) μ22 else
some (x1, μ) else none
def m_richest_L9   : Int32 → Int32 → Mem → Option (Int32 × Mem) := fixN (fun _ _ _ => none) (m_richest_B9 ) 60000
def m_richest  (μ : Mem) : Option (Int32 × Mem) :=
ob (m_copies μ) fun _ μ1 =>
m_richest_L9  (-2 : Int32) (nI 0) μ1
-- SluiceLogsModel.keepsOvers()V
def m_keepsOvers_B18   (self : Int32 → Mem → Option (Unit × Mem)) (x1 : Int32) (μ : Mem) : Option (Unit × Mem) :=
if inB (mI μ 55 0 18) 2 = true then
if (mI μ 66 0 (cl (mI μ 55 0 18))) ≤ x1 then
some ((), μ) else
ob (m_fieldOver x1 μ) fun r13 μ10 =>
if inB x1 6 = true then
self (x1 + (nI 1)) (stL μ10 96 0 (cl x1) r13) else none else none
def m_keepsOvers_L18   : Int32 → Mem → Option (Unit × Mem) := fixN (fun _ _ => none) (m_keepsOvers_B18 ) 60000
def m_keepsOvers  (μ : Mem) : Option (Unit × Mem) :=
if (mI μ 55 0 56) = nI 0 ∨ (mI μ 55 0 56) = nI 1 then
mb (stL (stI μ 55 0 65 (mI μ 55 0 56)) 55 0 64 (mL (stI μ 55 0 65 (mI μ 55 0 56)) 55 0 57)) fun μ3 =>
m_keepsOvers_L18  (nI 0) μ3 else none
-- SluiceLogsModel.tries(I)V
def m_tries (x1 : Int32) (μ : Mem) : Option (Unit × Mem) :=
ob (m_steps x1 μ) fun _ μ1 =>
ob (m_parts μ1) fun _ μ6 =>
some ((), μ6)
-- SluiceLogsModel.triesFromNow(I)V
def m_triesFromNow (x1 : Int32) (μ : Mem) : Option (Unit × Mem) :=
ob (m_copies μ) fun _ μ1 =>
ob (m_keepsOvers μ1) fun _ μ6 =>
ob (m_tries x1 μ6) fun _ μ11 =>
some ((), μ11)
-- SluiceLogsModel.feelsOf(I)I
def m_feelsOf (x1 : Int32) (μ : Mem) : Option (Int32 × Mem) :=
if (mI μ 55 0 56) = (nI 0) then
if (mI μ 55 0 65) = (nI 0) then
ob (m_fieldOver x1 μ) fun r10 μ7 =>
if inB x1 6 = true then
vb (((mL μ7 96 0 (cl x1)) * (mL μ7 55 0 57))) fun v14 : Int64 =>
if (lg_cmp (r10 * (mL μ7 55 0 64)) v14) ≤ (nI 0) then
if (nI 0) ≤ (lg_cmp (r10 * (mL μ7 55 0 64)) v14) then
some ((nI 0), μ7) else
some ((nI 2), μ7) else
some ((nI 1), μ7) else none else
some ((nI 0), μ) else
some ((nI 0), μ)
-- SluiceLogsModel.feels(IZI)I
def m_feels (x1 : Int32) (x2 : Int32) (x3 : Int32) (μ : Mem) : Option (Int32 × Mem) :=
ob (m_copies μ) fun _ μ1 =>
ob (m_isNotch x1 μ1) fun r9 μ6 =>
if r9 = (nI 0) then
some ((-1 : Int32), μ6) else
ob (m_isField x3 μ6) fun r17 μ14 =>
if r17 = (nI 0) then
some ((-1 : Int32), μ14) else
ob (m_stepOf x1 x2 μ14) fun r25 μ22 =>
ob (m_canStep r25 μ22) fun r30 μ27 =>
if r30 = (nI 0) then
some ((-1 : Int32), μ27) else
ob (m_stepOf x1 x2 μ27) fun r38 μ35 =>
ob (m_triesFromNow r38 μ35) fun _ μ40 =>
ob (m_feelsOf x3 μ40) fun r48 μ45 =>
some (r48, μ45)
-- SluiceLogsModel.isFelt()Z
def m_isFelt_B2   (self : Int32 → Mem → Option (Int32 × Mem)) (x1 : Int32) (μ : Mem) : Option (Int32 × Mem) :=
if inB (mI μ 55 0 18) 2 = true then
if (mI μ 66 0 (cl (mI μ 55 0 18))) ≤ x1 then
some ((nI 0), μ) else
ob (m_feelsOf x1 μ) fun r9 μ6 =>
if r9 ≤ (nI 0) then
self (x1 + (nI 1)) μ6 else
some ((nI 1), μ6) else none
def m_isFelt_L2   : Int32 → Mem → Option (Int32 × Mem) := fixN (fun _ _ => none) (m_isFelt_B2 ) 60000
def m_isFelt  (μ : Mem) : Option (Int32 × Mem) :=
m_isFelt_L2  (nI 0) μ
-- SluiceLogsModel.unfelt()I
def m_unfelt_B13 (x1 : Int32)  (self : Int32 → Int32 → Mem → Option (Int32 × Mem)) (x2 : Int32) (x3 : Int32) (μ : Mem) : Option (Int32 × Mem) :=
if (nI 24) ≤ x3 then
some (x2, μ) else
if ((x1 >>> (x3 &&& 31)) &&& (nI 1)) = (nI 0) then
self x2 (x3 + (nI 1)) μ else
ob (m_triesFromNow x3 μ) fun _ μ17 =>
ob (m_isFelt μ17) fun r25 μ22 =>
if r25 = (nI 0) then
self (x2 ||| ((nI 1) <<< (x3 &&& 31))) (x3 + (nI 1)) μ22 else
self x2 (x3 + (nI 1)) μ22
def m_unfelt_L13 (x1 : Int32)  : Int32 → Int32 → Mem → Option (Int32 × Mem) := fixN (fun _ _ _ => none) (m_unfelt_B13 x1) 60000
def m_unfelt  (μ : Mem) : Option (Int32 × Mem) :=
ob (m_copies μ) fun _ μ1 =>
ob (m_canBits μ1) fun r9 μ6 =>
m_unfelt_L13 r9  (nI 0) (nI 0) μ6
-- SluiceLogsModel.best(II)I
def m_best_B45 (x1 : Int32) (x2 : Int32) (x3 : Int32) (k136 : Int32 → Int32 → Mem → Option (Int32 × Mem)) (self : Int32 → Int32 → Int64 → Int64 → Int32 → Mem → Option (Int32 × Mem)) (x4 : Int32) (x5 : Int32) (x6 : Int64) (x8 : Int64) (x10 : Int32) (μ : Mem) : Option (Int32 × Mem) :=
if (nI 24) ≤ x10 then
k136 x4 x5 μ else
if ((x3 >>> (x10 &&& 31)) &&& (nI 1)) = (nI 0) then
self x4 x5 x6 x8 (x10 + (nI 1)) μ else
ob (m_triesFromNow x10 μ) fun _ μ33 =>
ob (m_feelsOf x1 μ33) fun r41 μ38 =>
if r41 = (nI 1) then
if x4 < (nI 0) then
ob (m_flowOf x1 μ38) fun r52 μ49 =>
ob (m_fieldOver x1 μ49) fun r57 μ54 =>
self x10 r52 r57 (mL μ54 55 0 57) (x10 + (nI 1)) μ54 else
ob (m_fieldOver x1 μ38) fun r64 μ61 =>
if (nI 0) < (lg_cmp (r64 * x8) (x6 * (mL μ61 55 0 57))) then
ob (m_flowOf x1 μ61) fun r72 μ69 =>
ob (m_fieldOver x1 μ69) fun r77 μ74 =>
self x10 r72 r77 (mL μ74 55 0 57) (x10 + (nI 1)) μ74 else
self x4 x5 x6 x8 (x10 + (nI 1)) μ61 else
self x4 x5 x6 x8 (x10 + (nI 1)) μ38
def m_best_L45 (x1 : Int32) (x2 : Int32) (x3 : Int32) (k136 : Int32 → Int32 → Mem → Option (Int32 × Mem)) : Int32 → Int32 → Int64 → Int64 → Int32 → Mem → Option (Int32 × Mem) := fixN (fun _ _ _ _ _ _ => none) (m_best_B45 x1 x2 x3 k136) 60000
def m_best (x1 : Int32) (x2 : Int32) (μ : Mem) : Option (Int32 × Mem) :=
ob (m_isField x1 μ) fun r4 μ1 =>
if r4 = (nI 0) then
some ((-1 : Int32), μ1) else
ob (m_in x2 (nI 0) (nI 1) μ1) fun r12 μ9 =>
if r12 = (nI 0) then
some ((-1 : Int32), μ9) else
ob (m_copies μ9) fun _ μ17 =>
ob (m_canBits μ17) fun r25 μ22 =>
m_best_L45 x1 x2 r25 (fun (x84 : Int32) (x85 : Int32) (μ86 : Mem) =>
if x2 = (nI 0) then
some (x84, μ86) else
some (x85, μ86)) (-2 : Int32) (-2 : Int32) (0 : Int64) (1 : Int64) (nI 0) μ22
-- SluiceLogsModel.isLed(II)Z
def m_isLed_B2 (x1 : Int32) (x2 : Int32)  (self : Int32 → Mem → Option (Int32 × Mem)) (x3 : Int32) (μ : Mem) : Option (Int32 × Mem) :=
if inB (mI μ 55 0 18) 2 = true then
if (mI μ 70 0 (cl (mI μ 55 0 18))) ≤ x3 then
some ((nI 0), μ) else
ob (m_fromLog x3 μ) fun r9 μ6 =>
if r9 = x1 then
ob (m_toWhere x3 μ6) fun r17 μ14 =>
if r17 = ((nI 10) + x2) then
if inB ((nI 18) + x3) 33 = true then
if (mI μ14 88 0 (cl ((nI 18) + x3))) ≤ (nI 0) then
self (x3 + (nI 1)) μ14 else
some ((nI 1), μ14) else none else
self (x3 + (nI 1)) μ14 else
self (x3 + (nI 1)) μ6 else none
def m_isLed_L2 (x1 : Int32) (x2 : Int32)  : Int32 → Mem → Option (Int32 × Mem) := fixN (fun _ _ => none) (m_isLed_B2 x1 x2) 60000
def m_isLed (x1 : Int32) (x2 : Int32) (μ : Mem) : Option (Int32 × Mem) :=
m_isLed_L2 x1 x2  (nI 0) μ
-- SluiceLogsModel.tempted()I
def m_tempted_B38 (x1 : Int32) (x3 : Int32) (k91 : Int32 → Mem → Option (Int32 × Mem)) (self : Int32 → Int32 → Mem → Option (Int32 × Mem)) (x2 : Int32) (x4 : Int32) (μ : Mem) : Option (Int32 × Mem) :=
if inB (mI μ 55 0 18) 2 = true then
if (mI μ 66 0 (cl (mI μ 55 0 18))) ≤ x4 then
k91 x2 μ else
ob (m_feelsOf x4 μ) fun r30 μ27 =>
if r30 = (nI 1) then
ob (m_fromLog (x3 / (nI 2)) μ27) fun r38 μ35 =>
ob (m_isLed r38 x4 μ35) fun r43 μ40 =>
if r43 = (nI 0) then
self x2 (x4 + (nI 1)) μ40 else
self (x2 ||| ((nI 1) <<< (x4 &&& 31))) (x4 + (nI 1)) μ40 else
self x2 (x4 + (nI 1)) μ27 else none
def m_tempted_L38 (x1 : Int32) (x3 : Int32) (k91 : Int32 → Mem → Option (Int32 × Mem)) : Int32 → Int32 → Mem → Option (Int32 × Mem) := fixN (fun _ _ _ => none) (m_tempted_B38 x1 x3 k91) 60000
def m_tempted_B13 (x1 : Int32)  (self : Int32 → Int32 → Mem → Option (Int32 × Mem)) (x2 : Int32) (x3 : Int32) (μ : Mem) : Option (Int32 × Mem) :=
if (nI 24) ≤ x3 then
some (x2, μ) else
if ((x1 >>> (x3 &&& 31)) &&& (nI 1)) = (nI 0) then
self x2 (x3 + (nI 1)) μ else
ob (m_triesFromNow x3 μ) fun _ μ17 =>
m_tempted_L38 x1 x3 (fun (x51 : Int32) (μ52 : Mem) =>
self x51 (x3 + (nI 1)) μ52) x2 (nI 0) μ17
def m_tempted_L13 (x1 : Int32)  : Int32 → Int32 → Mem → Option (Int32 × Mem) := fixN (fun _ _ _ => none) (m_tempted_B13 x1) 60000
def m_tempted  (μ : Mem) : Option (Int32 × Mem) :=
ob (m_copies μ) fun _ μ1 =>
ob (m_canBits μ1) fun r9 μ6 =>
m_tempted_L13 r9  (nI 0) (nI 0) μ6
-- SluiceLogsModel.areDone(I)Z
def m_areDone_B6 (x1 : Int32) (k42 : Mem → Option (Int32 × Mem)) (self : Int32 → Mem → Option (Int32 × Mem)) (x2 : Int32) (μ : Mem) : Option (Int32 × Mem) :=
if x1 ≤ x2 then
k42 μ else
if inB x2 3 = true then
ob (m_canStep (mI μ 97 0 (cl x2)) μ) fun r14 μ11 =>
if r14 = (nI 0) then
some ((nI 0), μ11) else
ob (m_steps (mI μ11 97 0 (cl x2)) μ11) fun _ μ19 =>
self (x2 + (nI 1)) μ19 else none
def m_areDone_L6 (x1 : Int32) (k42 : Mem → Option (Int32 × Mem)) : Int32 → Mem → Option (Int32 × Mem) := fixN (fun _ _ => none) (m_areDone_B6 x1 k42) 60000
def m_areDone (x1 : Int32) (μ : Mem) : Option (Int32 × Mem) :=
ob (m_copies μ) fun _ μ1 =>
m_areDone_L6 x1 (fun  (μ26 : Mem) =>
ob (m_parts μ26) fun _ μ30 =>
if (mI μ30 55 0 56) = (nI 0) then
ob (m_lackingBits μ30) fun r41 μ38 =>
if r41 = (nI 0) then
some ((nI 1), μ38) else
some ((nI 0), μ38) else
some ((nI 0), μ30)) (nI 0) μ1
-- SluiceLogsModel.goesOnTo(I)Z
def m_goesOnTo_B4 (x1 : Int32) (k25 : Int32 → Mem → Option (Int32 × Mem)) (self : Int32 → Mem → Option (Int32 × Mem)) (x2 : Int32) (μ : Mem) : Option (Int32 × Mem) :=
if x2 < (nI 0) then
k25 x2 μ else
if inB x2 3 = true then
if (mI μ 97 0 (cl x2)) = (nI 23) then
self (x2 + (-1 : Int32)) μ else
k25 x2 μ else none
def m_goesOnTo_L4 (x1 : Int32) (k25 : Int32 → Mem → Option (Int32 × Mem)) : Int32 → Mem → Option (Int32 × Mem) := fixN (fun _ _ => none) (m_goesOnTo_B4 x1 k25) 60000
def m_goesOnTo_B43 (x1 : Int32) (x3 : Int32)  (self : Int32 → Mem → Option (Int32 × Mem)) (x4 : Int32) (μ : Mem) : Option (Int32 × Mem) :=
if x1 ≤ x4 then
some ((nI 1), μ) else
if inB x4 3 = true then
self (x4 + (nI 1)) (stI μ 97 0 (cl x4) x3) else none
def m_goesOnTo_L43 (x1 : Int32) (x3 : Int32)  : Int32 → Mem → Option (Int32 × Mem) := fixN (fun _ _ => none) (m_goesOnTo_B43 x1 x3) 60000
def m_goesOnTo (x1 : Int32) (μ : Mem) : Option (Int32 × Mem) :=
m_goesOnTo_L4 x1 (fun (x9 : Int32) (μ10 : Mem) =>
if (nI 0) ≤ x9 then
if inB x9 3 = true then
m_goesOnTo_L43 x1 ((mI μ10 97 0 (cl x9)) + (nI 1))  x9 μ10 else none else
some ((nI 0), μ10)) (x1 - (nI 1)) μ
-- SluiceLogsModel.mendOf()I
def m_mendOf_B9 (x1 : Int32) (k27 : Mem → Option (Int32 × Mem)) (self : Int32 → Mem → Option (Int32 × Mem)) (x2 : Int32) (μ : Mem) : Option (Int32 × Mem) :=
if (nI 3) ≤ x2 then
k27 μ else
if inB x2 3 = true then
self (x2 + (nI 1)) (stI μ 97 0 (cl x2) (nI 0)) else none
def m_mendOf_L9 (x1 : Int32) (k27 : Mem → Option (Int32 × Mem)) : Int32 → Mem → Option (Int32 × Mem) := fixN (fun _ _ => none) (m_mendOf_B9 x1 k27) 60000
def m_mendOf_B29 (x1 : Int32) (k52 : Mem → Option (Int32 × Mem)) (self : Int32 → Mem → Option (Int32 × Mem)) (x2 : Int32) (μ : Mem) : Option (Int32 × Mem) :=
if x2 = (nI 0) then
k52 μ else
ob (m_areDone x1 μ) fun r19 μ16 =>
if r19 = (nI 0) then
ob (m_goesOnTo x1 μ16) fun r27 μ24 =>
self r27 μ24 else
some (x1, μ16)
def m_mendOf_L29 (x1 : Int32) (k52 : Mem → Option (Int32 × Mem)) : Int32 → Mem → Option (Int32 × Mem) := fixN (fun _ _ => none) (m_mendOf_B29 x1 k52) 60000
def m_mendOf_B2   (self : Int32 → Mem → Option (Int32 × Mem)) (x1 : Int32) (μ : Mem) : Option (Int32 × Mem) :=
if (nI 3) < x1 then
some ((-2 : Int32), μ) else
m_mendOf_L9 x1 (fun  (μ9 : Mem) =>
m_mendOf_L29 x1 (fun  (μ31 : Mem) =>
self (x1 + (nI 1)) μ31) (nI 1) μ9) (nI 0) μ
def m_mendOf_L2   : Int32 → Mem → Option (Int32 × Mem) := fixN (fun _ _ => none) (m_mendOf_B2 ) 60000
def m_mendOf  (μ : Mem) : Option (Int32 × Mem) :=
m_mendOf_L2  (nI 0) μ
-- SluiceLogsModel.mend(I)I
def m_mend (x1 : Int32) (μ : Mem) : Option (Int32 × Mem) :=
if (-1 : Int32) ≤ x1 then
ob (m_mendOf μ) fun r7 μ4 =>
if r7 < (nI 0) then
some (r7, μ4) else
if x1 = (-1 : Int32) then
some (r7, μ4) else
if r7 ≤ x1 then
some ((-1 : Int32), μ4) else
if inB x1 3 = true then
some ((mI μ4 97 0 (cl x1)), μ4) else none else
some ((-1 : Int32), μ)
-- SluiceLogsModel.feeds(I)I
def m_feeds_B59 (x2 : Int32)  (self : Int32 → Int32 → Mem → Option (Int32 × Mem)) (x3 : Int32) (x4 : Int32) (μ : Mem) : Option (Int32 × Mem) :=
if inB (mI μ 55 0 18) 2 = true then
if (mI μ 70 0 (cl (mI μ 55 0 18))) ≤ x4 then
some (x3, μ) else
ob (m_fromLog x4 μ) fun r42 μ39 =>
if ((x2 >>> (r42 &&& 31)) &&& (nI 1)) = (nI 1) then
ob (m_wideAt x4 μ39) fun r50 μ47 =>
if r50 ≤ (nI 0) then
self x3 (x4 + (nI 1)) μ47 else
ob (m_toWhere x4 μ47) fun r58 μ55 =>
if r58 < (nI 10) then
self x3 (x4 + (nI 1)) μ55 else
ob (m_toWhere x4 μ55) fun r66 μ63 =>
if (nI 20) ≤ r66 then
self x3 (x4 + (nI 1)) μ63 else
ob (m_toWhere x4 μ63) fun r74 μ71 =>
vb ((x3 ||| ((nI 1) <<< ((r74 - (nI 10)) &&& 31)))) fun v76 : Int32 =>
self v76 (x4 + (nI 1)) μ71 else
self x3 (x4 + (nI 1)) μ39 else none
def m_feeds_L59 (x2 : Int32)  : Int32 → Int32 → Mem → Option (Int32 × Mem) := fixN (fun _ _ _ => none) (m_feeds_B59 x2) 60000
def m_feeds (x1 : Int32) (μ : Mem) : Option (Int32 × Mem) :=
ob (m_isField x1 μ) fun r4 μ1 =>
if r4 = (nI 0) then
some ((-1 : Int32), μ1) else
ob (m_copies μ1) fun _ μ9 =>
if inB x1 33 = true then
if (mI μ9 89 0 (cl x1)) < (nI 0) then
some ((nI 0), μ9) else
if inB ((nI 6) + x1) 33 = true then
if (mI μ9 89 0 (cl ((nI 6) + x1))) = (nI 0) then
some ((nI 0), μ9) else
ob (m_fillsLeads μ9) fun _ μ24 =>
ob (m_comesBy ((nI 1) <<< ((mI μ24 89 0 (cl x1)) &&& 31)) μ24) fun r32 μ29 =>
m_feeds_L59 r32  (nI 0) (nI 0) μ29 else none else none
-- SluiceLogsModel.hangs(I)I
def m_hangs_B37 (x1 : Int32)  (self : Int32 → Int32 → Mem → Option (Int32 × Mem)) (x2 : Int32) (x3 : Int32) (μ : Mem) : Option (Int32 × Mem) :=
if inB (mI μ 55 0 18) 2 = true then
if (mI μ 70 0 (cl (mI μ 55 0 18))) ≤ x3 then
some (x2, μ) else
ob (m_copies μ) fun _ μ30 =>
if inB ((nI 18) + x3) 33 = true then
ob (m_parts (stI μ30 89 0 (cl ((nI 18) + x3)) (nI 0))) fun _ μ37 =>
if (mI μ37 55 0 56) = (nI 0) then
ob (m_fieldOver x1 μ37) fun r48 μ45 =>
if (lg_cmp r48 (0 : Int64)) = (nI 0) then
self (x2 ||| ((nI 1) <<< (x3 &&& 31))) (x3 + (nI 1)) μ45 else
self x2 (x3 + (nI 1)) μ45 else
self x2 (x3 + (nI 1)) μ37 else none else none
def m_hangs_L37 (x1 : Int32)  : Int32 → Int32 → Mem → Option (Int32 × Mem) := fixN (fun _ _ _ => none) (m_hangs_B37 x1) 60000
def m_hangs (x1 : Int32) (μ : Mem) : Option (Int32 × Mem) :=
ob (m_isField x1 μ) fun r4 μ1 =>
if r4 = (nI 0) then
some ((-1 : Int32), μ1) else
ob (m_copies μ1) fun _ μ9 =>
if (mI μ9 55 0 56) = (nI 0) then
ob (m_fieldOver x1 μ9) fun r20 μ17 =>
if (lg_cmp r20 (0 : Int64)) = (nI 0) then
some ((nI 0), μ17) else
m_hangs_L37 x1  (nI 0) (nI 0) μ17 else
some ((nI 0), μ9)
-- SluiceLogsModel.crop(I)I
def m_crop_B27   (self : Int32 → Int32 → Mem → Option (Int32 × Mem)) (x2 : Int32) (x3 : Int32) (μ : Mem) : Option (Int32 × Mem) :=
if inB (mI μ 55 0 18) 2 = true then
if (mI μ 66 0 (cl (mI μ 55 0 18))) ≤ x3 then
some (x2, μ) else
if inB ((nI 12) + x3) 33 = true then
vb ((x2 + ((mI μ 89 0 (cl ((nI 12) + x3))) - (mI μ 88 0 (cl ((nI 12) + x3)))))) fun v26 : Int32 =>
self v26 (x3 + (nI 1)) μ else none else none
def m_crop_L27   : Int32 → Int32 → Mem → Option (Int32 × Mem) := fixN (fun _ _ _ => none) (m_crop_B27 ) 60000
def m_crop (x1 : Int32) (μ : Mem) : Option (Int32 × Mem) :=
ob (m_isLong x1 μ) fun r4 μ1 =>
if r4 = (nI 0) then
some ((-1 : Int32), μ1) else
ob (m_copies μ1) fun _ μ9 =>
ob (m_goes x1 (stI μ9 55 0 53 (nI 1))) fun _ μ14 =>
m_crop_L27  (nI 0) (nI 0) μ14
-- SluiceLogsModel.again(II)I
def m_again (x1 : Int32) (x2 : Int32) (μ : Mem) : Option (Int32 × Mem) :=
ob (m_isField x1 μ) fun r4 μ1 =>
if r4 = (nI 0) then
some ((-1 : Int32), μ1) else
ob (m_in x2 (nI 0) (nI 3) μ1) fun r12 μ9 =>
if r12 = (nI 0) then
some ((-1 : Int32), μ9) else
if inB (mI μ9 55 0 18) 2 = true then
if (mI μ9 65 0 (cl (mI μ9 55 0 18))) = (nI 0) then
some ((-1 : Int32), μ9) else
ob (m_copies μ9) fun _ μ22 =>
if inB ((nI 6) + x1) 33 = true then
if inB x1 33 = true then
if (nI 0) ≤ (mI (stI μ22 89 0 (cl ((nI 6) + x1)) x2) 89 0 (cl x1)) then
ob (m_parts (stI μ22 89 0 (cl ((nI 6) + x1)) x2)) fun _ μ34 =>
ob (m_flowOf x1 μ34) fun r42 μ39 =>
some (r42, μ39) else
mb (stI (stI μ22 89 0 (cl ((nI 6) + x1)) x2) 89 0 (cl x1) (nI 0)) fun μ46 =>
ob (m_parts μ46) fun _ μ48 =>
ob (m_flowOf x1 μ48) fun r56 μ53 =>
some (r56, μ53) else none else none else none
-- SluiceLogsModel.swap()I
def m_swap_B35 (x3 : Int32) (k131 : Int32 → Int32 → Mem → Option (Int32 × Mem)) (self : Int32 → Int32 → Int32 → Mem → Option (Int32 × Mem)) (x1 : Int32) (x2 : Int32) (x4 : Int32) (μ : Mem) : Option (Int32 × Mem) :=
if inB (mI μ 55 0 18) 2 = true then
if (mI μ 70 0 (cl (mI μ 55 0 18))) ≤ x4 then
k131 x1 x2 μ else
ob (m_copies μ) fun _ μ26 =>
if inB ((nI 18) + x4) 33 = true then
if inB ((nI 18) + x3) 33 = true then
mb (stI μ26 89 0 (cl ((nI 18) + x3)) (mI μ26 88 0 (cl ((nI 18) + x4)))) fun μ35 =>
mb (stI μ35 89 0 (cl ((nI 18) + x4)) (mI μ35 88 0 (cl ((nI 18) + x3)))) fun μ37 =>
ob (m_parts μ37) fun _ μ39 =>
ob (m_lackingBits μ39) fun r47 μ44 =>
ob (m_bits r47 μ44) fun r52 μ49 =>
if r52 < x1 then
ob (m_lackingBits μ49) fun r60 μ57 =>
ob (m_bits r60 μ57) fun r65 μ62 =>
self r65 (((nI 100) * x3) + x4) (x4 + (nI 1)) μ62 else
self x1 x2 (x4 + (nI 1)) μ49 else none else none else none
def m_swap_L35 (x3 : Int32) (k131 : Int32 → Int32 → Mem → Option (Int32 × Mem)) : Int32 → Int32 → Int32 → Mem → Option (Int32 × Mem) := fixN (fun _ _ _ _ => none) (m_swap_B35 x3 k131) 60000
def m_swap_B17   (self : Int32 → Int32 → Int32 → Mem → Option (Int32 × Mem)) (x1 : Int32) (x2 : Int32) (x3 : Int32) (μ : Mem) : Option (Int32 × Mem) :=
if inB (mI μ 55 0 18) 2 = true then
if (mI μ 70 0 (cl (mI μ 55 0 18))) ≤ x3 then
some (x2, μ) else
m_swap_L35 x3 (fun (x73 : Int32) (x74 : Int32) (μ75 : Mem) =>
self x73 x74 (x3 + (nI 1)) μ75) x1 x2 (x3 + (nI 1)) μ else none
def m_swap_L17   : Int32 → Int32 → Int32 → Mem → Option (Int32 × Mem) := fixN (fun _ _ _ _ => none) (m_swap_B17 ) 60000
def m_swap  (μ : Mem) : Option (Int32 × Mem) :=
ob (m_copies μ) fun _ μ1 =>
ob (m_lackingBits μ1) fun r9 μ6 =>
ob (m_bits r9 μ6) fun r14 μ11 =>
m_swap_L17  r14 (-2 : Int32) (nI 0) μ11
-- SluiceLogsModel.grownIn(II)I
def m_grownIn (x1 : Int32) (x2 : Int32) (μ : Mem) : Option (Int32 × Mem) :=
ob (m_isField x1 μ) fun r4 μ1 =>
if r4 = (nI 0) then
some ((-1 : Int32), μ1) else
ob (m_isLong x2 μ1) fun r12 μ9 =>
if r12 = (nI 0) then
some ((-1 : Int32), μ9) else
ob (m_copies μ9) fun _ μ17 =>
ob (m_goes x2 μ17) fun _ μ22 =>
if inB ((nI 12) + x1) 33 = true then
some ((mI μ22 89 0 (cl ((nI 12) + x1))), μ22) else none
-- SluiceLogsModel.wideIn(II)I
def m_wideIn (x1 : Int32) (x2 : Int32) (μ : Mem) : Option (Int32 × Mem) :=
ob (m_isNotch x1 μ) fun r4 μ1 =>
if r4 = (nI 0) then
some ((-1 : Int32), μ1) else
ob (m_isLong x2 μ1) fun r12 μ9 =>
if r12 = (nI 0) then
some ((-1 : Int32), μ9) else
ob (m_copies μ9) fun _ μ17 =>
ob (m_goes x2 μ17) fun _ μ22 =>
ob (m_wideAt x1 μ22) fun r30 μ27 =>
some (r30, μ27)
-- SluiceLogsModel.year(III)I
def m_year_B33 (x1 : Int32) (x2 : Int32) (x3 : Int32)  (self : Int32 → Int32 → Mem → Option (Int32 × Mem)) (x4 : Int32) (x5 : Int32) (μ : Mem) : Option (Int32 × Mem) :=
if x3 ≤ x5 then
some (x4, μ) else
ob (m_copies μ) fun _ μ28 =>
ob (m_goes x2 (stI μ28 55 0 52 ((mI μ28 55 0 52) + x5))) fun _ μ33 =>
ob (m_isLacking x1 μ33) fun r41 μ38 =>
if r41 = (nI 0) then
self x4 (x5 + (nI 1)) μ38 else
self (x4 + (nI 1)) (x5 + (nI 1)) μ38
def m_year_L33 (x1 : Int32) (x2 : Int32) (x3 : Int32)  : Int32 → Int32 → Mem → Option (Int32 × Mem) := fixN (fun _ _ _ => none) (m_year_B33 x1 x2 x3) 60000
def m_year (x1 : Int32) (x2 : Int32) (x3 : Int32) (μ : Mem) : Option (Int32 × Mem) :=
ob (m_isField x1 μ) fun r4 μ1 =>
if r4 = (nI 0) then
some ((-1 : Int32), μ1) else
ob (m_isLong x2 μ1) fun r12 μ9 =>
if r12 = (nI 0) then
some ((-1 : Int32), μ9) else
ob (m_in x3 (nI 1) (nI 20) μ9) fun r20 μ17 =>
if r20 = (nI 0) then
some ((-1 : Int32), μ17) else
m_year_L33 x1 x2 x3  (nI 0) (nI 0) μ17
-- SluiceLogsModel.tell(IIZ)I
def m_tell (x1 : Int32) (x2 : Int32) (x3 : Int32) (μ : Mem) : Option (Int32 × Mem) :=
if (mI μ 55 0 67) = (nI 20) then
some ((-1 : Int32), μ) else
ob (m_isField x1 μ) fun r7 μ4 =>
if r7 = (nI 0) then
some ((-1 : Int32), μ4) else
ob (m_in x2 (nI 0) (nI 2) μ4) fun r15 μ12 =>
if r15 = (nI 0) then
some ((-1 : Int32), μ12) else
if inB (mI μ12 55 0 67) 20 = true then
if inB (mI (stI μ12 98 0 (cl (mI μ12 55 0 67)) x1) 55 0 67) 20 = true then
mb (stI (stI μ12 98 0 (cl (mI μ12 55 0 67)) x1) 99 0 (cl (mI (stI μ12 98 0 (cl (mI μ12 55 0 67)) x1) 55 0 67)) x2) fun μ24 =>
if inB (mI μ24 55 0 67) 20 = true then
mb (stI μ24 100 0 (cl (mI μ24 55 0 67)) (x3 &&& 1)) fun μ28 =>
mb (stI μ28 55 0 67 ((mI μ28 55 0 67) + (nI 1))) fun μ30 =>
some (((mI μ30 55 0 67) - (nI 1)), μ30) else none else none else none
-- SluiceLogsModel.forget()I
def m_forget  (μ : Mem) : Option (Int32 × Mem) :=
some ((mI μ 55 0 67), (stI μ 55 0 67 (nI 0)))
-- SluiceLogsModel.fitBits(I)I
def m_fitBits_B42 (x1 : Int32) (x2 : Int32) (x3 : Int32) (x4 : Int32) (k81 : Mem → Option (Int32 × Mem)) (self : Int32 → Mem → Option (Int32 × Mem)) (x5 : Int32) (μ : Mem) : Option (Int32 × Mem) :=
if inB (mI μ 55 0 18) 2 = true then
if (mI μ 66 0 (cl (mI μ 55 0 18))) ≤ x5 then
k81 μ else
ob (m_feelsOf x5 μ) fun r30 μ27 =>
if inB (((nI 6) * x4) + x5) 144 = true then
mb (stI μ27 101 0 (cl (((nI 6) * x4) + x5)) r30) fun μ34 =>
self (x5 + (nI 1)) μ34 else none else none
def m_fitBits_L42 (x1 : Int32) (x2 : Int32) (x3 : Int32) (x4 : Int32) (k81 : Mem → Option (Int32 × Mem)) : Int32 → Mem → Option (Int32 × Mem) := fixN (fun _ _ => none) (m_fitBits_B42 x1 x2 x3 x4 k81) 60000
def m_fitBits_B87 (x1 : Int32) (x2 : Int32) (x3 : Int32) (x4 : Int32) (k145 : Int32 → Mem → Option (Int32 × Mem)) (self : Int32 → Int32 → Mem → Option (Int32 × Mem)) (x5 : Int32) (x6 : Int32) (μ : Mem) : Option (Int32 × Mem) :=
if x1 ≤ x6 then
k145 x5 μ else
if inB x6 20 = true then
if inB (((nI 6) * x4) + (mI μ 98 0 (cl x6))) 144 = true then
if (mI μ 101 0 (cl (((nI 6) * x4) + (mI μ 98 0 (cl x6))))) = (mI μ 99 0 (cl x6)) then
if (nI 1) = (mI μ 100 0 (cl x6)) then
self x5 (x6 + (nI 1)) μ else
self (nI 0) (x6 + (nI 1)) μ else
if (nI 0) = (mI μ 100 0 (cl x6)) then
self x5 (x6 + (nI 1)) μ else
self (nI 0) (x6 + (nI 1)) μ else none else none
def m_fitBits_L87 (x1 : Int32) (x2 : Int32) (x3 : Int32) (x4 : Int32) (k145 : Int32 → Mem → Option (Int32 × Mem)) : Int32 → Int32 → Mem → Option (Int32 × Mem) := fixN (fun _ _ _ => none) (m_fitBits_B87 x1 x2 x3 x4 k145) 60000
def m_fitBits_B14 (x1 : Int32) (x2 : Int32)  (self : Int32 → Int32 → Mem → Option (Int32 × Mem)) (x3 : Int32) (x4 : Int32) (μ : Mem) : Option (Int32 × Mem) :=
if (nI 24) ≤ x4 then
some (x3, μ) else
if ((x2 >>> (x4 &&& 31)) &&& (nI 1)) = (nI 0) then
self x3 (x4 + (nI 1)) μ else
ob (m_triesFromNow x4 μ) fun _ μ17 =>
m_fitBits_L42 x1 x2 x3 x4 (fun  (μ37 : Mem) =>
m_fitBits_L87 x1 x2 x3 x4 (fun (x57 : Int32) (μ58 : Mem) =>
if x57 = (nI 0) then
self x3 (x4 + (nI 1)) μ58 else
self (x3 ||| ((nI 1) <<< (x4 &&& 31))) (x4 + (nI 1)) μ58) (nI 1) (nI 0) μ37) (nI 0) μ17
def m_fitBits_L14 (x1 : Int32) (x2 : Int32)  : Int32 → Int32 → Mem → Option (Int32 × Mem) := fixN (fun _ _ _ => none) (m_fitBits_B14 x1 x2) 60000
def m_fitBits (x1 : Int32) (μ : Mem) : Option (Int32 × Mem) :=
ob (m_copies μ) fun _ μ1 =>
ob (m_canBits μ1) fun r9 μ6 =>
m_fitBits_L14 x1 r9  (nI 0) (nI 0) μ6
-- SluiceLogsModel.fits(II)I
def m_fits (x1 : Int32) (x2 : Int32) (μ : Mem) : Option (Int32 × Mem) :=
ob (m_in x1 (nI 0) (mI μ 55 0 67) μ) fun r4 μ1 =>
if r4 = (nI 0) then
some ((-1 : Int32), μ1) else
ob (m_in x2 (nI 0) (nI 1) μ1) fun r12 μ9 =>
if r12 = (nI 0) then
some ((-1 : Int32), μ9) else
ob (m_fitBits x1 μ9) fun r20 μ17 =>
if x2 = (nI 0) then
ob (m_bits r20 μ17) fun r28 μ25 =>
some (r28, μ25) else
some (r20, μ17)
-- SluiceLogsModel.worstBy(II)I
def m_worstBy_B17 (x1 : Int32) (x2 : Int32) (x3 : Int32) (x4 : Int32) (k60 : Int32 → Mem → Option (Int32 × Mem)) (self : Int32 → Int32 → Mem → Option (Int32 × Mem)) (x5 : Int32) (x6 : Int32) (μ : Mem) : Option (Int32 × Mem) :=
if (nI 24) ≤ x6 then
k60 x5 μ else
if ((x1 >>> (x6 &&& 31)) &&& (nI 1)) = (nI 1) then
if inB (((nI 6) * x6) + x2) 144 = true then
if (mI μ 101 0 (cl (((nI 6) * x6) + x2))) = x4 then
self (x5 + (nI 1)) (x6 + (nI 1)) μ else
self x5 (x6 + (nI 1)) μ else none else
self x5 (x6 + (nI 1)) μ
def m_worstBy_L17 (x1 : Int32) (x2 : Int32) (x3 : Int32) (x4 : Int32) (k60 : Int32 → Mem → Option (Int32 × Mem)) : Int32 → Int32 → Mem → Option (Int32 × Mem) := fixN (fun _ _ _ => none) (m_worstBy_B17 x1 x2 x3 x4 k60) 60000
def m_worstBy_B5 (x1 : Int32) (x2 : Int32)  (self : Int32 → Int32 → Mem → Option (Int32 × Mem)) (x3 : Int32) (x4 : Int32) (μ : Mem) : Option (Int32 × Mem) :=
if (nI 3) ≤ x4 then
some (x3, μ) else
m_worstBy_L17 x1 x2 x3 x4 (fun (x15 : Int32) (μ16 : Mem) =>
if x15 ≤ x3 then
self x3 (x4 + (nI 1)) μ16 else
self x15 (x4 + (nI 1)) μ16) (nI 0) (nI 0) μ
def m_worstBy_L5 (x1 : Int32) (x2 : Int32)  : Int32 → Int32 → Mem → Option (Int32 × Mem) := fixN (fun _ _ _ => none) (m_worstBy_B5 x1 x2) 60000
def m_worstBy (x1 : Int32) (x2 : Int32) (μ : Mem) : Option (Int32 × Mem) :=
m_worstBy_L5 x1 x2  (nI 0) (nI 0) μ
-- SluiceLogsModel.ask(I)I
def m_ask_B29 (x2 : Int32)  (self : Int32 → Int32 → Int32 → Mem → Option (Int32 × Mem)) (x3 : Int32) (x4 : Int32) (x5 : Int32) (μ : Mem) : Option (Int32 × Mem) :=
if inB (mI μ 55 0 18) 2 = true then
if (mI μ 66 0 (cl (mI μ 55 0 18))) ≤ x5 then
some (x3, μ) else
if x2 = (nI 0) then
some (x3, μ) else
ob (m_worstBy x2 x5 μ) fun r25 μ22 =>
if x3 < (nI 0) then
self x5 r25 (x5 + (nI 1)) μ22 else
if r25 < x4 then
self x5 r25 (x5 + (nI 1)) μ22 else
self x3 x4 (x5 + (nI 1)) μ22 else none
def m_ask_L29 (x2 : Int32)  : Int32 → Int32 → Int32 → Mem → Option (Int32 × Mem) := fixN (fun _ _ _ _ => none) (m_ask_B29 x2) 60000
def m_ask (x1 : Int32) (μ : Mem) : Option (Int32 × Mem) :=
ob (m_in x1 (nI 0) (mI μ 55 0 67) μ) fun r4 μ1 =>
if r4 = (nI 0) then
some ((-1 : Int32), μ1) else
ob (m_fitBits x1 μ1) fun r12 μ9 =>
m_ask_L29 r12  (-2 : Int32) (nI 0) (nI 0) μ9
-- SluiceLogsModel.hold(I)Z
def m_hold_B20 (x1 : Int32)  (self : Int32 → Mem → Option (Int32 × Mem)) (x2 : Int32) (μ : Mem) : Option (Int32 × Mem) :=
if (nI 33) ≤ x2 then
some ((nI 1), μ) else
if inB x2 33 = true then
if inB (((nI 33) * x1) + x2) 99 = true then
mb (stI μ 103 0 (cl (((nI 33) * x1) + x2)) (mI μ 88 0 (cl x2))) fun μ18 =>
self (x2 + (nI 1)) μ18 else none else none
def m_hold_L20 (x1 : Int32)  : Int32 → Mem → Option (Int32 × Mem) := fixN (fun _ _ => none) (m_hold_B20 x1) 60000
def m_hold (x1 : Int32) (μ : Mem) : Option (Int32 × Mem) :=
ob (m_in x1 (nI 0) (nI 2) μ) fun r4 μ1 =>
if r4 = (nI 0) then
some ((nI 0), μ1) else
if inB x1 3 = true then
m_hold_L20 x1  (nI 0) (stI μ1 102 0 (cl x1) ((nI 1) &&& 1)) else none
-- SluiceLogsModel.restore(I)Z
def m_restore_B22 (x1 : Int32)  (self : Int32 → Mem → Option (Int32 × Mem)) (x2 : Int32) (μ : Mem) : Option (Int32 × Mem) :=
if (nI 33) ≤ x2 then
some ((nI 1), (stI μ 55 0 61 (nI 0))) else
if inB (((nI 33) * x1) + x2) 99 = true then
if inB x2 33 = true then
mb (stI μ 88 0 (cl x2) (mI μ 103 0 (cl (((nI 33) * x1) + x2)))) fun μ21 =>
self (x2 + (nI 1)) μ21 else none else none
def m_restore_L22 (x1 : Int32)  : Int32 → Mem → Option (Int32 × Mem) := fixN (fun _ _ => none) (m_restore_B22 x1) 60000
def m_restore (x1 : Int32) (μ : Mem) : Option (Int32 × Mem) :=
ob (m_in x1 (nI 0) (nI 2) μ) fun r4 μ1 =>
if r4 = (nI 0) then
some ((nI 0), μ1) else
if inB x1 3 = true then
if (mI μ1 102 0 (cl x1)) = (nI 0) then
some ((nI 0), μ1) else
m_restore_L22 x1  (nI 0) μ1 else none
-- SluiceLogsModel.count(I)I
def m_count_B145   (self : Int32 → Int32 → Mem → Option (Int32 × Mem)) (x2 : Int32) (x3 : Int32) (μ : Mem) : Option (Int32 × Mem) :=
if inB (mI μ 55 0 18) 2 = true then
if (mI μ 66 0 (cl (mI μ 55 0 18))) ≤ x3 then
some (x2, μ) else
ob (m_flowOf x3 μ) fun r32 μ29 =>
self (x2 + r32) (x3 + (nI 1)) μ29 else none
def m_count_L145   : Int32 → Int32 → Mem → Option (Int32 × Mem) := fixN (fun _ _ _ => none) (m_count_B145 ) 60000
def m_count_B236   (self : Int32 → Int32 → Mem → Option (Int32 × Mem)) (x2 : Int32) (x3 : Int32) (μ : Mem) : Option (Int32 × Mem) :=
if inB (mI μ 55 0 18) 2 = true then
if (mI μ 66 0 (cl (mI μ 55 0 18))) ≤ x3 then
some (x2, μ) else
if inB ((nI 12) + x3) 33 = true then
self (x2 + (mI μ 89 0 (cl ((nI 12) + x3)))) (x3 + (nI 1)) μ else none else none
def m_count_L236   : Int32 → Int32 → Mem → Option (Int32 × Mem) := fixN (fun _ _ _ => none) (m_count_B236 ) 60000
def m_count (x1 : Int32) (μ : Mem) : Option (Int32 × Mem) :=
ob (m_copies μ) fun _ μ1 =>
if x1 = (nI 0) then
if inB (mI μ1 55 0 18) 2 = true then
some ((mI μ1 65 0 (cl (mI μ1 55 0 18))), μ1) else none else
if x1 = (nI 1) then
if inB (mI μ1 55 0 18) 2 = true then
some ((mI μ1 66 0 (cl (mI μ1 55 0 18))), μ1) else none else
if x1 = (nI 2) then
if inB (mI μ1 55 0 18) 2 = true then
some ((mI μ1 70 0 (cl (mI μ1 55 0 18))), μ1) else none else
if x1 = (nI 3) then
some ((mI μ1 89 0 31), μ1) else
if x1 = (nI 4) then
some ((mI μ1 89 0 32), μ1) else
if x1 = (nI 5) then
some ((mI μ1 89 0 30), μ1) else
if x1 = (nI 6) then
if (mI μ1 55 0 56) = (nI 0) then
some ((nI 0), μ1) else
some ((nI 1), μ1) else
if x1 = (nI 7) then
m_count_L145  (nI 0) (nI 0) μ1 else
if x1 = (nI 8) then
some ((mI μ1 55 0 2), μ1) else
if x1 = (nI 9) then
some ((mI μ1 55 0 61), μ1) else
if x1 = (nI 10) then
some ((mI μ1 55 0 67), μ1) else
if x1 = (nI 11) then
if (mI μ1 102 0 0) = (nI 0) then
if (mI μ1 102 0 1) = (nI 0) then
if (mI μ1 102 0 2) = (nI 0) then
some ((((nI 0) + (nI 0)) + (nI 0)), μ1) else
some ((((nI 0) + (nI 0)) + (nI 1)), μ1) else
if (mI μ1 102 0 2) = (nI 0) then
some ((((nI 0) + (nI 1)) + (nI 0)), μ1) else
some ((((nI 0) + (nI 1)) + (nI 1)), μ1) else
if (mI μ1 102 0 1) = (nI 0) then
if (mI μ1 102 0 2) = (nI 0) then
some ((((nI 1) + (nI 0)) + (nI 0)), μ1) else
some ((((nI 1) + (nI 0)) + (nI 1)), μ1) else
if (mI μ1 102 0 2) = (nI 0) then
some ((((nI 1) + (nI 1)) + (nI 0)), μ1) else
some ((((nI 1) + (nI 1)) + (nI 1)), μ1) else
if x1 = (nI 12) then
m_count_L236  (nI 0) (nI 0) μ1 else
if x1 = (nI 13) then
ob (m_canBits μ1) fun r72 μ69 =>
some (r72, μ69) else
some ((-1 : Int32), μ1)

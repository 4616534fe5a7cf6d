/-- SluiceLogs$Past.<init>()V -/
def bk_0 : Nat → List Ins := fun t => match t with
  | 0 => [(.aload_n 0, 0, 0, 0, 0), (.invokespecial 3, 0, 4, 0, 0), (.aload_n 0, 0, 0, 0, 0), (.bipush 40, 0, 0, 0, 0), (.anewarray 9, 45, 0, 0, 0), (.putfield 11, 0, 0, 2, 0), (.aload_n 0, 0, 0, 0, 0), (.iconst 0, 0, 0, 0, 0), (.putfield 17, 0, 1, 0, 0), (.aload_n 0, 0, 0, 0, 0), (.iconst 0, 0, 0, 0, 0), (.putfield 21, 0, 2, 0, 0), (.iconst 0, 0, 0, 0, 0), (.istore_n 1, 1, 0, 0, 0)]
  | 25 => [(.iload_n 1, 1, 0, 0, 0), (.bipush 40, 0, 0, 0, 0), (.if_icmp .ge 22, 50, 0, 0, 0), (.aload_n 0, 0, 0, 0, 0), (.getfield 11, 0, 0, 2, 0), (.iload_n 1, 1, 0, 0, 0), (.new 9, 26, 0, 0, 0), (.dup, 0, 0, 0, 0), (.invokespecial 24, 36, 3, 0, 1), (.aastore, 0, 0, 0, 0), (.iinc 1 1, 1, 0, 0, 0), (.goto (-22), 25, 0, 0, 0)]
  | 50 => [(.return_, 0, 0, 0, 0)]
  | _ => []
set_option maxRecDepth 20000 in
theorem ck_0 : ∀ t, chkL 0 t (bk_0 t) = true := by
  intro t
  unfold bk_0
  split <;> first | decide +kernel | rfl
def cu_0 : Nat → Option (List Nat) := fun t => match t with | 25 => some [0, 1] | _ => none
/-- SluiceLogs$Past.push(LSluiceLogs$State;)V -/
def bk_1 : Nat → List Ins := fun t => match t with
  | 0 => [(.aload_n 0, 0, 0, 0, 0), (.aload_n 0, 0, 0, 0, 0), (.getfield 17, 0, 1, 0, 0), (.iconst 1, 0, 0, 0, 0), (.iadd, 0, 0, 0, 0), (.bipush 40, 0, 0, 0, 0), (.if_icmp .ge 12, 21, 0, 0, 0), (.aload_n 0, 0, 0, 0, 0), (.getfield 17, 0, 1, 0, 0), (.iconst 1, 0, 0, 0, 0), (.iadd, 0, 0, 0, 0), (.goto 4, 22, 0, 0, 0)]
  | 21 => [(.iconst 0, 0, 0, 0, 0)]
  | 22 => [(.putfield 17, 0, 1, 0, 0), (.aload_n 0, 0, 0, 0, 0), (.getfield 11, 0, 0, 2, 0), (.aload_n 0, 0, 0, 0, 0), (.getfield 17, 0, 1, 0, 0), (.aaload, 0, 0, 0, 0), (.aload_n 1, 1, 0, 0, 0), (.invokevirtual 25, 38, 103, 1, 2), (.aload_n 0, 0, 0, 0, 0), (.aload_n 0, 0, 0, 0, 0), (.getfield 21, 0, 2, 0, 0), (.iconst 1, 0, 0, 0, 0), (.iadd, 0, 0, 0, 0), (.bipush 40, 0, 0, 0, 0), (.invokestatic 29, 286, 0, 2, 2), (.putfield 21, 0, 2, 0, 0), (.return_, 0, 0, 0, 0)]
  | _ => []
set_option maxRecDepth 20000 in
theorem ck_1 : ∀ t, chkL 1 t (bk_1 t) = true := by
  intro t
  unfold bk_1
  split <;> first | decide +kernel | rfl
def cu_1 : Nat → Option (List Nat) := fun _ => none
/-- SluiceLogs$Past.pop(LSluiceLogs$State;)Z -/
def bk_2 : Nat → List Ins := fun t => match t with
  | 0 => [(.aload_n 0, 0, 0, 0, 0), (.getfield 21, 0, 2, 0, 0), (.ifCond .ne 5, 9, 0, 0, 0), (.iconst 0, 0, 0, 0, 0), (.ireturn, 3, 0, 0, 0)]
  | 9 => [(.aload_n 1, 1, 0, 0, 0), (.aload_n 0, 0, 0, 0, 0), (.getfield 11, 0, 0, 2, 0), (.aload_n 0, 0, 0, 0, 0), (.getfield 17, 0, 1, 0, 0), (.aaload, 0, 0, 0, 0), (.invokevirtual 25, 38, 103, 1, 2), (.aload_n 0, 0, 0, 0, 0), (.aload_n 0, 0, 0, 0, 0), (.getfield 17, 0, 1, 0, 0), (.ifCond .le 12, 39, 0, 0, 0), (.aload_n 0, 0, 0, 0, 0), (.getfield 17, 0, 1, 0, 0), (.iconst 1, 0, 0, 0, 0), (.isub, 0, 0, 0, 0), (.goto 5, 41, 0, 0, 0)]
  | 39 => [(.bipush 39, 0, 0, 0, 0)]
  | 41 => [(.putfield 17, 0, 1, 0, 0), (.aload_n 0, 0, 0, 0, 0), (.dup, 0, 0, 0, 0), (.getfield 21, 0, 2, 0, 0), (.iconst 1, 0, 0, 0, 0), (.isub, 0, 0, 0, 0), (.putfield 21, 0, 2, 0, 0), (.iconst 1, 0, 0, 0, 0), (.ireturn, 3, 0, 0, 0)]
  | _ => []
set_option maxRecDepth 20000 in
theorem ck_2 : ∀ t, chkL 2 t (bk_2 t) = true := by
  intro t
  unfold bk_2
  split <;> first | decide +kernel | rfl
def cu_2 : Nat → Option (List Nat) := fun _ => none
/-- SluiceLogs$Plan.<init>()V -/
def bk_3 : Nat → List Ins := fun t => match t with
  | 0 => [(.aload_n 0, 0, 0, 0, 0), (.invokespecial 5, 0, 4, 0, 0), (.aload_n 0, 0, 0, 0, 0), (.iconst 4, 0, 0, 0, 0), (.newarray .long, 19, 0, 0, 0), (.putfield 11, 1, 4, 2, 0), (.aload_n 0, 0, 0, 0, 0), (.bipush 6, 0, 0, 0, 0), (.newarray .long, 20, 0, 0, 0), (.putfield 15, 1, 5, 2, 0), (.aload_n 0, 0, 0, 0, 0), (.bipush 6, 0, 0, 0, 0), (.newarray .int, 21, 0, 0, 0), (.putfield 18, 1, 6, 2, 0), (.aload_n 0, 0, 0, 0, 0), (.bipush 12, 0, 0, 0, 0), (.newarray .int, 22, 0, 0, 0), (.putfield 22, 1, 7, 2, 0), (.aload_n 0, 0, 0, 0, 0), (.bipush 12, 0, 0, 0, 0), (.newarray .int, 23, 0, 0, 0), (.putfield 25, 1, 8, 2, 0), (.aload_n 0, 0, 0, 0, 0), (.iconst 4, 0, 0, 0, 0), (.newarray .int, 24, 0, 0, 0), (.putfield 28, 1, 9, 2, 0), (.aload_n 0, 0, 0, 0, 0), (.sipush 408, 0, 0, 0, 0), (.newarray .int, 25, 0, 0, 0), (.putfield 31, 1, 10, 2, 0), (.aload_n 0, 0, 0, 0, 0), (.new 34, 26, 0, 0, 0), (.dup, 0, 0, 0, 0), (.invokespecial 36, 36, 3, 0, 1), (.putfield 37, 1, 12, 2, 0), (.return_, 0, 0, 0, 0)]
  | _ => []
set_option maxRecDepth 20000 in
theorem ck_3 : ∀ t, chkL 3 t (bk_3 t) = true := by
  intro t
  unfold bk_3
  split <;> first | decide +kernel | rfl
def cu_3 : Nat → Option (List Nat) := fun _ => none
/-- SluiceLogs$Plan.empty()V -/
def bk_4 : Nat → List Ins := fun t => match t with
  | 0 => [(.aload_n 0, 0, 0, 0, 0), (.iconst 0, 0, 0, 0, 0), (.putfield 41, 1, 0, 0, 0), (.aload_n 0, 0, 0, 0, 0), (.iconst 0, 0, 0, 0, 0), (.putfield 45, 1, 1, 0, 0), (.aload_n 0, 0, 0, 0, 0), (.iconst 0, 0, 0, 0, 0), (.putfield 48, 1, 2, 0, 0), (.aload_n 0, 0, 0, 0, 0), (.iconst 0, 0, 0, 0, 0), (.putfield 51, 1, 3, 0, 0), (.aload_n 0, 0, 0, 0, 0), (.getfield 37, 1, 12, 2, 0), (.invokevirtual 54, 37, 103, 0, 1), (.aload_n 0, 0, 0, 0, 0), (.iconst 0, 0, 0, 0, 0), (.putfield 57, 1, 11, 0, 0), (.aload_n 0, 0, 0, 0, 0), (.iconst 0, 0, 0, 0, 0), (.sipush 10001, 0, 0, 0, 0), (.invokevirtual 60, 5, 101, 2, 3), (.aload_n 0, 0, 0, 0, 0), (.iconst 1, 0, 0, 0, 0), (.sipush 10000, 0, 0, 0, 0), (.invokevirtual 60, 5, 101, 2, 3), (.aload_n 0, 0, 0, 0, 0), (.iconst 2, 0, 0, 0, 0), (.iconst 1, 0, 0, 0, 0), (.invokevirtual 60, 5, 101, 2, 3), (.aload_n 0, 0, 0, 0, 0), (.iconst 3, 0, 0, 0, 0), (.iconst 0, 0, 0, 0, 0), (.invokevirtual 60, 5, 101, 2, 3), (.return_, 0, 0, 0, 0)]
  | _ => []
set_option maxRecDepth 20000 in
theorem ck_4 : ∀ t, chkL 4 t (bk_4 t) = true := by
  intro t
  unfold bk_4
  split <;> first | decide +kernel | rfl
def cu_4 : Nat → Option (List Nat) := fun _ => none
/-- SluiceLogs$Plan.addUntoldLaw(II)V -/
def bk_5 : Nat → List Ins := fun t => match t with
  | 0 => [(.aload_n 0, 0, 0, 0, 0), (.getfield 28, 1, 9, 2, 0), (.iload_n 1, 1, 0, 0, 0), (.aload_n 0, 0, 0, 0, 0), (.getfield 57, 1, 11, 0, 0), (.iastore, 0, 0, 0, 0), (.aload_n 0, 0, 0, 0, 0), (.iload_n 2, 2, 0, 0, 0), (.invokevirtual 64, 6, 101, 1, 2), (.aload_n 0, 0, 0, 0, 0), (.sipush 20006, 0, 0, 0, 0), (.invokevirtual 64, 6, 101, 1, 2), (.return_, 0, 0, 0, 0)]
  | _ => []
set_option maxRecDepth 20000 in
theorem ck_5 : ∀ t, chkL 5 t (bk_5 t) = true := by
  intro t
  unfold bk_5
  split <;> first | decide +kernel | rfl
def cu_5 : Nat → Option (List Nat) := fun _ => none
/-- SluiceLogs$Plan.addCode(I)V -/
def bk_6 : Nat → List Ins := fun t => match t with
  | 0 => [(.aload_n 0, 0, 0, 0, 0), (.getfield 57, 1, 11, 0, 0), (.sipush 408, 0, 0, 0, 0), (.if_icmp .ge 23, 30, 0, 0, 0), (.aload_n 0, 0, 0, 0, 0), (.getfield 31, 1, 10, 2, 0), (.aload_n 0, 0, 0, 0, 0), (.getfield 57, 1, 11, 0, 0), (.iload_n 1, 1, 0, 0, 0), (.iastore, 0, 0, 0, 0), (.aload_n 0, 0, 0, 0, 0), (.dup, 0, 0, 0, 0), (.getfield 57, 1, 11, 0, 0), (.iconst 1, 0, 0, 0, 0), (.iadd, 0, 0, 0, 0), (.putfield 57, 1, 11, 0, 0)]
  | 30 => [(.return_, 0, 0, 0, 0)]
  | _ => []
set_option maxRecDepth 20000 in
theorem ck_6 : ∀ t, chkL 6 t (bk_6 t) = true := by
  intro t
  unfold bk_6
  split <;> first | decide +kernel | rfl
def cu_6 : Nat → Option (List Nat) := fun _ => none
/-- SluiceLogs$Plan.elseBehind(I)I -/
def bk_7 : Nat → List Ins := fun t => match t with
  | 0 => [(.iload_n 1, 1, 0, 0, 0), (.istore_n 2, 2, 0, 0, 0)]
  | 2 => [(.iload_n 2, 2, 0, 0, 0), (.aload_n 0, 0, 0, 0, 0), (.getfield 57, 1, 11, 0, 0), (.if_icmp .ge 23, 30, 0, 0, 0), (.aload_n 0, 0, 0, 0, 0), (.getfield 31, 1, 10, 2, 0), (.iload_n 2, 2, 0, 0, 0), (.iaload, 0, 0, 0, 0), (.sipush 20005, 0, 0, 0, 0), (.if_icmp .ne 5, 24, 0, 0, 0), (.iload_n 2, 2, 0, 0, 0), (.ireturn, 0, 0, 0, 0)]
  | 24 => [(.iinc 2 1, 2, 0, 0, 0), (.goto (-25), 2, 0, 0, 0)]
  | 30 => [(.aload_n 0, 0, 0, 0, 0), (.getfield 57, 1, 11, 0, 0), (.ireturn, 0, 0, 0, 0)]
  | _ => []
set_option maxRecDepth 20000 in
theorem ck_7 : ∀ t, chkL 7 t (bk_7 t) = true := by
  intro t
  unfold bk_7
  split <;> first | decide +kernel | rfl
def cu_7 : Nat → Option (List Nat) := fun t => match t with | 2 => some [0, 2] | _ => none
/-- SluiceLogs$Plan.notchesOf(I)I -/
def bk_8 : Nat → List Ins := fun t => match t with
  | 0 => [(.iconst 0, 0, 0, 0, 0), (.istore_n 2, 2, 0, 0, 0), (.iconst 0, 0, 0, 0, 0), (.istore_n 3, 3, 0, 0, 0)]
  | 4 => [(.iload_n 3, 3, 0, 0, 0), (.aload_n 0, 0, 0, 0, 0), (.getfield 48, 1, 2, 0, 0), (.if_icmp .ge 25, 34, 0, 0, 0), (.aload_n 0, 0, 0, 0, 0), (.getfield 22, 1, 7, 2, 0), (.iload_n 3, 3, 0, 0, 0), (.iaload, 0, 0, 0, 0), (.iload_n 1, 1, 0, 0, 0), (.if_icmp .ne 9, 28, 0, 0, 0), (.iload_n 2, 2, 0, 0, 0), (.iconst 1, 0, 0, 0, 0), (.iload_n 3, 3, 0, 0, 0), (.ishl, 0, 0, 0, 0), (.ior, 0, 0, 0, 0), (.istore_n 2, 2, 0, 0, 0)]
  | 28 => [(.iinc 3 1, 3, 0, 0, 0), (.goto (-27), 4, 0, 0, 0)]
  | 34 => [(.iload_n 2, 2, 0, 0, 0), (.ireturn, 0, 0, 0, 0)]
  | _ => []
set_option maxRecDepth 20000 in
theorem ck_8 : ∀ t, chkL 8 t (bk_8 t) = true := by
  intro t
  unfold bk_8
  split <;> first | decide +kernel | rfl
def cu_8 : Nat → Option (List Nat) := fun t => match t with | 4 => some [0, 1, 2, 3] | _ => none
/-- SluiceLogs$Reader.<init>(LSluiceLogs$Plan;)V -/
def bk_9 : Nat → List Ins := fun t => match t with
  | 0 => [(.aload_n 0, 0, 0, 0, 0), (.invokespecial 5, 0, 4, 0, 0), (.aload_n 0, 0, 0, 0, 0), (.new 11, 13, 0, 0, 0), (.dup, 0, 0, 0, 0), (.invokespecial 13, 41, 3, 0, 1), (.putfield 14, 2, 2, 2, 0), (.aload_n 0, 0, 0, 0, 0), (.bipush 21, 0, 0, 0, 0), (.newarray .int, 17, 0, 0, 0), (.putfield 18, 2, 7, 2, 0), (.aload_n 0, 0, 0, 0, 0), (.aload_n 1, 1, 0, 0, 0), (.putfield 22, 2, 3, 2, 0), (.return_, 0, 0, 0, 0)]
  | _ => []
set_option maxRecDepth 20000 in
theorem ck_9 : ∀ t, chkL 9 t (bk_9 t) = true := by
  intro t
  unfold bk_9
  split <;> first | decide +kernel | rfl
def cu_9 : Nat → Option (List Nat) := fun _ => none
/-- SluiceLogs$Reader.readText([BILSluiceLogs$Plan;)I -/
def bk_10 : Nat → List Ins := fun t => match t with
  | 0 => [(.aload_n 0, 0, 0, 0, 0), (.getfield 14, 2, 2, 2, 0), (.aload_n 1, 1, 0, 0, 0), (.iload_n 2, 2, 0, 0, 0), (.invokevirtual 26, 42, 105, 2, 5), (.aload_n 0, 0, 0, 0, 0), (.aload_n 3, 3, 0, 0, 0), (.putfield 22, 2, 3, 2, 0), (.aload_n 0, 0, 0, 0, 0), (.getfield 22, 2, 3, 2, 0), (.invokevirtual 30, 4, 101, 0, 1), (.aload_n 0, 0, 0, 0, 0), (.iconst 0, 0, 0, 0, 0), (.putfield 35, 2, 4, 0, 0), (.aload_n 0, 0, 0, 0, 0), (.iconst 0, 0, 0, 0, 0), (.putfield 39, 2, 0, 0, 0), (.aload_n 0, 0, 0, 0, 0), (.iconst (-1), 0, 0, 0, 0), (.putfield 42, 2, 1, 0, 0), (.aload_n 0, 0, 0, 0, 0), (.iconst 0, 0, 0, 0, 0), (.putfield 45, 2, 5, 0, 0), (.aload_n 0, 0, 0, 0, 0), (.iconst (-1), 0, 0, 0, 0), (.putfield 48, 2, 6, 0, 0), (.iconst 1, 0, 0, 0, 0), (.istore 4, 4, 0, 0, 0), (.iconst 0, 0, 0, 0, 0), (.istore 5, 5, 0, 0, 0)]
  | 52 => [(.iload 5, 5, 0, 0, 0), (.sipush 400, 0, 0, 0, 0), (.if_icmp .gt 29, 86, 0, 0, 0), (.iload 4, 4, 0, 0, 0), (.ifCond .eq 24, 86, 0, 0, 0), (.aload_n 0, 0, 0, 0, 0), (.invokevirtual 51, 11, 102, 0, 1), (.bipush 43, 0, 0, 0, 0), (.if_icmp .eq 15, 86, 0, 0, 0), (.aload_n 0, 0, 0, 0, 0), (.invokevirtual 55, 18, 102, 0, 2), (.istore 4, 4, 0, 0, 0), (.iinc 5 1, 5, 0, 0, 0), (.goto (-31), 52, 0, 0, 0)]
  | 86 => [(.aload_n 0, 0, 0, 0, 0), (.getfield 39, 2, 0, 0, 0), (.ifCond .ne 19, 109, 0, 0, 0), (.aload_n 0, 0, 0, 0, 0), (.aload_n 0, 0, 0, 0, 0), (.getfield 45, 2, 5, 0, 0), (.putfield 39, 2, 0, 0, 0), (.aload_n 0, 0, 0, 0, 0), (.aload_n 0, 0, 0, 0, 0), (.getfield 48, 2, 6, 0, 0), (.putfield 42, 2, 1, 0, 0)]
  | 109 => [(.aload_n 0, 0, 0, 0, 0), (.getfield 39, 2, 0, 0, 0), (.ireturn, 0, 0, 0, 0)]
  | _ => []
set_option maxRecDepth 20000 in
theorem ck_10 : ∀ t, chkL 10 t (bk_10 t) = true := by
  intro t
  unfold bk_10
  split <;> first | decide +kernel | rfl
def cu_10 : Nat → Option (List Nat) := fun t => match t with | 52 => some [0, 4, 5] | _ => none
/-- SluiceLogs$Reader.kind()I -/
def bk_11 : Nat → List Ins := fun t => match t with
  | 0 => [(.aload_n 0, 0, 0, 0, 0), (.getfield 14, 2, 2, 2, 0), (.getfield 59, 5, 0, 2, 0), (.aload_n 0, 0, 0, 0, 0), (.getfield 35, 2, 4, 0, 0), (.iaload, 0, 0, 0, 0), (.ireturn, 0, 0, 0, 0)]
  | _ => []
set_option maxRecDepth 20000 in
theorem ck_11 : ∀ t, chkL 11 t (bk_11 t) = true := by
  intro t
  unfold bk_11
  split <;> first | decide +kernel | rfl
def cu_11 : Nat → Option (List Nat) := fun _ => none
/-- SluiceLogs$Reader.fail(I)Z -/
def bk_12 : Nat → List Ins := fun t => match t with
  | 0 => [(.aload_n 0, 0, 0, 0, 0), (.iload_n 1, 1, 0, 0, 0), (.putfield 39, 2, 0, 0, 0), (.aload_n 0, 0, 0, 0, 0), (.aload_n 0, 0, 0, 0, 0), (.getfield 14, 2, 2, 2, 0), (.getfield 61, 5, 1, 2, 0), (.aload_n 0, 0, 0, 0, 0), (.getfield 35, 2, 4, 0, 0), (.iaload, 0, 0, 0, 0), (.putfield 42, 2, 1, 0, 0), (.iconst 0, 0, 0, 0, 0), (.ireturn, 3, 0, 0, 0)]
  | _ => []
set_option maxRecDepth 20000 in
theorem ck_12 : ∀ t, chkL 12 t (bk_12 t) = true := by
  intro t
  unfold bk_12
  split <;> first | decide +kernel | rfl
def cu_12 : Nat → Option (List Nat) := fun _ => none
/-- SluiceLogs$Reader.failLater(I)V -/
def bk_13 : Nat → List Ins := fun t => match t with
  | 0 => [(.aload_n 0, 0, 0, 0, 0), (.getfield 45, 2, 5, 0, 0), (.ifCond .ne 33, 37, 0, 0, 0), (.aload_n 0, 0, 0, 0, 0), (.getfield 35, 2, 4, 0, 0), (.ifCond .le 26, 37, 0, 0, 0), (.aload_n 0, 0, 0, 0, 0), (.iload_n 1, 1, 0, 0, 0), (.putfield 45, 2, 5, 0, 0), (.aload_n 0, 0, 0, 0, 0), (.aload_n 0, 0, 0, 0, 0), (.getfield 14, 2, 2, 2, 0), (.getfield 61, 5, 1, 2, 0), (.aload_n 0, 0, 0, 0, 0), (.getfield 35, 2, 4, 0, 0), (.iconst 1, 0, 0, 0, 0), (.isub, 0, 0, 0, 0), (.iaload, 0, 0, 0, 0), (.putfield 48, 2, 6, 0, 0)]
  | 37 => [(.return_, 0, 0, 0, 0)]
  | _ => []
set_option maxRecDepth 20000 in
theorem ck_13 : ∀ t, chkL 13 t (bk_13 t) = true := by
  intro t
  unfold bk_13
  split <;> first | decide +kernel | rfl
def cu_13 : Nat → Option (List Nat) := fun _ => none
/-- SluiceLogs$Reader.pass()Z -/
def bk_14 : Nat → List Ins := fun t => match t with
  | 0 => [(.aload_n 0, 0, 0, 0, 0), (.getfield 35, 2, 4, 0, 0), (.sipush 400, 0, 0, 0, 0), (.if_icmp .lt 9, 16, 0, 0, 0), (.aload_n 0, 0, 0, 0, 0), (.iconst 2, 0, 0, 0, 0), (.invokevirtual 63, 12, 102, 1, 2), (.ireturn, 3, 0, 0, 0)]
  | 16 => [(.aload_n 0, 0, 0, 0, 0), (.dup, 0, 0, 0, 0), (.getfield 35, 2, 4, 0, 0), (.iconst 1, 0, 0, 0, 0), (.iadd, 0, 0, 0, 0), (.putfield 35, 2, 4, 0, 0), (.iconst 1, 0, 0, 0, 0), (.ireturn, 3, 0, 0, 0)]
  | _ => []
set_option maxRecDepth 20000 in
theorem ck_14 : ∀ t, chkL 14 t (bk_14 t) = true := by
  intro t
  unfold bk_14
  split <;> first | decide +kernel | rfl
def cu_14 : Nat → Option (List Nat) := fun _ => none
/-- SluiceLogs$Reader.take(I)Z -/
def bk_15 : Nat → List Ins := fun t => match t with
  | 0 => [(.aload_n 0, 0, 0, 0, 0), (.invokevirtual 51, 11, 102, 0, 1), (.iload_n 1, 1, 0, 0, 0), (.if_icmp .ne 10, 15, 0, 0, 0), (.aload_n 0, 0, 0, 0, 0), (.invokevirtual 67, 14, 102, 0, 1), (.goto 8, 20, 0, 0, 0)]
  | 15 => [(.aload_n 0, 0, 0, 0, 0), (.iconst 1, 0, 0, 0, 0), (.invokevirtual 63, 12, 102, 1, 2)]
  | 20 => [(.ireturn, 3, 0, 0, 0)]
  | _ => []
set_option maxRecDepth 20000 in
theorem ck_15 : ∀ t, chkL 15 t (bk_15 t) = true := by
  intro t
  unfold bk_15
  split <;> first | decide +kernel | rfl
def cu_15 : Nat → Option (List Nat) := fun _ => none
/-- SluiceLogs$Reader.taken()J -/
def bk_16 : Nat → List Ins := fun t => match t with
  | 0 => [(.aload_n 0, 0, 0, 0, 0), (.getfield 35, 2, 4, 0, 0), (.ifCond .le 20, 24, 0, 0, 0), (.aload_n 0, 0, 0, 0, 0), (.getfield 14, 2, 2, 2, 0), (.getfield 70, 5, 2, 2, 0), (.aload_n 0, 0, 0, 0, 0), (.getfield 35, 2, 4, 0, 0), (.iconst 1, 0, 0, 0, 0), (.isub, 0, 0, 0, 0), (.laload, 0, 0, 0, 0), (.goto 4, 25, 0, 0, 0)]
  | 24 => [(.lconst 0, 0, 0, 0, 0)]
  | 25 => [(.lreturn, 0, 0, 0, 0)]
  | _ => []
set_option maxRecDepth 20000 in
theorem ck_16 : ∀ t, chkL 16 t (bk_16 t) = true := by
  intro t
  unfold bk_16
  split <;> first | decide +kernel | rfl
def cu_16 : Nat → Option (List Nat) := fun _ => none
/-- SluiceLogs$Reader.takeNumber(II)Z -/
def bk_17 : Nat → List Ins := fun t => match t with
  | 0 => [(.aload_n 0, 0, 0, 0, 0), (.bipush 41, 0, 0, 0, 0), (.invokevirtual 74, 15, 102, 1, 2), (.ifCond .ne 5, 11, 0, 0, 0), (.iconst 0, 0, 0, 0, 0), (.ireturn, 3, 0, 0, 0)]
  | 11 => [(.aload_n 0, 0, 0, 0, 0), (.invokevirtual 77, 16, 102, 0, 1), (.iload_n 1, 1, 0, 0, 0), (.i2l, 0, 0, 0, 0), (.lcmp, 0, 0, 0, 0), (.ifCond .lt 13, 31, 0, 0, 0), (.aload_n 0, 0, 0, 0, 0), (.invokevirtual 77, 16, 102, 0, 1), (.iload_n 2, 2, 0, 0, 0), (.i2l, 0, 0, 0, 0), (.lcmp, 0, 0, 0, 0), (.ifCond .le 8, 36, 0, 0, 0)]
  | 31 => [(.aload_n 0, 0, 0, 0, 0), (.iconst 5, 0, 0, 0, 0), (.invokevirtual 81, 13, 102, 1, 2)]
  | 36 => [(.iconst 1, 0, 0, 0, 0), (.ireturn, 3, 0, 0, 0)]
  | _ => []
set_option maxRecDepth 20000 in
theorem ck_17 : ∀ t, chkL 17 t (bk_17 t) = true := by
  intro t
  unfold bk_17
  split <;> first | decide +kernel | rfl
def cu_17 : Nat → Option (List Nat) := fun _ => none
/-- SluiceLogs$Reader.readTell()Z -/
def bk_18 : Nat → List Ins := fun t => match t with
  | 0 => [(.aload_n 0, 0, 0, 0, 0), (.invokevirtual 51, 11, 102, 0, 1), (.istore_n 1, 1, 0, 0, 0), (.iload_n 1, 1, 0, 0, 0), (.iconst 5, 0, 0, 0, 0), (.if_icmp .lt 17, 24, 0, 0, 0), (.iload_n 1, 1, 0, 0, 0), (.bipush 8, 0, 0, 0, 0), (.if_icmp .gt 11, 24, 0, 0, 0), (.aload_n 0, 0, 0, 0, 0), (.iload_n 1, 1, 0, 0, 0), (.iconst 5, 0, 0, 0, 0), (.isub, 0, 0, 0, 0), (.invokevirtual 85, 29, 102, 1, 3), (.ireturn, 3, 0, 0, 0)]
  | 24 => [(.iload_n 1, 1, 0, 0, 0), (.tableswitch 85 0 9 #[55, 60, 65, 70, 75, 85, 85, 85, 85, 80], 0, 0, 0, 0)]
  | 80 => [(.aload_n 0, 0, 0, 0, 0), (.invokevirtual 88, 19, 102, 0, 1), (.ireturn, 3, 0, 0, 0)]
  | 85 => [(.aload_n 0, 0, 0, 0, 0), (.invokevirtual 91, 20, 102, 0, 1), (.ireturn, 3, 0, 0, 0)]
  | 90 => [(.aload_n 0, 0, 0, 0, 0), (.invokevirtual 94, 24, 102, 0, 2), (.ireturn, 3, 0, 0, 0)]
  | 95 => [(.aload_n 0, 0, 0, 0, 0), (.invokevirtual 97, 26, 102, 0, 3), (.ireturn, 3, 0, 0, 0)]
  | 100 => [(.aload_n 0, 0, 0, 0, 0), (.invokevirtual 100, 27, 102, 0, 1), (.ireturn, 3, 0, 0, 0)]
  | 105 => [(.aload_n 0, 0, 0, 0, 0), (.invokevirtual 103, 28, 102, 0, 1), (.ireturn, 3, 0, 0, 0)]
  | 110 => [(.aload_n 0, 0, 0, 0, 0), (.iconst 1, 0, 0, 0, 0), (.invokevirtual 63, 12, 102, 1, 2), (.ireturn, 3, 0, 0, 0)]
  | _ => []
set_option maxRecDepth 20000 in
theorem ck_18 : ∀ t, chkL 18 t (bk_18 t) = true := by
  intro t
  unfold bk_18
  split <;> first | decide +kernel | rfl
def cu_18 : Nat → Option (List Nat) := fun _ => none
/-- SluiceLogs$Reader.readLog()Z -/
def bk_19 : Nat → List Ins := fun t => match t with
  | 0 => [(.aload_n 0, 0, 0, 0, 0), (.getfield 22, 2, 3, 2, 0), (.getfield 106, 1, 0, 0, 0), (.iconst 4, 0, 0, 0, 0), (.if_icmp .lt 9, 17, 0, 0, 0), (.aload_n 0, 0, 0, 0, 0), (.iconst 2, 0, 0, 0, 0), (.invokevirtual 63, 12, 102, 1, 2), (.ireturn, 3, 0, 0, 0)]
  | 17 => [(.aload_n 0, 0, 0, 0, 0), (.invokevirtual 67, 14, 102, 0, 1), (.ifCond .eq 10, 31, 0, 0, 0), (.aload_n 0, 0, 0, 0, 0), (.invokevirtual 109, 21, 102, 0, 1), (.ifCond .ne 5, 33, 0, 0, 0)]
  | 31 => [(.iconst 0, 0, 0, 0, 0), (.ireturn, 3, 0, 0, 0)]
  | 33 => [(.aload_n 0, 0, 0, 0, 0), (.getfield 22, 2, 3, 2, 0), (.getfield 112, 1, 4, 2, 0), (.aload_n 0, 0, 0, 0, 0), (.getfield 22, 2, 3, 2, 0), (.getfield 106, 1, 0, 0, 0), (.aload_n 0, 0, 0, 0, 0), (.invokevirtual 77, 16, 102, 0, 1), (.lastore, 0, 0, 0, 0), (.aload_n 0, 0, 0, 0, 0), (.getfield 22, 2, 3, 2, 0), (.dup, 0, 0, 0, 0), (.getfield 106, 1, 0, 0, 0), (.iconst 1, 0, 0, 0, 0), (.iadd, 0, 0, 0, 0), (.putfield 106, 1, 0, 0, 0), (.aload_n 0, 0, 0, 0, 0), (.bipush 30, 0, 0, 0, 0), (.invokevirtual 74, 15, 102, 1, 2), (.ireturn, 3, 0, 0, 0)]
  | _ => []
set_option maxRecDepth 20000 in
theorem ck_19 : ∀ t, chkL 19 t (bk_19 t) = true := by
  intro t
  unfold bk_19
  split <;> first | decide +kernel | rfl
def cu_19 : Nat → Option (List Nat) := fun _ => none
/-- SluiceLogs$Reader.readField()Z -/
def bk_20 : Nat → List Ins := fun t => match t with
  | 0 => [(.aload_n 0, 0, 0, 0, 0), (.getfield 22, 2, 3, 2, 0), (.getfield 115, 1, 1, 0, 0), (.bipush 6, 0, 0, 0, 0), (.if_icmp .lt 9, 18, 0, 0, 0), (.aload_n 0, 0, 0, 0, 0), (.iconst 2, 0, 0, 0, 0), (.invokevirtual 63, 12, 102, 1, 2), (.ireturn, 3, 0, 0, 0)]
  | 18 => [(.aload_n 0, 0, 0, 0, 0), (.invokevirtual 67, 14, 102, 0, 1), (.ifCond .eq 10, 32, 0, 0, 0), (.aload_n 0, 0, 0, 0, 0), (.invokevirtual 109, 21, 102, 0, 1), (.ifCond .ne 5, 34, 0, 0, 0)]
  | 32 => [(.iconst 0, 0, 0, 0, 0), (.ireturn, 3, 0, 0, 0)]
  | 34 => [(.aload_n 0, 0, 0, 0, 0), (.getfield 22, 2, 3, 2, 0), (.getfield 118, 1, 5, 2, 0), (.aload_n 0, 0, 0, 0, 0), (.getfield 22, 2, 3, 2, 0), (.getfield 115, 1, 1, 0, 0), (.aload_n 0, 0, 0, 0, 0), (.invokevirtual 77, 16, 102, 0, 1), (.lastore, 0, 0, 0, 0), (.aload_n 0, 0, 0, 0, 0), (.getfield 22, 2, 3, 2, 0), (.dup, 0, 0, 0, 0), (.getfield 115, 1, 1, 0, 0), (.iconst 1, 0, 0, 0, 0), (.iadd, 0, 0, 0, 0), (.putfield 115, 1, 1, 0, 0), (.aload_n 0, 0, 0, 0, 0), (.iconst 1, 0, 0, 0, 0), (.bipush 99, 0, 0, 0, 0), (.invokevirtual 121, 17, 102, 2, 3), (.ifCond .ne 5, 78, 0, 0, 0), (.iconst 0, 0, 0, 0, 0), (.ireturn, 3, 0, 0, 0)]
  | 78 => [(.aload_n 0, 0, 0, 0, 0), (.getfield 22, 2, 3, 2, 0), (.getfield 125, 1, 6, 2, 0), (.aload_n 0, 0, 0, 0, 0), (.getfield 22, 2, 3, 2, 0), (.getfield 115, 1, 1, 0, 0), (.iconst 1, 0, 0, 0, 0), (.isub, 0, 0, 0, 0), (.aload_n 0, 0, 0, 0, 0), (.invokevirtual 77, 16, 102, 0, 1), (.l2i, 0, 0, 0, 0), (.iastore, 0, 0, 0, 0), (.aload_n 0, 0, 0, 0, 0), (.bipush 30, 0, 0, 0, 0), (.invokevirtual 74, 15, 102, 1, 2), (.ireturn, 3, 0, 0, 0)]
  | _ => []
set_option maxRecDepth 20000 in
theorem ck_20 : ∀ t, chkL 20 t (bk_20 t) = true := by
  intro t
  unfold bk_20
  split <;> first | decide +kernel | rfl
def cu_20 : Nat → Option (List Nat) := fun _ => none
/-- SluiceLogs$Reader.takeNewName()Z -/
def bk_21 : Nat → List Ins := fun t => match t with
  | 0 => [(.aload_n 0, 0, 0, 0, 0), (.bipush 40, 0, 0, 0, 0), (.invokevirtual 74, 15, 102, 1, 2), (.ifCond .ne 5, 11, 0, 0, 0), (.iconst 0, 0, 0, 0, 0), (.ireturn, 3, 0, 0, 0)]
  | 11 => [(.aload_n 0, 0, 0, 0, 0), (.aload_n 0, 0, 0, 0, 0), (.invokevirtual 77, 16, 102, 0, 1), (.invokevirtual 128, 22, 102, 1, 4), (.iconst (-1), 0, 0, 0, 0), (.if_icmp .ne 15, 35, 0, 0, 0), (.aload_n 0, 0, 0, 0, 0), (.aload_n 0, 0, 0, 0, 0), (.invokevirtual 77, 16, 102, 0, 1), (.invokevirtual 132, 23, 102, 1, 4), (.iconst (-1), 0, 0, 0, 0), (.if_icmp .eq 8, 40, 0, 0, 0)]
  | 35 => [(.aload_n 0, 0, 0, 0, 0), (.iconst 3, 0, 0, 0, 0), (.invokevirtual 81, 13, 102, 1, 2)]
  | 40 => [(.iconst 1, 0, 0, 0, 0), (.ireturn, 3, 0, 0, 0)]
  | _ => []
set_option maxRecDepth 20000 in
theorem ck_21 : ∀ t, chkL 21 t (bk_21 t) = true := by
  intro t
  unfold bk_21
  split <;> first | decide +kernel | rfl
def cu_21 : Nat → Option (List Nat) := fun _ => none
/-- SluiceLogs$Reader.logNamed(J)I -/
def bk_22 : Nat → List Ins := fun t => match t with
  | 0 => [(.iconst 0, 0, 0, 0, 0), (.istore_n 3, 3, 0, 0, 0)]
  | 2 => [(.iload_n 3, 3, 0, 0, 0), (.aload_n 0, 0, 0, 0, 0), (.getfield 22, 2, 3, 2, 0), (.getfield 106, 1, 0, 0, 0), (.if_icmp .ge 25, 35, 0, 0, 0), (.aload_n 0, 0, 0, 0, 0), (.getfield 22, 2, 3, 2, 0), (.getfield 112, 1, 4, 2, 0), (.iload_n 3, 3, 0, 0, 0), (.laload, 0, 0, 0, 0), (.lload_n 1, 1, 0, 0, 0), (.lcmp, 0, 0, 0, 0), (.ifCond .ne 5, 29, 0, 0, 0), (.iload_n 3, 3, 0, 0, 0), (.ireturn, 0, 0, 0, 0)]
  | 29 => [(.iinc 3 1, 3, 0, 0, 0), (.goto (-30), 2, 0, 0, 0)]
  | 35 => [(.iconst (-1), 0, 0, 0, 0), (.ireturn, 0, 0, 0, 0)]
  | _ => []
set_option maxRecDepth 20000 in
theorem ck_22 : ∀ t, chkL 22 t (bk_22 t) = true := by
  intro t
  unfold bk_22
  split <;> first | decide +kernel | rfl
def cu_22 : Nat → Option (List Nat) := fun t => match t with | 2 => some [0, 1, 3] | _ => none
/-- SluiceLogs$Reader.fieldNamed(J)I -/
def bk_23 : Nat → List Ins := fun t => match t with
  | 0 => [(.iconst 0, 0, 0, 0, 0), (.istore_n 3, 3, 0, 0, 0)]
  | 2 => [(.iload_n 3, 3, 0, 0, 0), (.aload_n 0, 0, 0, 0, 0), (.getfield 22, 2, 3, 2, 0), (.getfield 115, 1, 1, 0, 0), (.if_icmp .ge 25, 35, 0, 0, 0), (.aload_n 0, 0, 0, 0, 0), (.getfield 22, 2, 3, 2, 0), (.getfield 118, 1, 5, 2, 0), (.iload_n 3, 3, 0, 0, 0), (.laload, 0, 0, 0, 0), (.lload_n 1, 1, 0, 0, 0), (.lcmp, 0, 0, 0, 0), (.ifCond .ne 5, 29, 0, 0, 0), (.iload_n 3, 3, 0, 0, 0), (.ireturn, 0, 0, 0, 0)]
  | 29 => [(.iinc 3 1, 3, 0, 0, 0), (.goto (-30), 2, 0, 0, 0)]
  | 35 => [(.iconst (-1), 0, 0, 0, 0), (.ireturn, 0, 0, 0, 0)]
  | _ => []
set_option maxRecDepth 20000 in
theorem ck_23 : ∀ t, chkL 23 t (bk_23 t) = true := by
  intro t
  unfold bk_23
  split <;> first | decide +kernel | rfl
def cu_23 : Nat → Option (List Nat) := fun t => match t with | 2 => some [0, 1, 3] | _ => none
/-- SluiceLogs$Reader.readNotch()Z -/
def bk_24 : Nat → List Ins := fun t => match t with
  | 0 => [(.aload_n 0, 0, 0, 0, 0), (.getfield 22, 2, 3, 2, 0), (.getfield 135, 1, 2, 0, 0), (.bipush 12, 0, 0, 0, 0), (.if_icmp .lt 9, 18, 0, 0, 0), (.aload_n 0, 0, 0, 0, 0), (.iconst 2, 0, 0, 0, 0), (.invokevirtual 63, 12, 102, 1, 2), (.ireturn, 3, 0, 0, 0)]
  | 18 => [(.aload_n 0, 0, 0, 0, 0), (.invokevirtual 67, 14, 102, 0, 1), (.ifCond .eq 12, 34, 0, 0, 0), (.aload_n 0, 0, 0, 0, 0), (.bipush 40, 0, 0, 0, 0), (.invokevirtual 74, 15, 102, 1, 2), (.ifCond .ne 5, 36, 0, 0, 0)]
  | 34 => [(.iconst 0, 0, 0, 0, 0), (.ireturn, 3, 0, 0, 0)]
  | 36 => [(.aload_n 0, 0, 0, 0, 0), (.aload_n 0, 0, 0, 0, 0), (.invokevirtual 77, 16, 102, 0, 1), (.invokevirtual 128, 22, 102, 1, 4), (.istore_n 1, 1, 0, 0, 0), (.iload_n 1, 1, 0, 0, 0), (.iconst (-1), 0, 0, 0, 0), (.if_icmp .ne 11, 58, 0, 0, 0), (.aload_n 0, 0, 0, 0, 0), (.iconst 4, 0, 0, 0, 0), (.invokevirtual 81, 13, 102, 1, 2), (.goto 24, 79, 0, 0, 0)]
  | 58 => [(.aload_n 0, 0, 0, 0, 0), (.getfield 22, 2, 3, 2, 0), (.iload_n 1, 1, 0, 0, 0), (.invokevirtual 138, 8, 101, 1, 4), (.invokestatic 142, 284, 0, 1, 1), (.iconst 3, 0, 0, 0, 0), (.if_icmp .lt 9, 79, 0, 0, 0), (.aload_n 0, 0, 0, 0, 0), (.bipush 6, 0, 0, 0, 0), (.invokevirtual 81, 13, 102, 1, 2)]
  | 79 => [(.aload_n 0, 0, 0, 0, 0), (.getfield 22, 2, 3, 2, 0), (.getfield 147, 1, 7, 2, 0), (.aload_n 0, 0, 0, 0, 0), (.getfield 22, 2, 3, 2, 0), (.getfield 135, 1, 2, 0, 0), (.iload_n 1, 1, 0, 0, 0), (.iastore, 0, 0, 0, 0), (.aload_n 0, 0, 0, 0, 0), (.invokevirtual 150, 25, 102, 0, 3), (.ifCond .eq 12, 111, 0, 0, 0), (.aload_n 0, 0, 0, 0, 0), (.iconst 0, 0, 0, 0, 0), (.iconst 3, 0, 0, 0, 0), (.invokevirtual 121, 17, 102, 2, 3), (.ifCond .ne 5, 113, 0, 0, 0)]
  | 111 => [(.iconst 0, 0, 0, 0, 0), (.ireturn, 3, 0, 0, 0)]
  | 113 => [(.aload_n 0, 0, 0, 0, 0), (.getfield 22, 2, 3, 2, 0), (.getfield 153, 1, 12, 2, 0), (.getfield 157, 3, 0, 2, 0), (.aload_n 0, 0, 0, 0, 0), (.getfield 22, 2, 3, 2, 0), (.getfield 135, 1, 2, 0, 0), (.aload_n 0, 0, 0, 0, 0), (.invokevirtual 77, 16, 102, 0, 1), (.l2i, 0, 0, 0, 0), (.iastore, 0, 0, 0, 0), (.aload_n 0, 0, 0, 0, 0), (.getfield 22, 2, 3, 2, 0), (.dup, 0, 0, 0, 0), (.getfield 135, 1, 2, 0, 0), (.iconst 1, 0, 0, 0, 0), (.iadd, 0, 0, 0, 0), (.putfield 135, 1, 2, 0, 0), (.aload_n 0, 0, 0, 0, 0), (.bipush 30, 0, 0, 0, 0), (.invokevirtual 74, 15, 102, 1, 2), (.ireturn, 3, 0, 0, 0)]
  | _ => []
set_option maxRecDepth 20000 in
theorem ck_24 : ∀ t, chkL 24 t (bk_24 t) = true := by
  intro t
  unfold bk_24
  split <;> first | decide +kernel | rfl
def cu_24 : Nat → Option (List Nat) := fun _ => none
/-- SluiceLogs$Reader.readTo()Z -/
def bk_25 : Nat → List Ins := fun t => match t with
  | 0 => [(.aload_n 0, 0, 0, 0, 0), (.invokevirtual 51, 11, 102, 0, 1), (.bipush 10, 0, 0, 0, 0), (.if_icmp .ne 25, 31, 0, 0, 0), (.aload_n 0, 0, 0, 0, 0), (.getfield 22, 2, 3, 2, 0), (.getfield 162, 1, 8, 2, 0), (.aload_n 0, 0, 0, 0, 0), (.getfield 22, 2, 3, 2, 0), (.getfield 135, 1, 2, 0, 0), (.bipush 20, 0, 0, 0, 0), (.iastore, 0, 0, 0, 0), (.aload_n 0, 0, 0, 0, 0), (.invokevirtual 67, 14, 102, 0, 1), (.ireturn, 3, 0, 0, 0)]
  | 31 => [(.aload_n 0, 0, 0, 0, 0), (.bipush 40, 0, 0, 0, 0), (.invokevirtual 74, 15, 102, 1, 2), (.ifCond .ne 5, 42, 0, 0, 0), (.iconst 0, 0, 0, 0, 0), (.ireturn, 3, 0, 0, 0)]
  | 42 => [(.aload_n 0, 0, 0, 0, 0), (.aload_n 0, 0, 0, 0, 0), (.invokevirtual 77, 16, 102, 0, 1), (.invokevirtual 128, 22, 102, 1, 4), (.istore_n 1, 1, 0, 0, 0), (.aload_n 0, 0, 0, 0, 0), (.aload_n 0, 0, 0, 0, 0), (.invokevirtual 77, 16, 102, 0, 1), (.invokevirtual 132, 23, 102, 1, 4), (.istore_n 2, 2, 0, 0, 0), (.iload_n 1, 1, 0, 0, 0), (.iconst (-1), 0, 0, 0, 0), (.if_icmp .ne 13, 75, 0, 0, 0), (.iload_n 2, 2, 0, 0, 0), (.iconst (-1), 0, 0, 0, 0), (.if_icmp .ne 8, 75, 0, 0, 0), (.aload_n 0, 0, 0, 0, 0), (.iconst 4, 0, 0, 0, 0), (.invokevirtual 81, 13, 102, 1, 2)]
  | 75 => [(.aload_n 0, 0, 0, 0, 0), (.getfield 22, 2, 3, 2, 0), (.getfield 162, 1, 8, 2, 0), (.aload_n 0, 0, 0, 0, 0), (.getfield 22, 2, 3, 2, 0), (.getfield 135, 1, 2, 0, 0), (.iload_n 1, 1, 0, 0, 0), (.iconst (-1), 0, 0, 0, 0), (.if_icmp .eq 7, 98, 0, 0, 0), (.iload_n 1, 1, 0, 0, 0), (.goto 7, 102, 0, 0, 0)]
  | 98 => [(.bipush 10, 0, 0, 0, 0), (.iload_n 2, 2, 0, 0, 0), (.iadd, 0, 0, 0, 0)]
  | 102 => [(.iastore, 0, 0, 0, 0), (.iconst 1, 0, 0, 0, 0), (.ireturn, 3, 0, 0, 0)]
  | _ => []
set_option maxRecDepth 20000 in
theorem ck_25 : ∀ t, chkL 25 t (bk_25 t) = true := by
  intro t
  unfold bk_25
  split <;> first | decide +kernel | rfl
def cu_25 : Nat → Option (List Nat) := fun _ => none
/-- SluiceLogs$Reader.readDrain()Z -/
def bk_26 : Nat → List Ins := fun t => match t with
  | 0 => [(.aload_n 0, 0, 0, 0, 0), (.invokevirtual 67, 14, 102, 0, 1), (.ifCond .eq 12, 16, 0, 0, 0), (.aload_n 0, 0, 0, 0, 0), (.bipush 40, 0, 0, 0, 0), (.invokevirtual 74, 15, 102, 1, 2), (.ifCond .ne 5, 18, 0, 0, 0)]
  | 16 => [(.iconst 0, 0, 0, 0, 0), (.ireturn, 3, 0, 0, 0)]
  | 18 => [(.aload_n 0, 0, 0, 0, 0), (.aload_n 0, 0, 0, 0, 0), (.invokevirtual 77, 16, 102, 0, 1), (.invokevirtual 132, 23, 102, 1, 4), (.istore_n 1, 1, 0, 0, 0), (.iload_n 1, 1, 0, 0, 0), (.iconst (-1), 0, 0, 0, 0), (.if_icmp .ne 8, 37, 0, 0, 0), (.aload_n 0, 0, 0, 0, 0), (.iconst 4, 0, 0, 0, 0), (.invokevirtual 81, 13, 102, 1, 2)]
  | 37 => [(.aload_n 0, 0, 0, 0, 0), (.bipush 40, 0, 0, 0, 0), (.invokevirtual 74, 15, 102, 1, 2), (.ifCond .ne 5, 48, 0, 0, 0), (.iconst 0, 0, 0, 0, 0), (.ireturn, 3, 0, 0, 0)]
  | 48 => [(.aload_n 0, 0, 0, 0, 0), (.aload_n 0, 0, 0, 0, 0), (.invokevirtual 77, 16, 102, 0, 1), (.invokevirtual 128, 22, 102, 1, 4), (.istore_n 2, 2, 0, 0, 0), (.iload_n 2, 2, 0, 0, 0), (.iconst (-1), 0, 0, 0, 0), (.if_icmp .ne 8, 67, 0, 0, 0), (.aload_n 0, 0, 0, 0, 0), (.iconst 4, 0, 0, 0, 0), (.invokevirtual 81, 13, 102, 1, 2)]
  | 67 => [(.aload_n 0, 0, 0, 0, 0), (.iconst 0, 0, 0, 0, 0), (.iconst 3, 0, 0, 0, 0), (.invokevirtual 121, 17, 102, 2, 3), (.ifCond .ne 5, 78, 0, 0, 0), (.iconst 0, 0, 0, 0, 0), (.ireturn, 3, 0, 0, 0)]
  | 78 => [(.iload_n 1, 1, 0, 0, 0), (.iconst (-1), 0, 0, 0, 0), (.if_icmp .eq 33, 113, 0, 0, 0), (.aload_n 0, 0, 0, 0, 0), (.getfield 22, 2, 3, 2, 0), (.getfield 153, 1, 12, 2, 0), (.getfield 165, 3, 1, 2, 0), (.iload_n 1, 1, 0, 0, 0), (.iload_n 2, 2, 0, 0, 0), (.iastore, 0, 0, 0, 0), (.aload_n 0, 0, 0, 0, 0), (.getfield 22, 2, 3, 2, 0), (.getfield 153, 1, 12, 2, 0), (.getfield 168, 3, 2, 2, 0), (.iload_n 1, 1, 0, 0, 0), (.aload_n 0, 0, 0, 0, 0), (.invokevirtual 77, 16, 102, 0, 1), (.l2i, 0, 0, 0, 0), (.iastore, 0, 0, 0, 0)]
  | 113 => [(.aload_n 0, 0, 0, 0, 0), (.bipush 30, 0, 0, 0, 0), (.invokevirtual 74, 15, 102, 1, 2), (.ireturn, 3, 0, 0, 0)]
  | _ => []
set_option maxRecDepth 20000 in
theorem ck_26 : ∀ t, chkL 26 t (bk_26 t) = true := by
  intro t
  unfold bk_26
  split <;> first | decide +kernel | rfl
def cu_26 : Nat → Option (List Nat) := fun _ => none
/-- SluiceLogs$Reader.readSpring()Z -/
def bk_27 : Nat → List Ins := fun t => match t with
  | 0 => [(.aload_n 0, 0, 0, 0, 0), (.invokevirtual 67, 14, 102, 0, 1), (.ifCond .eq 13, 17, 0, 0, 0), (.aload_n 0, 0, 0, 0, 0), (.iconst 1, 0, 0, 0, 0), (.bipush 9, 0, 0, 0, 0), (.invokevirtual 121, 17, 102, 2, 3), (.ifCond .ne 5, 19, 0, 0, 0)]
  | 17 => [(.iconst 0, 0, 0, 0, 0), (.ireturn, 3, 0, 0, 0)]
  | 19 => [(.aload_n 0, 0, 0, 0, 0), (.getfield 22, 2, 3, 2, 0), (.getfield 153, 1, 12, 2, 0), (.aload_n 0, 0, 0, 0, 0), (.invokevirtual 77, 16, 102, 0, 1), (.l2i, 0, 0, 0, 0), (.putfield 171, 3, 4, 0, 0), (.aload_n 0, 0, 0, 0, 0), (.bipush 30, 0, 0, 0, 0), (.invokevirtual 74, 15, 102, 1, 2), (.ireturn, 3, 0, 0, 0)]
  | _ => []
set_option maxRecDepth 20000 in
theorem ck_27 : ∀ t, chkL 27 t (bk_27 t) = true := by
  intro t
  unfold bk_27
  split <;> first | decide +kernel | rfl
def cu_27 : Nat → Option (List Nat) := fun _ => none
/-- SluiceLogs$Reader.readSeed()Z -/
def bk_28 : Nat → List Ins := fun t => match t with
  | 0 => [(.aload_n 0, 0, 0, 0, 0), (.invokevirtual 67, 14, 102, 0, 1), (.ifCond .eq 12, 16, 0, 0, 0), (.aload_n 0, 0, 0, 0, 0), (.bipush 41, 0, 0, 0, 0), (.invokevirtual 74, 15, 102, 1, 2), (.ifCond .ne 5, 18, 0, 0, 0)]
  | 16 => [(.iconst 0, 0, 0, 0, 0), (.ireturn, 3, 0, 0, 0)]
  | 18 => [(.aload_n 0, 0, 0, 0, 0), (.getfield 22, 2, 3, 2, 0), (.aload_n 0, 0, 0, 0, 0), (.invokevirtual 77, 16, 102, 0, 1), (.l2i, 0, 0, 0, 0), (.putfield 174, 1, 3, 0, 0), (.aload_n 0, 0, 0, 0, 0), (.bipush 30, 0, 0, 0, 0), (.invokevirtual 74, 15, 102, 1, 2), (.ireturn, 3, 0, 0, 0)]
  | _ => []
set_option maxRecDepth 20000 in
theorem ck_28 : ∀ t, chkL 28 t (bk_28 t) = true := by
  intro t
  unfold bk_28
  split <;> first | decide +kernel | rfl
def cu_28 : Nat → Option (List Nat) := fun _ => none
/-- SluiceLogs$Reader.readLaw(I)Z -/
def bk_29 : Nat → List Ins := fun t => match t with
  | 0 => [(.aload_n 0, 0, 0, 0, 0), (.invokevirtual 67, 14, 102, 0, 1), (.ifCond .eq 12, 16, 0, 0, 0), (.aload_n 0, 0, 0, 0, 0), (.bipush 31, 0, 0, 0, 0), (.invokevirtual 74, 15, 102, 1, 2), (.ifCond .ne 5, 18, 0, 0, 0)]
  | 16 => [(.iconst 0, 0, 0, 0, 0), (.ireturn, 3, 0, 0, 0)]
  | 18 => [(.aload_n 0, 0, 0, 0, 0), (.getfield 22, 2, 3, 2, 0), (.getfield 177, 1, 9, 2, 0), (.iload_n 1, 1, 0, 0, 0), (.aload_n 0, 0, 0, 0, 0), (.getfield 22, 2, 3, 2, 0), (.getfield 180, 1, 11, 0, 0), (.iastore, 0, 0, 0, 0), (.iconst 0, 0, 0, 0, 0), (.istore_n 2, 2, 0, 0, 0)]
  | 36 => [(.iload_n 2, 2, 0, 0, 0), (.iconst 4, 0, 0, 0, 0), (.if_icmp .gt 92, 130, 0, 0, 0), (.aload_n 0, 0, 0, 0, 0), (.invokevirtual 51, 11, 102, 0, 1), (.bipush 11, 0, 0, 0, 0), (.if_icmp .ne 83, 130, 0, 0, 0), (.iload_n 2, 2, 0, 0, 0), (.iconst 4, 0, 0, 0, 0), (.if_icmp .ne 9, 61, 0, 0, 0), (.aload_n 0, 0, 0, 0, 0), (.iconst 2, 0, 0, 0, 0), (.invokevirtual 63, 12, 102, 1, 2), (.ireturn, 3, 0, 0, 0)]
  | 61 => [(.aload_n 0, 0, 0, 0, 0), (.invokevirtual 67, 14, 102, 0, 1), (.ifCond .eq 57, 122, 0, 0, 0), (.aload_n 0, 0, 0, 0, 0), (.invokevirtual 183, 31, 102, 0, 5), (.ifCond .eq 50, 122, 0, 0, 0), (.aload_n 0, 0, 0, 0, 0), (.bipush 36, 0, 0, 0, 0), (.invokevirtual 74, 15, 102, 1, 2), (.ifCond .eq 41, 122, 0, 0, 0), (.aload_n 0, 0, 0, 0, 0), (.invokevirtual 183, 31, 102, 0, 5), (.ifCond .eq 34, 122, 0, 0, 0), (.aload_n 0, 0, 0, 0, 0), (.bipush 12, 0, 0, 0, 0), (.sipush 20004, 0, 0, 0, 0), (.invokevirtual 186, 30, 102, 2, 3), (.ifCond .eq 22, 122, 0, 0, 0), (.aload_n 0, 0, 0, 0, 0), (.invokevirtual 183, 31, 102, 0, 5), (.ifCond .eq 15, 122, 0, 0, 0), (.aload_n 0, 0, 0, 0, 0), (.bipush 13, 0, 0, 0, 0), (.sipush 20005, 0, 0, 0, 0), (.invokevirtual 186, 30, 102, 2, 3), (.ifCond .ne 5, 124, 0, 0, 0)]
  | 122 => [(.iconst 0, 0, 0, 0, 0), (.ireturn, 3, 0, 0, 0)]
  | 124 => [(.iinc 2 1, 2, 0, 0, 0), (.goto (-91), 36, 0, 0, 0)]
  | 130 => [(.aload_n 0, 0, 0, 0, 0), (.invokevirtual 183, 31, 102, 0, 5), (.ifCond .eq 19, 153, 0, 0, 0), (.aload_n 0, 0, 0, 0, 0), (.bipush 30, 0, 0, 0, 0), (.sipush 20006, 0, 0, 0, 0), (.invokevirtual 186, 30, 102, 2, 3), (.ifCond .eq 7, 153, 0, 0, 0), (.iconst 1, 0, 0, 0, 0), (.goto 4, 154, 0, 0, 0)]
  | 153 => [(.iconst 0, 0, 0, 0, 0)]
  | 154 => [(.ireturn, 3, 0, 0, 0)]
  | _ => []
set_option maxRecDepth 20000 in
theorem ck_29 : ∀ t, chkL 29 t (bk_29 t) = true := by
  intro t
  unfold bk_29
  split <;> first | decide +kernel | rfl
def cu_29 : Nat → Option (List Nat) := fun t => match t with | 36 => some [0, 2] | _ => none
/-- SluiceLogs$Reader.takeAsCode(II)Z -/
def bk_30 : Nat → List Ins := fun t => match t with
  | 0 => [(.aload_n 0, 0, 0, 0, 0), (.invokevirtual 51, 11, 102, 0, 1), (.iload_n 1, 1, 0, 0, 0), (.if_icmp .eq 9, 14, 0, 0, 0), (.aload_n 0, 0, 0, 0, 0), (.iconst 1, 0, 0, 0, 0), (.invokevirtual 63, 12, 102, 1, 2), (.ireturn, 3, 0, 0, 0)]
  | 14 => [(.aload_n 0, 0, 0, 0, 0), (.getfield 22, 2, 3, 2, 0), (.iload_n 2, 2, 0, 0, 0), (.invokevirtual 189, 6, 101, 1, 2), (.aload_n 0, 0, 0, 0, 0), (.invokevirtual 67, 14, 102, 0, 1), (.ireturn, 3, 0, 0, 0)]
  | _ => []
set_option maxRecDepth 20000 in
theorem ck_30 : ∀ t, chkL 30 t (bk_30 t) = true := by
  intro t
  unfold bk_30
  split <;> first | decide +kernel | rfl
def cu_30 : Nat → Option (List Nat) := fun _ => none
/-- SluiceLogs$Reader.readSum()Z -/
def bk_31 : Nat → List Ins := fun t => match t with
  | 0 => [(.iconst 0, 0, 0, 0, 0), (.istore_n 1, 1, 0, 0, 0), (.iconst 1, 0, 0, 0, 0), (.istore_n 2, 2, 0, 0, 0), (.aload_n 0, 0, 0, 0, 0), (.iconst 0, 0, 0, 0, 0), (.putfield 192, 2, 8, 0, 0), (.iconst 0, 0, 0, 0, 0), (.istore_n 3, 3, 0, 0, 0)]
  | 11 => [(.iload_n 3, 3, 0, 0, 0), (.sipush 400, 0, 0, 0, 0), (.if_icmp .gt 166, 181, 0, 0, 0), (.aload_n 0, 0, 0, 0, 0), (.invokevirtual 51, 11, 102, 0, 1), (.istore 4, 4, 0, 0, 0), (.iload_n 2, 2, 0, 0, 0), (.ifCond .eq 34, 59, 0, 0, 0), (.iload 4, 4, 0, 0, 0), (.bipush 37, 0, 0, 0, 0), (.if_icmp .ne 27, 59, 0, 0, 0), (.iload_n 1, 1, 0, 0, 0), (.bipush 6, 0, 0, 0, 0), (.if_icmp .ne 9, 47, 0, 0, 0), (.aload_n 0, 0, 0, 0, 0), (.iconst 2, 0, 0, 0, 0), (.invokevirtual 63, 12, 102, 1, 2), (.ireturn, 3, 0, 0, 0)]
  | 47 => [(.iinc 1 1, 1, 0, 0, 0), (.aload_n 0, 0, 0, 0, 0), (.iload 4, 4, 0, 0, 0), (.invokevirtual 195, 34, 102, 1, 2), (.goto 110, 166, 0, 0, 0)]
  | 59 => [(.iload_n 2, 2, 0, 0, 0), (.ifCond .eq 23, 83, 0, 0, 0), (.aload_n 0, 0, 0, 0, 0), (.iload 4, 4, 0, 0, 0), (.invokevirtual 198, 32, 102, 1, 2), (.ifCond .ne 9, 78, 0, 0, 0), (.aload_n 0, 0, 0, 0, 0), (.iconst 1, 0, 0, 0, 0), (.invokevirtual 63, 12, 102, 1, 2), (.ireturn, 3, 0, 0, 0)]
  | 78 => [(.iconst 0, 0, 0, 0, 0), (.istore_n 2, 2, 0, 0, 0), (.goto 86, 166, 0, 0, 0)]
  | 83 => [(.iload 4, 4, 0, 0, 0), (.invokestatic 201, 33, 0, 1, 1), (.ifCond .le 23, 111, 0, 0, 0), (.aload_n 0, 0, 0, 0, 0), (.iload 4, 4, 0, 0, 0), (.invokestatic 201, 33, 0, 1, 1), (.invokevirtual 204, 35, 102, 1, 2), (.aload_n 0, 0, 0, 0, 0), (.iload 4, 4, 0, 0, 0), (.invokevirtual 195, 34, 102, 1, 2), (.iconst 1, 0, 0, 0, 0), (.istore_n 2, 2, 0, 0, 0), (.goto 58, 166, 0, 0, 0)]
  | 111 => [(.iload 4, 4, 0, 0, 0), (.bipush 38, 0, 0, 0, 0), (.if_icmp .ne 28, 143, 0, 0, 0), (.iload_n 1, 1, 0, 0, 0), (.ifCond .le 24, 143, 0, 0, 0), (.aload_n 0, 0, 0, 0, 0), (.iconst 1, 0, 0, 0, 0), (.invokevirtual 204, 35, 102, 1, 2), (.iinc 1 (-1), 1, 0, 0, 0), (.aload_n 0, 0, 0, 0, 0), (.dup, 0, 0, 0, 0), (.getfield 192, 2, 8, 0, 0), (.iconst 1, 0, 0, 0, 0), (.isub, 0, 0, 0, 0), (.putfield 192, 2, 8, 0, 0), (.goto 26, 166, 0, 0, 0)]
  | 143 => [(.aload_n 0, 0, 0, 0, 0), (.iconst 1, 0, 0, 0, 0), (.invokevirtual 204, 35, 102, 1, 2), (.iload_n 1, 1, 0, 0, 0), (.ifCond .eq 11, 160, 0, 0, 0), (.aload_n 0, 0, 0, 0, 0), (.iconst 1, 0, 0, 0, 0), (.invokevirtual 63, 12, 102, 1, 2), (.ifCond .eq 7, 164, 0, 0, 0)]
  | 160 => [(.iconst 1, 0, 0, 0, 0), (.goto 4, 165, 0, 0, 0)]
  | 164 => [(.iconst 0, 0, 0, 0, 0)]
  | 165 => [(.ireturn, 3, 0, 0, 0)]
  | 166 => [(.aload_n 0, 0, 0, 0, 0), (.invokevirtual 67, 14, 102, 0, 1), (.ifCond .ne 5, 175, 0, 0, 0), (.iconst 0, 0, 0, 0, 0), (.ireturn, 3, 0, 0, 0)]
  | 175 => [(.iinc 3 1, 3, 0, 0, 0), (.goto (-167), 11, 0, 0, 0)]
  | 181 => [(.aload_n 0, 0, 0, 0, 0), (.iconst 2, 0, 0, 0, 0), (.invokevirtual 63, 12, 102, 1, 2), (.ireturn, 3, 0, 0, 0)]
  | _ => []
set_option maxRecDepth 20000 in
theorem ck_31 : ∀ t, chkL 31 t (bk_31 t) = true := by
  intro t
  unfold bk_31
  split <;> first | decide +kernel | rfl
def cu_31 : Nat → Option (List Nat) := fun t => match t with | 11 => some [0, 1, 2, 3] | _ => none
/-- SluiceLogs$Reader.addUnit(I)Z -/
def bk_32 : Nat → List Ins := fun t => match t with
  | 0 => [(.iload_n 1, 1, 0, 0, 0), (.bipush 41, 0, 0, 0, 0), (.if_icmp .ne 25, 28, 0, 0, 0), (.aload_n 0, 0, 0, 0, 0), (.getfield 22, 2, 3, 2, 0), (.aload_n 0, 0, 0, 0, 0), (.getfield 14, 2, 2, 2, 0), (.getfield 70, 5, 2, 2, 0), (.aload_n 0, 0, 0, 0, 0), (.getfield 35, 2, 4, 0, 0), (.laload, 0, 0, 0, 0), (.l2i, 0, 0, 0, 0), (.invokevirtual 189, 6, 101, 1, 2), (.iconst 1, 0, 0, 0, 0), (.ireturn, 3, 0, 0, 0)]
  | 28 => [(.iload_n 1, 1, 0, 0, 0), (.bipush 14, 0, 0, 0, 0), (.if_icmp .lt 26, 57, 0, 0, 0), (.iload_n 1, 1, 0, 0, 0), (.bipush 22, 0, 0, 0, 0), (.if_icmp .gt 20, 57, 0, 0, 0), (.aload_n 0, 0, 0, 0, 0), (.getfield 22, 2, 3, 2, 0), (.sipush 10000, 0, 0, 0, 0), (.iload_n 1, 1, 0, 0, 0), (.iadd, 0, 0, 0, 0), (.bipush 14, 0, 0, 0, 0), (.isub, 0, 0, 0, 0), (.invokevirtual 189, 6, 101, 1, 2), (.iconst 1, 0, 0, 0, 0), (.ireturn, 3, 0, 0, 0)]
  | 57 => [(.iconst 0, 0, 0, 0, 0), (.ireturn, 3, 0, 0, 0)]
  | _ => []
set_option maxRecDepth 20000 in
theorem ck_32 : ∀ t, chkL 32 t (bk_32 t) = true := by
  intro t
  unfold bk_32
  split <;> first | decide +kernel | rfl
def cu_32 : Nat → Option (List Nat) := fun _ => none
/-- SluiceLogs$Reader.rank(I)I -/
def bk_33 : Nat → List Ins := fun t => match t with
  | 0 => [(.iload_n 0, 0, 0, 0, 0), (.bipush 34, 0, 0, 0, 0), (.if_icmp .eq 9, 12, 0, 0, 0), (.iload_n 0, 0, 0, 0, 0), (.bipush 35, 0, 0, 0, 0), (.if_icmp .ne 5, 14, 0, 0, 0)]
  | 12 => [(.iconst 2, 0, 0, 0, 0), (.ireturn, 0, 0, 0, 0)]
  | 14 => [(.iload_n 0, 0, 0, 0, 0), (.bipush 32, 0, 0, 0, 0), (.if_icmp .eq 9, 26, 0, 0, 0), (.iload_n 0, 0, 0, 0, 0), (.bipush 33, 0, 0, 0, 0), (.if_icmp .ne 7, 30, 0, 0, 0)]
  | 26 => [(.iconst 1, 0, 0, 0, 0), (.goto 4, 31, 0, 0, 0)]
  | 30 => [(.iconst 0, 0, 0, 0, 0)]
  | 31 => [(.ireturn, 0, 0, 0, 0)]
  | _ => []
set_option maxRecDepth 20000 in
theorem ck_33 : ∀ t, chkL 33 t (bk_33 t) = true := by
  intro t
  unfold bk_33
  split <;> first | decide +kernel | rfl
def cu_33 : Nat → Option (List Nat) := fun _ => none
/-- SluiceLogs$Reader.putWaiting(I)V -/
def bk_34 : Nat → List Ins := fun t => match t with
  | 0 => [(.aload_n 0, 0, 0, 0, 0), (.getfield 192, 2, 8, 0, 0), (.bipush 21, 0, 0, 0, 0), (.if_icmp .ge 23, 29, 0, 0, 0), (.aload_n 0, 0, 0, 0, 0), (.getfield 18, 2, 7, 2, 0), (.aload_n 0, 0, 0, 0, 0), (.getfield 192, 2, 8, 0, 0), (.iload_n 1, 1, 0, 0, 0), (.iastore, 0, 0, 0, 0), (.aload_n 0, 0, 0, 0, 0), (.dup, 0, 0, 0, 0), (.getfield 192, 2, 8, 0, 0), (.iconst 1, 0, 0, 0, 0), (.iadd, 0, 0, 0, 0), (.putfield 192, 2, 8, 0, 0)]
  | 29 => [(.return_, 0, 0, 0, 0)]
  | _ => []
set_option maxRecDepth 20000 in
theorem ck_34 : ∀ t, chkL 34 t (bk_34 t) = true := by
  intro t
  unfold bk_34
  split <;> first | decide +kernel | rfl
def cu_34 : Nat → Option (List Nat) := fun _ => none
/-- SluiceLogs$Reader.addWaiting(I)V -/
def bk_35 : Nat → List Ins := fun t => match t with
  | 0 => [(.aload_n 0, 0, 0, 0, 0), (.getfield 192, 2, 8, 0, 0), (.ifCond .le 57, 61, 0, 0, 0), (.aload_n 0, 0, 0, 0, 0), (.getfield 18, 2, 7, 2, 0), (.aload_n 0, 0, 0, 0, 0), (.getfield 192, 2, 8, 0, 0), (.iconst 1, 0, 0, 0, 0), (.isub, 0, 0, 0, 0), (.iaload, 0, 0, 0, 0), (.invokestatic 201, 33, 0, 1, 1), (.iload_n 1, 1, 0, 0, 0), (.if_icmp .lt 39, 61, 0, 0, 0), (.aload_n 0, 0, 0, 0, 0), (.dup, 0, 0, 0, 0), (.getfield 192, 2, 8, 0, 0), (.iconst 1, 0, 0, 0, 0), (.isub, 0, 0, 0, 0), (.putfield 192, 2, 8, 0, 0), (.aload_n 0, 0, 0, 0, 0), (.getfield 22, 2, 3, 2, 0), (.sipush 20000, 0, 0, 0, 0), (.aload_n 0, 0, 0, 0, 0), (.getfield 18, 2, 7, 2, 0), (.aload_n 0, 0, 0, 0, 0), (.getfield 192, 2, 8, 0, 0), (.iaload, 0, 0, 0, 0), (.iadd, 0, 0, 0, 0), (.bipush 32, 0, 0, 0, 0), (.isub, 0, 0, 0, 0), (.invokevirtual 189, 6, 101, 1, 2), (.goto (-58), 0, 0, 0, 0)]
  | 61 => [(.return_, 0, 0, 0, 0)]
  | _ => []
set_option maxRecDepth 20000 in
theorem ck_35 : ∀ t, chkL 35 t (bk_35 t) = true := by
  intro t
  unfold bk_35
  split <;> first | decide +kernel | rfl
def cu_35 : Nat → Option (List Nat) := fun t => match t with | 0 => some [0, 1] | _ => none
/-- SluiceLogs$State.<init>()V -/
def bk_36 : Nat → List Ins := fun t => match t with
  | 0 => [(.aload_n 0, 0, 0, 0, 0), (.invokespecial 3, 0, 4, 0, 0), (.aload_n 0, 0, 0, 0, 0), (.bipush 12, 0, 0, 0, 0), (.newarray .int, 27, 0, 0, 0), (.putfield 9, 3, 0, 2, 0), (.aload_n 0, 0, 0, 0, 0), (.bipush 6, 0, 0, 0, 0), (.newarray .int, 28, 0, 0, 0), (.putfield 15, 3, 1, 2, 0), (.aload_n 0, 0, 0, 0, 0), (.bipush 6, 0, 0, 0, 0), (.newarray .int, 29, 0, 0, 0), (.putfield 18, 3, 2, 2, 0), (.aload_n 0, 0, 0, 0, 0), (.bipush 6, 0, 0, 0, 0), (.newarray .int, 30, 0, 0, 0), (.putfield 21, 3, 3, 2, 0), (.return_, 0, 0, 0, 0)]
  | _ => []
set_option maxRecDepth 20000 in
theorem ck_36 : ∀ t, chkL 36 t (bk_36 t) = true := by
  intro t
  unfold bk_36
  split <;> first | decide +kernel | rfl
def cu_36 : Nat → Option (List Nat) := fun _ => none
/-- SluiceLogs$State.empty()V -/
def bk_37 : Nat → List Ins := fun t => match t with
  | 0 => [(.aload_n 0, 0, 0, 0, 0), (.getfield 9, 3, 0, 2, 0), (.iconst 0, 0, 0, 0, 0), (.invokestatic 24, 298, 0, 2, 4), (.aload_n 0, 0, 0, 0, 0), (.getfield 15, 3, 1, 2, 0), (.bipush (-2), 0, 0, 0, 0), (.invokestatic 24, 298, 0, 2, 4), (.aload_n 0, 0, 0, 0, 0), (.getfield 18, 3, 2, 2, 0), (.iconst 0, 0, 0, 0, 0), (.invokestatic 24, 298, 0, 2, 4), (.aload_n 0, 0, 0, 0, 0), (.getfield 21, 3, 3, 2, 0), (.iconst 0, 0, 0, 0, 0), (.invokestatic 24, 298, 0, 2, 4), (.aload_n 0, 0, 0, 0, 0), (.bipush 8, 0, 0, 0, 0), (.putfield 30, 3, 4, 0, 0), (.aload_n 0, 0, 0, 0, 0), (.iconst 0, 0, 0, 0, 0), (.putfield 34, 3, 5, 0, 0), (.aload_n 0, 0, 0, 0, 0), (.iconst 0, 0, 0, 0, 0), (.putfield 37, 3, 6, 0, 0), (.return_, 0, 0, 0, 0)]
  | _ => []
set_option maxRecDepth 20000 in
theorem ck_37 : ∀ t, chkL 37 t (bk_37 t) = true := by
  intro t
  unfold bk_37
  split <;> first | decide +kernel | rfl
def cu_37 : Nat → Option (List Nat) := fun _ => none
/-- SluiceLogs$State.become(LSluiceLogs$State;)V -/
def bk_38 : Nat → List Ins := fun t => match t with
  | 0 => [(.aload_n 1, 1, 0, 0, 0), (.getfield 9, 3, 0, 2, 0), (.iconst 0, 0, 0, 0, 0), (.aload_n 0, 0, 0, 0, 0), (.getfield 9, 3, 0, 2, 0), (.iconst 0, 0, 0, 0, 0), (.bipush 12, 0, 0, 0, 0), (.invokestatic 40, 0, 5, 0, 0), (.aload_n 1, 1, 0, 0, 0), (.getfield 15, 3, 1, 2, 0), (.iconst 0, 0, 0, 0, 0), (.aload_n 0, 0, 0, 0, 0), (.getfield 15, 3, 1, 2, 0), (.iconst 0, 0, 0, 0, 0), (.bipush 6, 0, 0, 0, 0), (.invokestatic 40, 0, 5, 0, 0), (.aload_n 1, 1, 0, 0, 0), (.getfield 18, 3, 2, 2, 0), (.iconst 0, 0, 0, 0, 0), (.aload_n 0, 0, 0, 0, 0), (.getfield 18, 3, 2, 2, 0), (.iconst 0, 0, 0, 0, 0), (.bipush 6, 0, 0, 0, 0), (.invokestatic 40, 0, 5, 0, 0), (.aload_n 1, 1, 0, 0, 0), (.getfield 21, 3, 3, 2, 0), (.iconst 0, 0, 0, 0, 0), (.aload_n 0, 0, 0, 0, 0), (.getfield 21, 3, 3, 2, 0), (.iconst 0, 0, 0, 0, 0), (.bipush 6, 0, 0, 0, 0), (.invokestatic 40, 0, 5, 0, 0), (.aload_n 0, 0, 0, 0, 0), (.aload_n 1, 1, 0, 0, 0), (.getfield 30, 3, 4, 0, 0), (.putfield 30, 3, 4, 0, 0), (.aload_n 0, 0, 0, 0, 0), (.aload_n 1, 1, 0, 0, 0), (.getfield 34, 3, 5, 0, 0), (.putfield 34, 3, 5, 0, 0), (.aload_n 0, 0, 0, 0, 0), (.aload_n 1, 1, 0, 0, 0), (.getfield 37, 3, 6, 0, 0), (.putfield 37, 3, 6, 0, 0), (.return_, 0, 0, 0, 0)]
  | _ => []
set_option maxRecDepth 20000 in
theorem ck_38 : ∀ t, chkL 38 t (bk_38 t) = true := by
  intro t
  unfold bk_38
  split <;> first | decide +kernel | rfl
def cu_38 : Nat → Option (List Nat) := fun _ => none
/-- SluiceLogs$Talk.<init>()V -/
def bk_39 : Nat → List Ins := fun t => match t with
  | 0 => [(.aload_n 0, 0, 0, 0, 0), (.invokespecial 3, 0, 4, 0, 0), (.aload_n 0, 0, 0, 0, 0), (.bipush 20, 0, 0, 0, 0), (.newarray .int, 49, 0, 0, 0), (.putfield 9, 4, 0, 2, 0), (.aload_n 0, 0, 0, 0, 0), (.bipush 20, 0, 0, 0, 0), (.newarray .int, 50, 0, 0, 0), (.putfield 15, 4, 1, 2, 0), (.aload_n 0, 0, 0, 0, 0), (.bipush 20, 0, 0, 0, 0), (.newarray .boolean, 51, 0, 0, 0), (.putfield 18, 4, 2, 2, 0), (.aload_n 0, 0, 0, 0, 0), (.iconst 0, 0, 0, 0, 0), (.putfield 22, 4, 3, 0, 0), (.return_, 0, 0, 0, 0)]
  | _ => []
set_option maxRecDepth 20000 in
theorem ck_39 : ∀ t, chkL 39 t (bk_39 t) = true := by
  intro t
  unfold bk_39
  split <;> first | decide +kernel | rfl
def cu_39 : Nat → Option (List Nat) := fun _ => none
/-- SluiceLogs$Talk.fitsKnown([II)Z -/
def bk_40 : Nat → List Ins := fun t => match t with
  | 0 => [(.iconst 0, 0, 0, 0, 0), (.istore_n 3, 3, 0, 0, 0)]
  | 2 => [(.iload_n 3, 3, 0, 0, 0), (.iload_n 2, 2, 0, 0, 0), (.if_icmp .ge 48, 52, 0, 0, 0), (.iload_n 3, 3, 0, 0, 0), (.bipush 20, 0, 0, 0, 0), (.if_icmp .ge 42, 52, 0, 0, 0), (.aload_n 1, 1, 0, 0, 0), (.aload_n 0, 0, 0, 0, 0), (.getfield 9, 4, 0, 2, 0), (.iload_n 3, 3, 0, 0, 0), (.iaload, 0, 0, 0, 0), (.iaload, 0, 0, 0, 0), (.aload_n 0, 0, 0, 0, 0), (.getfield 15, 4, 1, 2, 0), (.iload_n 3, 3, 0, 0, 0), (.iaload, 0, 0, 0, 0), (.if_icmp .ne 7, 34, 0, 0, 0), (.iconst 1, 0, 0, 0, 0), (.goto 4, 35, 0, 0, 0)]
  | 34 => [(.iconst 0, 0, 0, 0, 0)]
  | 35 => [(.aload_n 0, 0, 0, 0, 0), (.getfield 18, 4, 2, 2, 0), (.iload_n 3, 3, 0, 0, 0), (.baload, 0, 0, 0, 0), (.if_icmp .eq 5, 46, 0, 0, 0), (.iconst 0, 0, 0, 0, 0), (.ireturn, 3, 0, 0, 0)]
  | 46 => [(.iinc 3 1, 3, 0, 0, 0), (.goto (-47), 2, 0, 0, 0)]
  | 52 => [(.iconst 1, 0, 0, 0, 0), (.ireturn, 3, 0, 0, 0)]
  | _ => []
set_option maxRecDepth 20000 in
theorem ck_40 : ∀ t, chkL 40 t (bk_40 t) = true := by
  intro t
  unfold bk_40
  split <;> first | decide +kernel | rfl
def cu_40 : Nat → Option (List Nat) := fun t => match t with | 2 => some [0, 1, 2, 3] | _ => none
/-- SluiceLogs$Tokens.<init>()V -/
def bk_41 : Nat → List Ins := fun t => match t with
  | 0 => [(.aload_n 0, 0, 0, 0, 0), (.invokespecial 3, 0, 4, 0, 0), (.aload_n 0, 0, 0, 0, 0), (.sipush 402, 0, 0, 0, 0), (.newarray .int, 14, 0, 0, 0), (.putfield 9, 5, 0, 2, 0), (.aload_n 0, 0, 0, 0, 0), (.sipush 402, 0, 0, 0, 0), (.newarray .int, 15, 0, 0, 0), (.putfield 15, 5, 1, 2, 0), (.aload_n 0, 0, 0, 0, 0), (.sipush 402, 0, 0, 0, 0), (.newarray .long, 16, 0, 0, 0), (.putfield 18, 5, 2, 2, 0), (.return_, 0, 0, 0, 0)]
  | _ => []
set_option maxRecDepth 20000 in
theorem ck_41 : ∀ t, chkL 41 t (bk_41 t) = true := by
  intro t
  unfold bk_41
  split <;> first | decide +kernel | rfl
def cu_41 : Nat → Option (List Nat) := fun _ => none
/-- SluiceLogs$Tokens.scan([BI)V -/
def bk_42 : Nat → List Ins := fun t => match t with
  | 0 => [(.aload_n 0, 0, 0, 0, 0), (.iconst 0, 0, 0, 0, 0), (.putfield 22, 5, 3, 0, 0), (.iconst 0, 0, 0, 0, 0), (.istore_n 3, 3, 0, 0, 0)]
  | 7 => [(.iload_n 3, 3, 0, 0, 0), (.iload_n 2, 2, 0, 0, 0), (.if_icmp .ge 100, 109, 0, 0, 0), (.aload_n 0, 0, 0, 0, 0), (.getfield 22, 5, 3, 0, 0), (.sipush 400, 0, 0, 0, 0), (.if_icmp .gt 90, 109, 0, 0, 0), (.aload_n 1, 1, 0, 0, 0), (.iload_n 3, 3, 0, 0, 0), (.baload, 0, 0, 0, 0), (.invokestatic 26, 43, 0, 1, 1), (.ifCond .eq 6, 34, 0, 0, 0), (.goto 72, 103, 0, 0, 0)]
  | 34 => [(.aload_n 1, 1, 0, 0, 0), (.iload_n 2, 2, 0, 0, 0), (.iload_n 3, 3, 0, 0, 0), (.invokestatic 30, 46, 0, 3, 6), (.istore 4, 4, 0, 0, 0), (.aload_n 0, 0, 0, 0, 0), (.getfield 9, 5, 0, 2, 0), (.aload_n 0, 0, 0, 0, 0), (.getfield 22, 5, 3, 0, 0), (.aload_n 1, 1, 0, 0, 0), (.iload_n 3, 3, 0, 0, 0), (.iload 4, 4, 0, 0, 0), (.invokestatic 34, 47, 0, 3, 4), (.iastore, 0, 0, 0, 0), (.aload_n 0, 0, 0, 0, 0), (.getfield 15, 5, 1, 2, 0), (.aload_n 0, 0, 0, 0, 0), (.getfield 22, 5, 3, 0, 0), (.iload_n 3, 3, 0, 0, 0), (.iastore, 0, 0, 0, 0), (.aload_n 0, 0, 0, 0, 0), (.getfield 18, 5, 2, 2, 0), (.aload_n 0, 0, 0, 0, 0), (.getfield 22, 5, 3, 0, 0), (.aload_n 1, 1, 0, 0, 0), (.iload_n 3, 3, 0, 0, 0), (.iload 4, 4, 0, 0, 0), (.invokestatic 37, 50, 0, 3, 6), (.lastore, 0, 0, 0, 0), (.aload_n 0, 0, 0, 0, 0), (.dup, 0, 0, 0, 0), (.getfield 22, 5, 3, 0, 0), (.iconst 1, 0, 0, 0, 0), (.iadd, 0, 0, 0, 0), (.putfield 22, 5, 3, 0, 0), (.iload_n 3, 3, 0, 0, 0), (.iload 4, 4, 0, 0, 0), (.iconst 1, 0, 0, 0, 0), (.isub, 0, 0, 0, 0), (.invokestatic 41, 285, 0, 2, 2), (.istore_n 3, 3, 0, 0, 0)]
  | 103 => [(.iinc 3 1, 3, 0, 0, 0), (.goto (-99), 7, 0, 0, 0)]
  | 109 => [(.aload_n 0, 0, 0, 0, 0), (.getfield 9, 5, 0, 2, 0), (.aload_n 0, 0, 0, 0, 0), (.getfield 22, 5, 3, 0, 0), (.bipush 43, 0, 0, 0, 0), (.iastore, 0, 0, 0, 0), (.aload_n 0, 0, 0, 0, 0), (.getfield 15, 5, 1, 2, 0), (.aload_n 0, 0, 0, 0, 0), (.getfield 22, 5, 3, 0, 0), (.iload_n 2, 2, 0, 0, 0), (.iastore, 0, 0, 0, 0), (.aload_n 0, 0, 0, 0, 0), (.getfield 18, 5, 2, 2, 0), (.aload_n 0, 0, 0, 0, 0), (.getfield 22, 5, 3, 0, 0), (.lconst 0, 0, 0, 0, 0), (.lastore, 0, 0, 0, 0), (.return_, 0, 0, 0, 0)]
  | _ => []
set_option maxRecDepth 20000 in
theorem ck_42 : ∀ t, chkL 42 t (bk_42 t) = true := by
  intro t
  unfold bk_42
  split <;> first | decide +kernel | rfl
def cu_42 : Nat → Option (List Nat) := fun t => match t with | 7 => some [0, 1, 2, 3] | _ => none
/-- SluiceLogs$Tokens.isBlank(I)Z -/
def bk_43 : Nat → List Ins := fun t => match t with
  | 0 => [(.iload_n 0, 0, 0, 0, 0), (.bipush 9, 0, 0, 0, 0), (.if_icmp .eq 21, 24, 0, 0, 0), (.iload_n 0, 0, 0, 0, 0), (.bipush 10, 0, 0, 0, 0), (.if_icmp .eq 15, 24, 0, 0, 0), (.iload_n 0, 0, 0, 0, 0), (.bipush 13, 0, 0, 0, 0), (.if_icmp .eq 9, 24, 0, 0, 0), (.iload_n 0, 0, 0, 0, 0), (.bipush 32, 0, 0, 0, 0), (.if_icmp .ne 7, 28, 0, 0, 0)]
  | 24 => [(.iconst 1, 0, 0, 0, 0), (.goto 4, 29, 0, 0, 0)]
  | 28 => [(.iconst 0, 0, 0, 0, 0)]
  | 29 => [(.ireturn, 3, 0, 0, 0)]
  | _ => []
set_option maxRecDepth 20000 in
theorem ck_43 : ∀ t, chkL 43 t (bk_43 t) = true := by
  intro t
  unfold bk_43
  split <;> first | decide +kernel | rfl
def cu_43 : Nat → Option (List Nat) := fun _ => none
/-- SluiceLogs$Tokens.isLetter(I)Z -/
def bk_44 : Nat → List Ins := fun t => match t with
  | 0 => [(.iload_n 0, 0, 0, 0, 0), (.bipush 97, 0, 0, 0, 0), (.if_icmp .lt 13, 16, 0, 0, 0), (.iload_n 0, 0, 0, 0, 0), (.bipush 122, 0, 0, 0, 0), (.if_icmp .gt 7, 16, 0, 0, 0), (.iconst 1, 0, 0, 0, 0), (.goto 4, 17, 0, 0, 0)]
  | 16 => [(.iconst 0, 0, 0, 0, 0)]
  | 17 => [(.ireturn, 3, 0, 0, 0)]
  | _ => []
set_option maxRecDepth 20000 in
theorem ck_44 : ∀ t, chkL 44 t (bk_44 t) = true := by
  intro t
  unfold bk_44
  split <;> first | decide +kernel | rfl
def cu_44 : Nat → Option (List Nat) := fun _ => none
/-- SluiceLogs$Tokens.isDigit(I)Z -/
def bk_45 : Nat → List Ins := fun t => match t with
  | 0 => [(.iload_n 0, 0, 0, 0, 0), (.bipush 48, 0, 0, 0, 0), (.if_icmp .lt 13, 16, 0, 0, 0), (.iload_n 0, 0, 0, 0, 0), (.bipush 57, 0, 0, 0, 0), (.if_icmp .gt 7, 16, 0, 0, 0), (.iconst 1, 0, 0, 0, 0), (.goto 4, 17, 0, 0, 0)]
  | 16 => [(.iconst 0, 0, 0, 0, 0)]
  | 17 => [(.ireturn, 3, 0, 0, 0)]
  | _ => []
set_option maxRecDepth 20000 in
theorem ck_45 : ∀ t, chkL 45 t (bk_45 t) = true := by
  intro t
  unfold bk_45
  split <;> first | decide +kernel | rfl
def cu_45 : Nat → Option (List Nat) := fun _ => none
/-- SluiceLogs$Tokens.endOfToken([BII)I -/
def bk_46 : Nat → List Ins := fun t => match t with
  | 0 => [(.aload_n 0, 0, 0, 0, 0), (.iload_n 2, 2, 0, 0, 0), (.baload, 0, 0, 0, 0), (.invokestatic 47, 44, 0, 1, 1), (.istore_n 3, 3, 0, 0, 0), (.aload_n 0, 0, 0, 0, 0), (.iload_n 2, 2, 0, 0, 0), (.baload, 0, 0, 0, 0), (.invokestatic 50, 45, 0, 1, 1), (.istore 4, 4, 0, 0, 0), (.iload_n 2, 2, 0, 0, 0), (.iconst 1, 0, 0, 0, 0), (.iadd, 0, 0, 0, 0), (.istore 5, 5, 0, 0, 0)]
  | 20 => [(.iload 5, 5, 0, 0, 0), (.iload_n 1, 1, 0, 0, 0), (.if_icmp .ge 38, 61, 0, 0, 0), (.iload_n 3, 3, 0, 0, 0), (.ifCond .eq 13, 40, 0, 0, 0), (.aload_n 0, 0, 0, 0, 0), (.iload 5, 5, 0, 0, 0), (.baload, 0, 0, 0, 0), (.invokestatic 47, 44, 0, 1, 1), (.ifCond .ne 18, 55, 0, 0, 0)]
  | 40 => [(.iload 4, 4, 0, 0, 0), (.ifCond .eq 19, 61, 0, 0, 0), (.aload_n 0, 0, 0, 0, 0), (.iload 5, 5, 0, 0, 0), (.baload, 0, 0, 0, 0), (.invokestatic 50, 45, 0, 1, 1), (.ifCond .eq 9, 61, 0, 0, 0)]
  | 55 => [(.iinc 5 1, 5, 0, 0, 0), (.goto (-38), 20, 0, 0, 0)]
  | 61 => [(.iload 5, 5, 0, 0, 0), (.ireturn, 0, 0, 0, 0)]
  | _ => []
set_option maxRecDepth 20000 in
theorem ck_46 : ∀ t, chkL 46 t (bk_46 t) = true := by
  intro t
  unfold bk_46
  split <;> first | decide +kernel | rfl
def cu_46 : Nat → Option (List Nat) := fun t => match t with | 20 => some [0, 1, 3, 4, 5] | _ => none
/-- SluiceLogs$Tokens.kindOf([BII)I -/
def bk_47 : Nat → List Ins := fun t => match t with
  | 0 => [(.aload_n 0, 0, 0, 0, 0), (.iload_n 1, 1, 0, 0, 0), (.baload, 0, 0, 0, 0), (.invokestatic 47, 44, 0, 1, 1), (.ifCond .eq 23, 29, 0, 0, 0), (.iload_n 2, 2, 0, 0, 0), (.iload_n 1, 1, 0, 0, 0), (.isub, 0, 0, 0, 0), (.bipush 8, 0, 0, 0, 0), (.if_icmp .le 8, 22, 0, 0, 0), (.bipush 42, 0, 0, 0, 0), (.goto 9, 28, 0, 0, 0)]
  | 22 => [(.aload_n 0, 0, 0, 0, 0), (.iload_n 1, 1, 0, 0, 0), (.iload_n 2, 2, 0, 0, 0), (.invokestatic 53, 48, 0, 3, 4)]
  | 28 => [(.ireturn, 0, 0, 0, 0)]
  | 29 => [(.aload_n 0, 0, 0, 0, 0), (.iload_n 1, 1, 0, 0, 0), (.baload, 0, 0, 0, 0), (.invokestatic 50, 45, 0, 1, 1), (.ifCond .eq 18, 53, 0, 0, 0), (.iload_n 2, 2, 0, 0, 0), (.iload_n 1, 1, 0, 0, 0), (.isub, 0, 0, 0, 0), (.iconst 4, 0, 0, 0, 0), (.if_icmp .le 8, 50, 0, 0, 0), (.bipush 42, 0, 0, 0, 0), (.goto 5, 52, 0, 0, 0)]
  | 50 => [(.bipush 41, 0, 0, 0, 0)]
  | 52 => [(.ireturn, 0, 0, 0, 0)]
  | 53 => [(.iconst 0, 0, 0, 0, 0), (.istore_n 3, 3, 0, 0, 0)]
  | 55 => [(.iload_n 3, 3, 0, 0, 0), (.ldc 56, 1, 1, 0, 0), (.invokevirtual 58, 0, 6, 0, 0), (.if_icmp .ge 26, 87, 0, 0, 0), (.ldc 56, 1, 1, 0, 0), (.iload_n 3, 3, 0, 0, 0), (.invokevirtual 64, 0, 7, 0, 0), (.aload_n 0, 0, 0, 0, 0), (.iload_n 1, 1, 0, 0, 0), (.baload, 0, 0, 0, 0), (.if_icmp .ne 8, 81, 0, 0, 0), (.bipush 30, 0, 0, 0, 0), (.iload_n 3, 3, 0, 0, 0), (.iadd, 0, 0, 0, 0), (.ireturn, 0, 0, 0, 0)]
  | 81 => [(.iinc 3 1, 3, 0, 0, 0), (.goto (-29), 55, 0, 0, 0)]
  | 87 => [(.bipush 42, 0, 0, 0, 0), (.ireturn, 0, 0, 0, 0)]
  | _ => []
set_option maxRecDepth 20000 in
theorem ck_47 : ∀ t, chkL 47 t (bk_47 t) = true := by
  intro t
  unfold bk_47
  split <;> first | decide +kernel | rfl
def cu_47 : Nat → Option (List Nat) := fun t => match t with | 55 => some [0, 1, 3] | _ => none
/-- SluiceLogs$Tokens.wordOrName([BII)I -/
def bk_48 : Nat → List Ins := fun t => match t with
  | 0 => [(.iconst 0, 0, 0, 0, 0), (.istore_n 3, 3, 0, 0, 0)]
  | 2 => [(.iload_n 3, 3, 0, 0, 0), (.bipush 22, 0, 0, 0, 0), (.if_icmp .gt 24, 29, 0, 0, 0), (.aload_n 0, 0, 0, 0, 0), (.iload_n 1, 1, 0, 0, 0), (.iload_n 2, 2, 0, 0, 0), (.iload_n 3, 3, 0, 0, 0), (.bipush 8, 0, 0, 0, 0), (.imul, 0, 0, 0, 0), (.invokestatic 68, 49, 0, 4, 6), (.ifCond .eq 5, 23, 0, 0, 0), (.iload_n 3, 3, 0, 0, 0), (.ireturn, 0, 0, 0, 0)]
  | 23 => [(.iinc 3 1, 3, 0, 0, 0), (.goto (-24), 2, 0, 0, 0)]
  | 29 => [(.bipush 40, 0, 0, 0, 0), (.ireturn, 0, 0, 0, 0)]
  | _ => []
set_option maxRecDepth 20000 in
theorem ck_48 : ∀ t, chkL 48 t (bk_48 t) = true := by
  intro t
  unfold bk_48
  split <;> first | decide +kernel | rfl
def cu_48 : Nat → Option (List Nat) := fun t => match t with | 2 => some [0, 1, 2, 3] | _ => none
/-- SluiceLogs$Tokens.isWord([BIII)Z -/
def bk_49 : Nat → List Ins := fun t => match t with
  | 0 => [(.iconst 0, 0, 0, 0, 0), (.istore 4, 4, 0, 0, 0)]
  | 3 => [(.iload 4, 4, 0, 0, 0), (.bipush 8, 0, 0, 0, 0), (.if_icmp .ge 58, 65, 0, 0, 0), (.iload_n 3, 3, 0, 0, 0), (.iload 4, 4, 0, 0, 0), (.iadd, 0, 0, 0, 0), (.ldc 72, 0, 1, 0, 0), (.invokevirtual 58, 0, 6, 0, 0), (.if_icmp .ge 46, 65, 0, 0, 0), (.iload_n 1, 1, 0, 0, 0), (.iload 4, 4, 0, 0, 0), (.iadd, 0, 0, 0, 0), (.iload_n 2, 2, 0, 0, 0), (.if_icmp .ge 12, 39, 0, 0, 0), (.aload_n 0, 0, 0, 0, 0), (.iload_n 1, 1, 0, 0, 0), (.iload 4, 4, 0, 0, 0), (.iadd, 0, 0, 0, 0), (.baload, 0, 0, 0, 0), (.goto 5, 41, 0, 0, 0)]
  | 39 => [(.bipush 32, 0, 0, 0, 0)]
  | 41 => [(.istore 5, 5, 0, 0, 0), (.ldc 72, 0, 1, 0, 0), (.iload_n 3, 3, 0, 0, 0), (.iload 4, 4, 0, 0, 0), (.iadd, 0, 0, 0, 0), (.invokevirtual 64, 0, 7, 0, 0), (.iload 5, 5, 0, 0, 0), (.if_icmp .eq 5, 59, 0, 0, 0), (.iconst 0, 0, 0, 0, 0), (.ireturn, 3, 0, 0, 0)]
  | 59 => [(.iinc 4 1, 4, 0, 0, 0), (.goto (-59), 3, 0, 0, 0)]
  | 65 => [(.iconst 1, 0, 0, 0, 0), (.ireturn, 3, 0, 0, 0)]
  | _ => []
set_option maxRecDepth 20000 in
theorem ck_49 : ∀ t, chkL 49 t (bk_49 t) = true := by
  intro t
  unfold bk_49
  split <;> first | decide +kernel | rfl
def cu_49 : Nat → Option (List Nat) := fun t => match t with | 3 => some [0, 1, 2, 3, 4] | _ => none
/-- SluiceLogs$Tokens.valueOf([BII)J -/
def bk_50 : Nat → List Ins := fun t => match t with
  | 0 => [(.lconst 0, 0, 0, 0, 0), (.lstore_n 3, 3, 0, 0, 0), (.iload_n 1, 1, 0, 0, 0), (.istore 5, 5, 0, 0, 0)]
  | 5 => [(.iload 5, 5, 0, 0, 0), (.iload_n 2, 2, 0, 0, 0), (.if_icmp .ge 53, 61, 0, 0, 0), (.aload_n 0, 0, 0, 0, 0), (.iload 5, 5, 0, 0, 0), (.baload, 0, 0, 0, 0), (.invokestatic 50, 45, 0, 1, 1), (.ifCond .eq 20, 38, 0, 0, 0), (.lload_n 3, 3, 0, 0, 0), (.ldc2_w 74, 10, 0, 0, 0), (.lmul, 0, 0, 0, 0), (.aload_n 0, 0, 0, 0, 0), (.iload 5, 5, 0, 0, 0), (.baload, 0, 0, 0, 0), (.bipush 48, 0, 0, 0, 0), (.isub, 0, 0, 0, 0), (.i2l, 0, 0, 0, 0), (.ladd, 0, 0, 0, 0), (.goto 19, 54, 0, 0, 0)]
  | 38 => [(.lload_n 3, 3, 0, 0, 0), (.ldc2_w 76, 27, 0, 0, 0), (.lmul, 0, 0, 0, 0), (.aload_n 0, 0, 0, 0, 0), (.iload 5, 5, 0, 0, 0), (.baload, 0, 0, 0, 0), (.bipush 97, 0, 0, 0, 0), (.isub, 0, 0, 0, 0), (.iconst 1, 0, 0, 0, 0), (.iadd, 0, 0, 0, 0), (.i2l, 0, 0, 0, 0), (.ladd, 0, 0, 0, 0)]
  | 54 => [(.lstore_n 3, 3, 0, 0, 0), (.iinc 5 1, 5, 0, 0, 0), (.goto (-53), 5, 0, 0, 0)]
  | 61 => [(.lload_n 3, 3, 0, 0, 0), (.lreturn, 0, 0, 0, 0)]
  | _ => []
set_option maxRecDepth 20000 in
theorem ck_50 : ∀ t, chkL 50 t (bk_50 t) = true := by
  intro t
  unfold bk_50
  split <;> first | decide +kernel | rfl
def cu_50 : Nat → Option (List Nat) := fun t => match t with | 5 => some [0, 2, 3, 5] | _ => none
/-- SluiceLogs$Water.<init>()V -/
def bk_51 : Nat → List Ins := fun t => match t with
  | 0 => [(.aload_n 0, 0, 0, 0, 0), (.invokespecial 3, 0, 4, 0, 0), (.aload_n 0, 0, 0, 0, 0), (.iconst 4, 0, 0, 0, 0), (.newarray .long, 33, 0, 0, 0), (.putfield 9, 6, 5, 2, 0), (.aload_n 0, 0, 0, 0, 0), (.bipush 6, 0, 0, 0, 0), (.newarray .long, 34, 0, 0, 0), (.putfield 15, 6, 6, 2, 0), (.aload_n 0, 0, 0, 0, 0), (.bipush 6, 0, 0, 0, 0), (.newarray .int, 35, 0, 0, 0), (.putfield 18, 6, 7, 2, 0), (.aload_n 0, 0, 0, 0, 0), (.iconst 4, 0, 0, 0, 0), (.newarray .int, 36, 0, 0, 0), (.putfield 22, 6, 8, 2, 0), (.aload_n 0, 0, 0, 0, 0), (.iconst 4, 0, 0, 0, 0), (.newarray .int, 37, 0, 0, 0), (.putfield 25, 6, 9, 2, 0), (.aload_n 0, 0, 0, 0, 0), (.iconst 4, 0, 0, 0, 0), (.newarray .boolean, 38, 0, 0, 0), (.putfield 28, 6, 10, 2, 0), (.aload_n 0, 0, 0, 0, 0), (.iconst 4, 0, 0, 0, 0), (.newarray .boolean, 39, 0, 0, 0), (.putfield 32, 6, 11, 2, 0), (.aload_n 0, 0, 0, 0, 0), (.iconst 4, 0, 0, 0, 0), (.iconst 5, 0, 0, 0, 0), (.multianewarray 35 2, 40, 41, 0, 0), (.putfield 37, 6, 12, 2, 0), (.return_, 0, 0, 0, 0)]
  | _ => []
set_option maxRecDepth 20000 in
theorem ck_51 : ∀ t, chkL 51 t (bk_51 t) = true := by
  intro t
  unfold bk_51
  split <;> first | decide +kernel | rfl
def cu_51 : Nat → Option (List Nat) := fun _ => none
/-- SluiceLogs$Water.solve(LSluiceLogs$Plan;LSluiceLogs$State;)V -/
def bk_52 : Nat → List Ins := fun t => match t with
  | 0 => [(.aload_n 0, 0, 0, 0, 0), (.invokevirtual 40, 53, 106, 0, 2), (.aload_n 1, 1, 0, 0, 0), (.getfield 43, 1, 0, 0, 0), (.ifCond .ne 13, 21, 0, 0, 0), (.aload_n 0, 0, 0, 0, 0), (.aload_n 2, 2, 0, 0, 0), (.getfield 49, 3, 4, 0, 0), (.i2l, 0, 0, 0, 0), (.putfield 54, 6, 2, 1, 0), (.return_, 0, 0, 0, 0)]
  | 21 => [(.aload_n 0, 0, 0, 0, 0), (.aload_n 1, 1, 0, 0, 0), (.aload_n 2, 2, 0, 0, 0), (.invokevirtual 58, 54, 106, 2, 5), (.aload_n 0, 0, 0, 0, 0), (.aload_n 1, 1, 0, 0, 0), (.aload_n 2, 2, 0, 0, 0), (.invokevirtual 62, 55, 106, 2, 6), (.aload_n 0, 0, 0, 0, 0), (.aload_n 1, 1, 0, 0, 0), (.aload_n 2, 2, 0, 0, 0), (.invokevirtual 65, 57, 106, 2, 6), (.aload_n 0, 0, 0, 0, 0), (.aload_n 0, 0, 0, 0, 0), (.aload_n 1, 1, 0, 0, 0), (.getfield 43, 1, 0, 0, 0), (.invokevirtual 68, 58, 106, 1, 3), (.putfield 72, 6, 0, 3, 0), (.aload_n 0, 0, 0, 0, 0), (.getfield 72, 6, 0, 0, 0), (.ifCond .eq 9, 64, 0, 0, 0), (.aload_n 0, 0, 0, 0, 0), (.lconst 0, 0, 0, 0, 0), (.putfield 76, 6, 1, 1, 0), (.return_, 0, 0, 0, 0)]
  | 64 => [(.aload_n 0, 0, 0, 0, 0), (.aload_n 1, 1, 0, 0, 0), (.aload_n 2, 2, 0, 0, 0), (.invokevirtual 79, 59, 106, 2, 8), (.aload_n 0, 0, 0, 0, 0), (.aload_n 1, 1, 0, 0, 0), (.getfield 43, 1, 0, 0, 0), (.invokevirtual 82, 60, 106, 1, 8), (.aload_n 0, 0, 0, 0, 0), (.aload_n 1, 1, 0, 0, 0), (.aload_n 2, 2, 0, 0, 0), (.invokevirtual 86, 62, 106, 2, 5), (.return_, 0, 0, 0, 0)]
  | _ => []
set_option maxRecDepth 20000 in
theorem ck_52 : ∀ t, chkL 52 t (bk_52 t) = true := by
  intro t
  unfold bk_52
  split <;> first | decide +kernel | rfl
def cu_52 : Nat → Option (List Nat) := fun _ => none
/-- SluiceLogs$Water.clear()V -/
def bk_53 : Nat → List Ins := fun t => match t with
  | 0 => [(.aload_n 0, 0, 0, 0, 0), (.iconst 0, 0, 0, 0, 0), (.putfield 72, 6, 0, 3, 0), (.aload_n 0, 0, 0, 0, 0), (.lconst 1, 0, 0, 0, 0), (.putfield 76, 6, 1, 1, 0), (.aload_n 0, 0, 0, 0, 0), (.lconst 0, 0, 0, 0, 0), (.putfield 54, 6, 2, 1, 0), (.aload_n 0, 0, 0, 0, 0), (.lconst 0, 0, 0, 0, 0), (.putfield 89, 6, 3, 1, 0), (.aload_n 0, 0, 0, 0, 0), (.lconst 0, 0, 0, 0, 0), (.putfield 92, 6, 4, 1, 0), (.aload_n 0, 0, 0, 0, 0), (.getfield 9, 6, 5, 2, 0), (.lconst 0, 0, 0, 0, 0), (.invokestatic 95, 297, 0, 2, 5), (.aload_n 0, 0, 0, 0, 0), (.getfield 15, 6, 6, 2, 0), (.lconst 0, 0, 0, 0, 0), (.invokestatic 95, 297, 0, 2, 5), (.aload_n 0, 0, 0, 0, 0), (.getfield 18, 6, 7, 2, 0), (.iconst 0, 0, 0, 0, 0), (.invokestatic 101, 298, 0, 2, 4), (.aload_n 0, 0, 0, 0, 0), (.getfield 22, 6, 8, 2, 0), (.iconst 0, 0, 0, 0, 0), (.invokestatic 101, 298, 0, 2, 4), (.aload_n 0, 0, 0, 0, 0), (.getfield 25, 6, 9, 2, 0), (.iconst 0, 0, 0, 0, 0), (.invokestatic 101, 298, 0, 2, 4), (.iconst 0, 0, 0, 0, 0), (.istore_n 1, 1, 0, 0, 0)]
  | 67 => [(.iload_n 1, 1, 0, 0, 0), (.iconst 4, 0, 0, 0, 0), (.if_icmp .ge 16, 85, 0, 0, 0), (.aload_n 0, 0, 0, 0, 0), (.getfield 28, 6, 10, 2, 0), (.iload_n 1, 1, 0, 0, 0), (.iconst 0, 0, 0, 0, 0), (.bastore, 0, 0, 0, 0), (.iinc 1 1, 1, 0, 0, 0), (.goto (-15), 67, 0, 0, 0)]
  | 85 => [(.return_, 0, 0, 0, 0)]
  | _ => []
set_option maxRecDepth 20000 in
theorem ck_53 : ∀ t, chkL 53 t (bk_53 t) = true := by
  intro t
  unfold bk_53
  split <;> first | decide +kernel | rfl
def cu_53 : Nat → Option (List Nat) := fun t => match t with | 67 => some [0, 1] | _ => none
/-- SluiceLogs$Water.partLogs(LSluiceLogs$Plan;LSluiceLogs$State;)V -/
def bk_54 : Nat → List Ins := fun t => match t with
  | 0 => [(.iconst 0, 0, 0, 0, 0), (.istore_n 3, 3, 0, 0, 0)]
  | 2 => [(.iload_n 3, 3, 0, 0, 0), (.aload_n 1, 1, 0, 0, 0), (.getfield 104, 1, 2, 0, 0), (.if_icmp .ge 60, 67, 0, 0, 0), (.aload_n 1, 1, 0, 0, 0), (.getfield 107, 1, 7, 2, 0), (.iload_n 3, 3, 0, 0, 0), (.iaload, 0, 0, 0, 0), (.istore 4, 4, 0, 0, 0), (.aload_n 0, 0, 0, 0, 0), (.getfield 22, 6, 8, 2, 0), (.iload 4, 4, 0, 0, 0), (.dup2, 0, 0, 0, 0), (.iaload, 0, 0, 0, 0), (.aload_n 2, 2, 0, 0, 0), (.getfield 110, 3, 0, 2, 0), (.iload_n 3, 3, 0, 0, 0), (.iaload, 0, 0, 0, 0), (.iadd, 0, 0, 0, 0), (.iastore, 0, 0, 0, 0), (.aload_n 1, 1, 0, 0, 0), (.getfield 113, 1, 8, 2, 0), (.iload_n 3, 3, 0, 0, 0), (.iaload, 0, 0, 0, 0), (.bipush 20, 0, 0, 0, 0), (.if_icmp .ne 19, 61, 0, 0, 0), (.aload_n 0, 0, 0, 0, 0), (.getfield 25, 6, 9, 2, 0), (.iload 4, 4, 0, 0, 0), (.dup2, 0, 0, 0, 0), (.iaload, 0, 0, 0, 0), (.aload_n 2, 2, 0, 0, 0), (.getfield 110, 3, 0, 2, 0), (.iload_n 3, 3, 0, 0, 0), (.iaload, 0, 0, 0, 0), (.iadd, 0, 0, 0, 0), (.iastore, 0, 0, 0, 0)]
  | 61 => [(.iinc 3 1, 3, 0, 0, 0), (.goto (-62), 2, 0, 0, 0)]
  | 67 => [(.iconst 0, 0, 0, 0, 0), (.istore_n 3, 3, 0, 0, 0)]
  | 69 => [(.iload_n 3, 3, 0, 0, 0), (.aload_n 1, 1, 0, 0, 0), (.getfield 43, 1, 0, 0, 0), (.if_icmp .ge 32, 106, 0, 0, 0), (.aload_n 0, 0, 0, 0, 0), (.getfield 22, 6, 8, 2, 0), (.iload_n 3, 3, 0, 0, 0), (.iaload, 0, 0, 0, 0), (.ifCond .ne 17, 100, 0, 0, 0), (.aload_n 0, 0, 0, 0, 0), (.getfield 22, 6, 8, 2, 0), (.iload_n 3, 3, 0, 0, 0), (.iconst 1, 0, 0, 0, 0), (.iastore, 0, 0, 0, 0), (.aload_n 0, 0, 0, 0, 0), (.getfield 25, 6, 9, 2, 0), (.iload_n 3, 3, 0, 0, 0), (.iconst 1, 0, 0, 0, 0), (.iastore, 0, 0, 0, 0)]
  | 100 => [(.iinc 3 1, 3, 0, 0, 0), (.goto (-34), 69, 0, 0, 0)]
  | 106 => [(.return_, 0, 0, 0, 0)]
  | _ => []
set_option maxRecDepth 20000 in
theorem ck_54 : ∀ t, chkL 54 t (bk_54 t) = true := by
  intro t
  unfold bk_54
  split <;> first | decide +kernel | rfl
def cu_54 : Nat → Option (List Nat) := fun t => match t with | 2 => some [0, 1, 2, 3] | 69 => some [0, 1, 3] | _ => none
/-- SluiceLogs$Water.reachLogs(LSluiceLogs$Plan;LSluiceLogs$State;)V -/
def bk_55 : Nat → List Ins := fun t => match t with
  | 0 => [(.aload_n 0, 0, 0, 0, 0), (.getfield 28, 6, 10, 2, 0), (.iconst 0, 0, 0, 0, 0), (.iconst 1, 0, 0, 0, 0), (.bastore, 0, 0, 0, 0), (.iconst 0, 0, 0, 0, 0), (.istore_n 3, 3, 0, 0, 0)]
  | 9 => [(.iload_n 3, 3, 0, 0, 0), (.aload_n 1, 1, 0, 0, 0), (.getfield 43, 1, 0, 0, 0), (.if_icmp .ge 78, 92, 0, 0, 0), (.iconst 0, 0, 0, 0, 0), (.istore 4, 4, 0, 0, 0)]
  | 20 => [(.iload 4, 4, 0, 0, 0), (.aload_n 1, 1, 0, 0, 0), (.getfield 104, 1, 2, 0, 0), (.if_icmp .ge 60, 86, 0, 0, 0), (.aload_n 2, 2, 0, 0, 0), (.getfield 110, 3, 0, 2, 0), (.iload 4, 4, 0, 0, 0), (.iaload, 0, 0, 0, 0), (.ifCond .eq 44, 80, 0, 0, 0), (.aload_n 0, 0, 0, 0, 0), (.getfield 28, 6, 10, 2, 0), (.aload_n 1, 1, 0, 0, 0), (.getfield 107, 1, 7, 2, 0), (.iload 4, 4, 0, 0, 0), (.iaload, 0, 0, 0, 0), (.baload, 0, 0, 0, 0), (.ifCond .ne 6, 57, 0, 0, 0), (.goto 26, 80, 0, 0, 0)]
  | 57 => [(.aload_n 1, 1, 0, 0, 0), (.aload_n 2, 2, 0, 0, 0), (.iload 4, 4, 0, 0, 0), (.invokestatic 116, 56, 0, 3, 4), (.istore 5, 5, 0, 0, 0), (.iload 5, 5, 0, 0, 0), (.iconst (-1), 0, 0, 0, 0), (.if_icmp .eq 11, 80, 0, 0, 0), (.aload_n 0, 0, 0, 0, 0), (.getfield 28, 6, 10, 2, 0), (.iload 5, 5, 0, 0, 0), (.iconst 1, 0, 0, 0, 0), (.bastore, 0, 0, 0, 0)]
  | 80 => [(.iinc 4 1, 4, 0, 0, 0), (.goto (-63), 20, 0, 0, 0)]
  | 86 => [(.iinc 3 1, 3, 0, 0, 0), (.goto (-80), 9, 0, 0, 0)]
  | 92 => [(.return_, 0, 0, 0, 0)]
  | _ => []
set_option maxRecDepth 20000 in
theorem ck_55 : ∀ t, chkL 55 t (bk_55 t) = true := by
  intro t
  unfold bk_55
  split <;> first | decide +kernel | rfl
def cu_55 : Nat → Option (List Nat) := fun t => match t with | 9 => some [0, 1, 2, 3] | 20 => some [0, 1, 2, 3, 4] | _ => none
/-- SluiceLogs$Water.nextLog(LSluiceLogs$Plan;LSluiceLogs$State;I)I -/
def bk_56 : Nat → List Ins := fun t => match t with
  | 0 => [(.aload_n 0, 0, 0, 0, 0), (.getfield 113, 1, 8, 2, 0), (.iload_n 2, 2, 0, 0, 0), (.iaload, 0, 0, 0, 0), (.istore_n 3, 3, 0, 0, 0), (.iload_n 3, 3, 0, 0, 0), (.bipush 10, 0, 0, 0, 0), (.if_icmp .ge 5, 15, 0, 0, 0), (.iload_n 3, 3, 0, 0, 0), (.ireturn, 0, 0, 0, 0)]
  | 15 => [(.iload_n 3, 3, 0, 0, 0), (.bipush 20, 0, 0, 0, 0), (.if_icmp .eq 15, 33, 0, 0, 0), (.aload_n 1, 1, 0, 0, 0), (.getfield 120, 3, 2, 2, 0), (.iload_n 3, 3, 0, 0, 0), (.bipush 10, 0, 0, 0, 0), (.isub, 0, 0, 0, 0), (.iaload, 0, 0, 0, 0), (.ifCond .ne 5, 35, 0, 0, 0)]
  | 33 => [(.iconst (-1), 0, 0, 0, 0), (.ireturn, 0, 0, 0, 0)]
  | 35 => [(.aload_n 1, 1, 0, 0, 0), (.getfield 123, 3, 1, 2, 0), (.iload_n 3, 3, 0, 0, 0), (.bipush 10, 0, 0, 0, 0), (.isub, 0, 0, 0, 0), (.iaload, 0, 0, 0, 0), (.ireturn, 0, 0, 0, 0)]
  | _ => []
set_option maxRecDepth 20000 in
theorem ck_56 : ∀ t, chkL 56 t (bk_56 t) = true := by
  intro t
  unfold bk_56
  split <;> first | decide +kernel | rfl
def cu_56 : Nat → Option (List Nat) := fun _ => none
/-- SluiceLogs$Water.openLogs(LSluiceLogs$Plan;LSluiceLogs$State;)V -/
def bk_57 : Nat → List Ins := fun t => match t with
  | 0 => [(.iconst 0, 0, 0, 0, 0), (.istore_n 3, 3, 0, 0, 0)]
  | 2 => [(.iload_n 3, 3, 0, 0, 0), (.aload_n 1, 1, 0, 0, 0), (.getfield 43, 1, 0, 0, 0), (.if_icmp .ge 29, 36, 0, 0, 0), (.aload_n 0, 0, 0, 0, 0), (.getfield 32, 6, 11, 2, 0), (.iload_n 3, 3, 0, 0, 0), (.aload_n 0, 0, 0, 0, 0), (.getfield 25, 6, 9, 2, 0), (.iload_n 3, 3, 0, 0, 0), (.iaload, 0, 0, 0, 0), (.ifCond .le 7, 28, 0, 0, 0), (.iconst 1, 0, 0, 0, 0), (.goto 4, 29, 0, 0, 0)]
  | 28 => [(.iconst 0, 0, 0, 0, 0)]
  | 29 => [(.bastore, 0, 0, 0, 0), (.iinc 3 1, 3, 0, 0, 0), (.goto (-31), 2, 0, 0, 0)]
  | 36 => [(.iconst 0, 0, 0, 0, 0), (.istore_n 3, 3, 0, 0, 0)]
  | 38 => [(.iload_n 3, 3, 0, 0, 0), (.aload_n 1, 1, 0, 0, 0), (.getfield 43, 1, 0, 0, 0), (.if_icmp .ge 76, 119, 0, 0, 0), (.iconst 0, 0, 0, 0, 0), (.istore 4, 4, 0, 0, 0)]
  | 49 => [(.iload 4, 4, 0, 0, 0), (.aload_n 1, 1, 0, 0, 0), (.getfield 104, 1, 2, 0, 0), (.if_icmp .ge 58, 113, 0, 0, 0), (.aload_n 1, 1, 0, 0, 0), (.getfield 113, 1, 8, 2, 0), (.iload 4, 4, 0, 0, 0), (.iaload, 0, 0, 0, 0), (.istore 5, 5, 0, 0, 0), (.aload_n 2, 2, 0, 0, 0), (.getfield 110, 3, 0, 2, 0), (.iload 4, 4, 0, 0, 0), (.iaload, 0, 0, 0, 0), (.ifCond .le 33, 107, 0, 0, 0), (.iload 5, 5, 0, 0, 0), (.bipush 10, 0, 0, 0, 0), (.if_icmp .ge 13, 94, 0, 0, 0), (.aload_n 0, 0, 0, 0, 0), (.getfield 32, 6, 11, 2, 0), (.iload 5, 5, 0, 0, 0), (.baload, 0, 0, 0, 0), (.ifCond .eq 16, 107, 0, 0, 0)]
  | 94 => [(.aload_n 0, 0, 0, 0, 0), (.getfield 32, 6, 11, 2, 0), (.aload_n 1, 1, 0, 0, 0), (.getfield 107, 1, 7, 2, 0), (.iload 4, 4, 0, 0, 0), (.iaload, 0, 0, 0, 0), (.iconst 1, 0, 0, 0, 0), (.bastore, 0, 0, 0, 0)]
  | 107 => [(.iinc 4 1, 4, 0, 0, 0), (.goto (-61), 49, 0, 0, 0)]
  | 113 => [(.iinc 3 1, 3, 0, 0, 0), (.goto (-78), 38, 0, 0, 0)]
  | 119 => [(.return_, 0, 0, 0, 0)]
  | _ => []
set_option maxRecDepth 20000 in
theorem ck_57 : ∀ t, chkL 57 t (bk_57 t) = true := by
  intro t
  unfold bk_57
  split <;> first | decide +kernel | rfl
def cu_57 : Nat → Option (List Nat) := fun t => match t with | 2 => some [0, 1, 2, 3] | 38 => some [0, 1, 2, 3] | 49 => some [0, 1, 2, 3, 4] | _ => none
/-- SluiceLogs$Water.reachesClosedLog(I)Z -/
def bk_58 : Nat → List Ins := fun t => match t with
  | 0 => [(.iconst 0, 0, 0, 0, 0), (.istore_n 2, 2, 0, 0, 0)]
  | 2 => [(.iload_n 2, 2, 0, 0, 0), (.iload_n 1, 1, 0, 0, 0), (.if_icmp .ge 29, 33, 0, 0, 0), (.aload_n 0, 0, 0, 0, 0), (.getfield 28, 6, 10, 2, 0), (.iload_n 2, 2, 0, 0, 0), (.baload, 0, 0, 0, 0), (.ifCond .eq 14, 27, 0, 0, 0), (.aload_n 0, 0, 0, 0, 0), (.getfield 32, 6, 11, 2, 0), (.iload_n 2, 2, 0, 0, 0), (.baload, 0, 0, 0, 0), (.ifCond .ne 5, 27, 0, 0, 0), (.iconst 1, 0, 0, 0, 0), (.ireturn, 3, 0, 0, 0)]
  | 27 => [(.iinc 2 1, 2, 0, 0, 0), (.goto (-28), 2, 0, 0, 0)]
  | 33 => [(.iconst 0, 0, 0, 0, 0), (.ireturn, 3, 0, 0, 0)]
  | _ => []
set_option maxRecDepth 20000 in
theorem ck_58 : ∀ t, chkL 58 t (bk_58 t) = true := by
  intro t
  unfold bk_58
  split <;> first | decide +kernel | rfl
def cu_58 : Nat → Option (List Nat) := fun t => match t with | 2 => some [0, 1, 2] | _ => none
/-- SluiceLogs$Water.makeRows(LSluiceLogs$Plan;LSluiceLogs$State;)V -/
def bk_59 : Nat → List Ins := fun t => match t with
  | 0 => [(.iconst 0, 0, 0, 0, 0), (.istore_n 3, 3, 0, 0, 0)]
  | 2 => [(.iload_n 3, 3, 0, 0, 0), (.aload_n 1, 1, 0, 0, 0), (.getfield 43, 1, 0, 0, 0), (.if_icmp .ge 49, 56, 0, 0, 0), (.aload_n 0, 0, 0, 0, 0), (.getfield 37, 6, 12, 2, 0), (.iload_n 3, 3, 0, 0, 0), (.aaload, 0, 0, 0, 0), (.lconst 0, 0, 0, 0, 0), (.invokestatic 95, 297, 0, 2, 5), (.aload_n 0, 0, 0, 0, 0), (.getfield 37, 6, 12, 2, 0), (.iload_n 3, 3, 0, 0, 0), (.aaload, 0, 0, 0, 0), (.iload_n 3, 3, 0, 0, 0), (.aload_n 0, 0, 0, 0, 0), (.getfield 28, 6, 10, 2, 0), (.iload_n 3, 3, 0, 0, 0), (.baload, 0, 0, 0, 0), (.ifCond .eq 15, 48, 0, 0, 0), (.iconst 4, 0, 0, 0, 0), (.aload_n 0, 0, 0, 0, 0), (.getfield 22, 6, 8, 2, 0), (.iload_n 3, 3, 0, 0, 0), (.iaload, 0, 0, 0, 0), (.imul, 0, 0, 0, 0), (.i2l, 0, 0, 0, 0), (.goto 4, 49, 0, 0, 0)]
  | 48 => [(.lconst 1, 0, 0, 0, 0)]
  | 49 => [(.lastore, 0, 0, 0, 0), (.iinc 3 1, 3, 0, 0, 0), (.goto (-51), 2, 0, 0, 0)]
  | 56 => [(.aload_n 0, 0, 0, 0, 0), (.getfield 37, 6, 12, 2, 0), (.iconst 0, 0, 0, 0, 0), (.aaload, 0, 0, 0, 0), (.iconst 4, 0, 0, 0, 0), (.iconst 4, 0, 0, 0, 0), (.aload_n 2, 2, 0, 0, 0), (.getfield 49, 3, 4, 0, 0), (.imul, 0, 0, 0, 0), (.i2l, 0, 0, 0, 0), (.lastore, 0, 0, 0, 0), (.iconst 0, 0, 0, 0, 0), (.istore_n 3, 3, 0, 0, 0)]
  | 73 => [(.iload_n 3, 3, 0, 0, 0), (.aload_n 1, 1, 0, 0, 0), (.getfield 104, 1, 2, 0, 0), (.if_icmp .ge 107, 185, 0, 0, 0), (.aload_n 1, 1, 0, 0, 0), (.getfield 107, 1, 7, 2, 0), (.iload_n 3, 3, 0, 0, 0), (.iaload, 0, 0, 0, 0), (.istore 4, 4, 0, 0, 0), (.aload_n 1, 1, 0, 0, 0), (.aload_n 2, 2, 0, 0, 0), (.iload_n 3, 3, 0, 0, 0), (.invokestatic 116, 56, 0, 3, 4), (.istore 5, 5, 0, 0, 0), (.aload_n 0, 0, 0, 0, 0), (.getfield 28, 6, 10, 2, 0), (.iload 4, 4, 0, 0, 0), (.baload, 0, 0, 0, 0), (.ifCond .eq 75, 179, 0, 0, 0), (.aload_n 2, 2, 0, 0, 0), (.getfield 110, 3, 0, 2, 0), (.iload_n 3, 3, 0, 0, 0), (.iaload, 0, 0, 0, 0), (.ifCond .eq 66, 179, 0, 0, 0), (.iload 5, 5, 0, 0, 0), (.iconst (-1), 0, 0, 0, 0), (.if_icmp .ne 6, 125, 0, 0, 0), (.goto 57, 179, 0, 0, 0)]
  | 125 => [(.aload_n 1, 1, 0, 0, 0), (.getfield 113, 1, 8, 2, 0), (.iload_n 3, 3, 0, 0, 0), (.iaload, 0, 0, 0, 0), (.istore 6, 6, 0, 0, 0), (.iload 6, 6, 0, 0, 0), (.bipush 10, 0, 0, 0, 0), (.if_icmp .ge 7, 144, 0, 0, 0), (.iconst 4, 0, 0, 0, 0), (.goto 13, 154, 0, 0, 0)]
  | 144 => [(.aload_n 2, 2, 0, 0, 0), (.getfield 120, 3, 2, 2, 0), (.iload 6, 6, 0, 0, 0), (.bipush 10, 0, 0, 0, 0), (.isub, 0, 0, 0, 0), (.iaload, 0, 0, 0, 0)]
  | 154 => [(.istore 7, 7, 0, 0, 0), (.aload_n 0, 0, 0, 0, 0), (.getfield 37, 6, 12, 2, 0), (.iload 5, 5, 0, 0, 0), (.aaload, 0, 0, 0, 0), (.iload 4, 4, 0, 0, 0), (.dup2, 0, 0, 0, 0), (.laload, 0, 0, 0, 0), (.iload 7, 7, 0, 0, 0), (.aload_n 2, 2, 0, 0, 0), (.getfield 110, 3, 0, 2, 0), (.iload_n 3, 3, 0, 0, 0), (.iaload, 0, 0, 0, 0), (.imul, 0, 0, 0, 0), (.i2l, 0, 0, 0, 0), (.lsub, 0, 0, 0, 0), (.lastore, 0, 0, 0, 0)]
  | 179 => [(.iinc 3 1, 3, 0, 0, 0), (.goto (-109), 73, 0, 0, 0)]
  | 185 => [(.return_, 0, 0, 0, 0)]
  | _ => []
set_option maxRecDepth 20000 in
theorem ck_59 : ∀ t, chkL 59 t (bk_59 t) = true := by
  intro t
  unfold bk_59
  split <;> first | decide +kernel | rfl
def cu_59 : Nat → Option (List Nat) := fun t => match t with | 2 => some [0, 1, 2, 3] | 73 => some [0, 1, 2, 3] | _ => none
/-- SluiceLogs$Water.solveRows(I)V -/
def bk_60 : Nat → List Ins := fun t => match t with
  | 0 => [(.lconst 1, 0, 0, 0, 0), (.lstore_n 2, 2, 0, 0, 0), (.iconst 0, 0, 0, 0, 0), (.istore 4, 4, 0, 0, 0)]
  | 5 => [(.iload 4, 4, 0, 0, 0), (.iload_n 1, 1, 0, 0, 0), (.if_icmp .ge 63, 71, 0, 0, 0), (.aload_n 0, 0, 0, 0, 0), (.getfield 37, 6, 12, 2, 0), (.iload 4, 4, 0, 0, 0), (.aaload, 0, 0, 0, 0), (.iload 4, 4, 0, 0, 0), (.laload, 0, 0, 0, 0), (.lstore 5, 5, 0, 0, 0), (.lload 5, 5, 0, 0, 0), (.lconst 0, 0, 0, 0, 0), (.lcmp, 0, 0, 0, 0), (.ifCond .ne 4, 31, 0, 0, 0), (.return_, 0, 0, 0, 0)]
  | 31 => [(.iconst 0, 0, 0, 0, 0), (.istore 7, 7, 0, 0, 0)]
  | 34 => [(.iload 7, 7, 0, 0, 0), (.iload_n 1, 1, 0, 0, 0), (.if_icmp .ge 25, 62, 0, 0, 0), (.iload 7, 7, 0, 0, 0), (.iload 4, 4, 0, 0, 0), (.if_icmp .eq 12, 56, 0, 0, 0), (.aload_n 0, 0, 0, 0, 0), (.iload 7, 7, 0, 0, 0), (.iload 4, 4, 0, 0, 0), (.lload_n 2, 2, 0, 0, 0), (.invokevirtual 126, 61, 106, 3, 10)]
  | 56 => [(.iinc 7 1, 7, 0, 0, 0), (.goto (-25), 34, 0, 0, 0)]
  | 62 => [(.lload 5, 5, 0, 0, 0), (.lstore_n 2, 2, 0, 0, 0), (.iinc 4 1, 4, 0, 0, 0), (.goto (-63), 5, 0, 0, 0)]
  | 71 => [(.aload_n 0, 0, 0, 0, 0), (.lload_n 2, 2, 0, 0, 0), (.putfield 76, 6, 1, 1, 0), (.return_, 0, 0, 0, 0)]
  | _ => []
set_option maxRecDepth 20000 in
theorem ck_60 : ∀ t, chkL 60 t (bk_60 t) = true := by
  intro t
  unfold bk_60
  split <;> first | decide +kernel | rfl
def cu_60 : Nat → Option (List Nat) := fun t => match t with | 5 => some [0, 1, 2, 4] | 34 => some [0, 1, 2, 4, 5, 7] | _ => none
/-- SluiceLogs$Water.reduceRow(IIJ)V -/
def bk_61 : Nat → List Ins := fun t => match t with
  | 0 => [(.lload_n 3, 3, 0, 0, 0), (.lconst 0, 0, 0, 0, 0), (.lcmp, 0, 0, 0, 0), (.ifCond .ne 4, 7, 0, 0, 0), (.return_, 0, 0, 0, 0)]
  | 7 => [(.aload_n 0, 0, 0, 0, 0), (.getfield 37, 6, 12, 2, 0), (.iload_n 2, 2, 0, 0, 0), (.aaload, 0, 0, 0, 0), (.iload_n 2, 2, 0, 0, 0), (.laload, 0, 0, 0, 0), (.lstore 5, 5, 0, 0, 0), (.aload_n 0, 0, 0, 0, 0), (.getfield 37, 6, 12, 2, 0), (.iload_n 1, 1, 0, 0, 0), (.aaload, 0, 0, 0, 0), (.iload_n 2, 2, 0, 0, 0), (.laload, 0, 0, 0, 0), (.lstore 7, 7, 0, 0, 0), (.iconst 0, 0, 0, 0, 0), (.istore 9, 9, 0, 0, 0)]
  | 30 => [(.iload 9, 9, 0, 0, 0), (.iconst 4, 0, 0, 0, 0), (.if_icmp .gt 45, 78, 0, 0, 0), (.aload_n 0, 0, 0, 0, 0), (.getfield 37, 6, 12, 2, 0), (.iload_n 1, 1, 0, 0, 0), (.aaload, 0, 0, 0, 0), (.iload 9, 9, 0, 0, 0), (.lload 5, 5, 0, 0, 0), (.aload_n 0, 0, 0, 0, 0), (.getfield 37, 6, 12, 2, 0), (.iload_n 1, 1, 0, 0, 0), (.aaload, 0, 0, 0, 0), (.iload 9, 9, 0, 0, 0), (.laload, 0, 0, 0, 0), (.lmul, 0, 0, 0, 0), (.lload 7, 7, 0, 0, 0), (.aload_n 0, 0, 0, 0, 0), (.getfield 37, 6, 12, 2, 0), (.iload_n 2, 2, 0, 0, 0), (.aaload, 0, 0, 0, 0), (.iload 9, 9, 0, 0, 0), (.laload, 0, 0, 0, 0), (.lmul, 0, 0, 0, 0), (.lsub, 0, 0, 0, 0), (.lload_n 3, 3, 0, 0, 0), (.ldiv, 0, 0, 0, 0), (.lastore, 0, 0, 0, 0), (.iinc 9 1, 9, 0, 0, 0), (.goto (-45), 30, 0, 0, 0)]
  | 78 => [(.return_, 0, 0, 0, 0)]
  | _ => []
set_option maxRecDepth 20000 in
theorem ck_61 : ∀ t, chkL 61 t (bk_61 t) = true := by
  intro t
  unfold bk_61
  split <;> first | decide +kernel | rfl
def cu_61 : Nat → Option (List Nat) := fun t => match t with | 30 => some [0, 1, 2, 3, 5, 7, 9] | _ => none
/-- SluiceLogs$Water.shareOut(LSluiceLogs$Plan;LSluiceLogs$State;)V -/
def bk_62 : Nat → List Ins := fun t => match t with
  | 0 => [(.iconst 0, 0, 0, 0, 0), (.istore_n 3, 3, 0, 0, 0)]
  | 2 => [(.iload_n 3, 3, 0, 0, 0), (.aload_n 1, 1, 0, 0, 0), (.getfield 43, 1, 0, 0, 0), (.if_icmp .ge 56, 63, 0, 0, 0), (.aload_n 0, 0, 0, 0, 0), (.getfield 9, 6, 5, 2, 0), (.iload_n 3, 3, 0, 0, 0), (.aload_n 0, 0, 0, 0, 0), (.getfield 22, 6, 8, 2, 0), (.iload_n 3, 3, 0, 0, 0), (.iaload, 0, 0, 0, 0), (.i2l, 0, 0, 0, 0), (.aload_n 0, 0, 0, 0, 0), (.getfield 37, 6, 12, 2, 0), (.iload_n 3, 3, 0, 0, 0), (.aaload, 0, 0, 0, 0), (.iconst 4, 0, 0, 0, 0), (.laload, 0, 0, 0, 0), (.lmul, 0, 0, 0, 0), (.lastore, 0, 0, 0, 0), (.aload_n 0, 0, 0, 0, 0), (.dup, 0, 0, 0, 0), (.getfield 54, 6, 2, 1, 0), (.aload_n 0, 0, 0, 0, 0), (.getfield 25, 6, 9, 2, 0), (.iload_n 3, 3, 0, 0, 0), (.iaload, 0, 0, 0, 0), (.i2l, 0, 0, 0, 0), (.aload_n 0, 0, 0, 0, 0), (.getfield 37, 6, 12, 2, 0), (.iload_n 3, 3, 0, 0, 0), (.aaload, 0, 0, 0, 0), (.iconst 4, 0, 0, 0, 0), (.laload, 0, 0, 0, 0), (.lmul, 0, 0, 0, 0), (.ladd, 0, 0, 0, 0), (.putfield 54, 6, 2, 1, 0), (.iinc 3 1, 3, 0, 0, 0), (.goto (-58), 2, 0, 0, 0)]
  | 63 => [(.iconst 0, 0, 0, 0, 0), (.istore_n 3, 3, 0, 0, 0)]
  | 65 => [(.iload_n 3, 3, 0, 0, 0), (.aload_n 1, 1, 0, 0, 0), (.getfield 104, 1, 2, 0, 0), (.if_icmp .ge 65, 135, 0, 0, 0), (.aload_n 1, 1, 0, 0, 0), (.getfield 113, 1, 8, 2, 0), (.iload_n 3, 3, 0, 0, 0), (.iaload, 0, 0, 0, 0), (.bipush 10, 0, 0, 0, 0), (.isub, 0, 0, 0, 0), (.istore 4, 4, 0, 0, 0), (.iload 4, 4, 0, 0, 0), (.ifCond .lt 43, 129, 0, 0, 0), (.iload 4, 4, 0, 0, 0), (.aload_n 1, 1, 0, 0, 0), (.getfield 130, 1, 1, 0, 0), (.if_icmp .ge 34, 129, 0, 0, 0), (.aload_n 0, 0, 0, 0, 0), (.getfield 15, 6, 6, 2, 0), (.iload 4, 4, 0, 0, 0), (.dup2, 0, 0, 0, 0), (.laload, 0, 0, 0, 0), (.aload_n 2, 2, 0, 0, 0), (.getfield 110, 3, 0, 2, 0), (.iload_n 3, 3, 0, 0, 0), (.iaload, 0, 0, 0, 0), (.i2l, 0, 0, 0, 0), (.aload_n 0, 0, 0, 0, 0), (.getfield 37, 6, 12, 2, 0), (.aload_n 1, 1, 0, 0, 0), (.getfield 107, 1, 7, 2, 0), (.iload_n 3, 3, 0, 0, 0), (.iaload, 0, 0, 0, 0), (.aaload, 0, 0, 0, 0), (.iconst 4, 0, 0, 0, 0), (.laload, 0, 0, 0, 0), (.lmul, 0, 0, 0, 0), (.ladd, 0, 0, 0, 0), (.lastore, 0, 0, 0, 0)]
  | 129 => [(.iinc 3 1, 3, 0, 0, 0), (.goto (-67), 65, 0, 0, 0)]
  | 135 => [(.iconst 0, 0, 0, 0, 0), (.istore_n 3, 3, 0, 0, 0)]
  | 137 => [(.iload_n 3, 3, 0, 0, 0), (.aload_n 1, 1, 0, 0, 0), (.getfield 130, 1, 1, 0, 0), (.if_icmp .ge 76, 218, 0, 0, 0), (.aload_n 0, 0, 0, 0, 0), (.getfield 18, 6, 7, 2, 0), (.iload_n 3, 3, 0, 0, 0), (.aload_n 0, 0, 0, 0, 0), (.getfield 15, 6, 6, 2, 0), (.iload_n 3, 3, 0, 0, 0), (.laload, 0, 0, 0, 0), (.aload_n 0, 0, 0, 0, 0), (.getfield 76, 6, 1, 1, 0), (.invokestatic 133, 63, 0, 2, 4), (.iastore, 0, 0, 0, 0), (.aload_n 0, 0, 0, 0, 0), (.dup, 0, 0, 0, 0), (.getfield 92, 6, 4, 1, 0), (.aload_n 2, 2, 0, 0, 0), (.getfield 120, 3, 2, 2, 0), (.iload_n 3, 3, 0, 0, 0), (.iaload, 0, 0, 0, 0), (.i2l, 0, 0, 0, 0), (.aload_n 0, 0, 0, 0, 0), (.getfield 15, 6, 6, 2, 0), (.iload_n 3, 3, 0, 0, 0), (.laload, 0, 0, 0, 0), (.lmul, 0, 0, 0, 0), (.ladd, 0, 0, 0, 0), (.putfield 92, 6, 4, 1, 0), (.aload_n 0, 0, 0, 0, 0), (.dup, 0, 0, 0, 0), (.getfield 89, 6, 3, 1, 0), (.iconst 4, 0, 0, 0, 0), (.aload_n 2, 2, 0, 0, 0), (.getfield 120, 3, 2, 2, 0), (.iload_n 3, 3, 0, 0, 0), (.iaload, 0, 0, 0, 0), (.isub, 0, 0, 0, 0), (.i2l, 0, 0, 0, 0), (.aload_n 0, 0, 0, 0, 0), (.getfield 15, 6, 6, 2, 0), (.iload_n 3, 3, 0, 0, 0), (.laload, 0, 0, 0, 0), (.lmul, 0, 0, 0, 0), (.ladd, 0, 0, 0, 0), (.putfield 89, 6, 3, 1, 0), (.iinc 3 1, 3, 0, 0, 0), (.goto (-78), 137, 0, 0, 0)]
  | 218 => [(.return_, 0, 0, 0, 0)]
  | _ => []
set_option maxRecDepth 20000 in
theorem ck_62 : ∀ t, chkL 62 t (bk_62 t) = true := by
  intro t
  unfold bk_62
  split <;> first | decide +kernel | rfl
def cu_62 : Nat → Option (List Nat) := fun t => match t with | 2 => some [0, 1, 2, 3] | 65 => some [0, 1, 2, 3] | 137 => some [0, 1, 2, 3] | _ => none
/-- SluiceLogs$Water.hundredfold(JJ)I -/
def bk_63 : Nat → List Ins := fun t => match t with
  | 0 => [(.lload_n 2, 2, 0, 0, 0), (.lconst 0, 0, 0, 0, 0), (.lcmp, 0, 0, 0, 0), (.ifCond .ne 7, 10, 0, 0, 0), (.iconst 0, 0, 0, 0, 0), (.goto 11, 18, 0, 0, 0)]
  | 10 => [(.ldc2_w 137, 100, 0, 0, 0), (.lload_n 0, 0, 0, 0, 0), (.lmul, 0, 0, 0, 0), (.lload_n 2, 2, 0, 0, 0), (.ldiv, 0, 0, 0, 0), (.l2i, 0, 0, 0, 0)]
  | 18 => [(.ireturn, 0, 0, 0, 0)]
  | _ => []
set_option maxRecDepth 20000 in
theorem ck_63 : ∀ t, chkL 63 t (bk_63 t) = true := by
  intro t
  unfold bk_63
  split <;> first | decide +kernel | rfl
def cu_63 : Nat → Option (List Nat) := fun _ => none
/-- SluiceLogs$World.<init>(LSluiceLogs$Plan;)V -/
def bk_64 : Nat → List Ins := fun t => match t with
  | 0 => [(.aload_n 0, 0, 0, 0, 0), (.invokespecial 3, 0, 4, 0, 0), (.aload_n 0, 0, 0, 0, 0), (.new 9, 26, 0, 0, 0), (.dup, 0, 0, 0, 0), (.invokespecial 11, 36, 3, 0, 1), (.putfield 12, 7, 1, 2, 0), (.aload_n 0, 0, 0, 0, 0), (.new 18, 32, 0, 0, 0), (.dup, 0, 0, 0, 0), (.invokespecial 20, 51, 3, 0, 1), (.putfield 21, 7, 2, 2, 0), (.aload_n 0, 0, 0, 0, 0), (.bipush 9, 0, 0, 0, 0), (.newarray .int, 42, 0, 0, 0), (.putfield 27, 7, 3, 2, 0), (.aload_n 0, 0, 0, 0, 0), (.sipush 408, 0, 0, 0, 0), (.newarray .int, 43, 0, 0, 0), (.putfield 31, 7, 4, 2, 0), (.aload_n 0, 0, 0, 0, 0), (.aload_n 1, 1, 0, 0, 0), (.putfield 34, 7, 0, 2, 0), (.return_, 0, 0, 0, 0)]
  | _ => []
set_option maxRecDepth 20000 in
theorem ck_64 : ∀ t, chkL 64 t (bk_64 t) = true := by
  intro t
  unfold bk_64
  split <;> first | decide +kernel | rfl
def cu_64 : Nat → Option (List Nat) := fun _ => none
/-- SluiceLogs$World.settle()V -/
def bk_65 : Nat → List Ins := fun t => match t with
  | 0 => [(.aload_n 0, 0, 0, 0, 0), (.getfield 21, 7, 2, 2, 0), (.aload_n 0, 0, 0, 0, 0), (.getfield 34, 7, 0, 2, 0), (.aload_n 0, 0, 0, 0, 0), (.getfield 12, 7, 1, 2, 0), (.invokevirtual 38, 52, 106, 2, 3), (.return_, 0, 0, 0, 0)]
  | _ => []
set_option maxRecDepth 20000 in
theorem ck_65 : ∀ t, chkL 65 t (bk_65 t) = true := by
  intro t
  unfold bk_65
  split <;> first | decide +kernel | rfl
def cu_65 : Nat → Option (List Nat) := fun _ => none
/-- SluiceLogs$World.widthsOf(I)I -/
def bk_66 : Nat → List Ins := fun t => match t with
  | 0 => [(.iconst 0, 0, 0, 0, 0), (.istore_n 2, 2, 0, 0, 0), (.iconst 0, 0, 0, 0, 0), (.istore_n 3, 3, 0, 0, 0)]
  | 4 => [(.iload_n 3, 3, 0, 0, 0), (.aload_n 0, 0, 0, 0, 0), (.getfield 34, 7, 0, 2, 0), (.getfield 42, 1, 2, 0, 0), (.if_icmp .ge 34, 46, 0, 0, 0), (.aload_n 0, 0, 0, 0, 0), (.getfield 34, 7, 0, 2, 0), (.getfield 46, 1, 7, 2, 0), (.iload_n 3, 3, 0, 0, 0), (.iaload, 0, 0, 0, 0), (.iload_n 1, 1, 0, 0, 0), (.if_icmp .ne 15, 40, 0, 0, 0), (.iload_n 2, 2, 0, 0, 0), (.aload_n 0, 0, 0, 0, 0), (.getfield 12, 7, 1, 2, 0), (.getfield 49, 3, 0, 2, 0), (.iload_n 3, 3, 0, 0, 0), (.iaload, 0, 0, 0, 0), (.iadd, 0, 0, 0, 0), (.istore_n 2, 2, 0, 0, 0)]
  | 40 => [(.iinc 3 1, 3, 0, 0, 0), (.goto (-39), 4, 0, 0, 0)]
  | 46 => [(.iload_n 2, 2, 0, 0, 0), (.ireturn, 0, 0, 0, 0)]
  | _ => []
set_option maxRecDepth 20000 in
theorem ck_66 : ∀ t, chkL 66 t (bk_66 t) = true := by
  intro t
  unfold bk_66
  split <;> first | decide +kernel | rfl
def cu_66 : Nat → Option (List Nat) := fun t => match t with | 4 => some [0, 1, 2, 3] | _ => none
/-- SluiceLogs$World.widthsTo(I)I -/
def bk_67 : Nat → List Ins := fun t => match t with
  | 0 => [(.iconst 0, 0, 0, 0, 0), (.istore_n 2, 2, 0, 0, 0), (.iconst 0, 0, 0, 0, 0), (.istore_n 3, 3, 0, 0, 0)]
  | 4 => [(.iload_n 3, 3, 0, 0, 0), (.aload_n 0, 0, 0, 0, 0), (.getfield 34, 7, 0, 2, 0), (.getfield 42, 1, 2, 0, 0), (.if_icmp .ge 37, 49, 0, 0, 0), (.aload_n 0, 0, 0, 0, 0), (.getfield 34, 7, 0, 2, 0), (.getfield 52, 1, 8, 2, 0), (.iload_n 3, 3, 0, 0, 0), (.iaload, 0, 0, 0, 0), (.bipush 10, 0, 0, 0, 0), (.iload_n 1, 1, 0, 0, 0), (.iadd, 0, 0, 0, 0), (.if_icmp .ne 15, 43, 0, 0, 0), (.iload_n 2, 2, 0, 0, 0), (.aload_n 0, 0, 0, 0, 0), (.getfield 12, 7, 1, 2, 0), (.getfield 49, 3, 0, 2, 0), (.iload_n 3, 3, 0, 0, 0), (.iaload, 0, 0, 0, 0), (.iadd, 0, 0, 0, 0), (.istore_n 2, 2, 0, 0, 0)]
  | 43 => [(.iinc 3 1, 3, 0, 0, 0), (.goto (-42), 4, 0, 0, 0)]
  | 49 => [(.iload_n 2, 2, 0, 0, 0), (.ireturn, 0, 0, 0, 0)]
  | _ => []
set_option maxRecDepth 20000 in
theorem ck_67 : ∀ t, chkL 67 t (bk_67 t) = true := by
  intro t
  unfold bk_67
  split <;> first | decide +kernel | rfl
def cu_67 : Nat → Option (List Nat) := fun t => match t with | 4 => some [0, 1, 2, 3] | _ => none
/-- SluiceLogs$World.drainTarget(I)I -/
def bk_68 : Nat → List Ins := fun t => match t with
  | 0 => [(.aload_n 0, 0, 0, 0, 0), (.getfield 12, 7, 1, 2, 0), (.getfield 55, 3, 2, 2, 0), (.iload_n 1, 1, 0, 0, 0), (.iaload, 0, 0, 0, 0), (.ifCond .le 17, 26, 0, 0, 0), (.iconst 1, 0, 0, 0, 0), (.aload_n 0, 0, 0, 0, 0), (.getfield 12, 7, 1, 2, 0), (.getfield 58, 3, 1, 2, 0), (.iload_n 1, 1, 0, 0, 0), (.iaload, 0, 0, 0, 0), (.ishl, 0, 0, 0, 0), (.goto 4, 27, 0, 0, 0)]
  | 26 => [(.iconst 0, 0, 0, 0, 0)]
  | 27 => [(.ireturn, 0, 0, 0, 0)]
  | _ => []
set_option maxRecDepth 20000 in
theorem ck_68 : ∀ t, chkL 68 t (bk_68 t) = true := by
  intro t
  unfold bk_68
  split <;> first | decide +kernel | rfl
def cu_68 : Nat → Option (List Nat) := fun _ => none
/-- SluiceLogs$World.canStep(I)Z -/
def bk_69 : Nat → List Ins := fun t => match t with
  | 0 => [(.iload_n 1, 1, 0, 0, 0), (.ifCond .lt 16, 17, 0, 0, 0), (.iload_n 1, 1, 0, 0, 0), (.iconst 2, 0, 0, 0, 0), (.aload_n 0, 0, 0, 0, 0), (.getfield 34, 7, 0, 2, 0), (.getfield 42, 1, 2, 0, 0), (.imul, 0, 0, 0, 0), (.if_icmp .lt 5, 19, 0, 0, 0)]
  | 17 => [(.iconst 0, 0, 0, 0, 0), (.ireturn, 3, 0, 0, 0)]
  | 19 => [(.aload_n 0, 0, 0, 0, 0), (.getfield 12, 7, 1, 2, 0), (.getfield 49, 3, 0, 2, 0), (.iload_n 1, 1, 0, 0, 0), (.iconst 2, 0, 0, 0, 0), (.idiv, 0, 0, 0, 0), (.iaload, 0, 0, 0, 0), (.istore_n 2, 2, 0, 0, 0), (.iload_n 1, 1, 0, 0, 0), (.iconst 2, 0, 0, 0, 0), (.irem, 0, 0, 0, 0), (.iconst 1, 0, 0, 0, 0), (.if_icmp .ne 16, 51, 0, 0, 0), (.iload_n 2, 2, 0, 0, 0), (.iconst 3, 0, 0, 0, 0), (.if_icmp .ge 7, 47, 0, 0, 0), (.iconst 1, 0, 0, 0, 0), (.goto 16, 60, 0, 0, 0)]
  | 47 => [(.iconst 0, 0, 0, 0, 0), (.goto 12, 60, 0, 0, 0)]
  | 51 => [(.iload_n 2, 2, 0, 0, 0), (.ifCond .le 7, 59, 0, 0, 0), (.iconst 1, 0, 0, 0, 0), (.goto 4, 60, 0, 0, 0)]
  | 59 => [(.iconst 0, 0, 0, 0, 0)]
  | 60 => [(.ireturn, 3, 0, 0, 0)]
  | _ => []
set_option maxRecDepth 20000 in
theorem ck_69 : ∀ t, chkL 69 t (bk_69 t) = true := by
  intro t
  unfold bk_69
  split <;> first | decide +kernel | rfl
def cu_69 : Nat → Option (List Nat) := fun _ => none
/-- SluiceLogs$World.doStep(I)V -/
def bk_70 : Nat → List Ins := fun t => match t with
  | 0 => [(.aload_n 0, 0, 0, 0, 0), (.getfield 12, 7, 1, 2, 0), (.getfield 49, 3, 0, 2, 0), (.iload_n 1, 1, 0, 0, 0), (.iconst 2, 0, 0, 0, 0), (.idiv, 0, 0, 0, 0), (.dup2, 0, 0, 0, 0), (.iaload, 0, 0, 0, 0), (.iload_n 1, 1, 0, 0, 0), (.iconst 2, 0, 0, 0, 0), (.irem, 0, 0, 0, 0), (.iconst 1, 0, 0, 0, 0), (.if_icmp .ne 7, 23, 0, 0, 0), (.iconst 1, 0, 0, 0, 0), (.goto 4, 24, 0, 0, 0)]
  | 23 => [(.iconst (-1), 0, 0, 0, 0)]
  | 24 => [(.iadd, 0, 0, 0, 0), (.iastore, 0, 0, 0, 0), (.return_, 0, 0, 0, 0)]
  | _ => []
set_option maxRecDepth 20000 in
theorem ck_70 : ∀ t, chkL 70 t (bk_70 t) = true := by
  intro t
  unfold bk_70
  split <;> first | decide +kernel | rfl
def cu_70 : Nat → Option (List Nat) := fun _ => none
/-- SluiceLogs$World.needsOf(I)I -/
def bk_71 : Nat → List Ins := fun t => match t with
  | 0 => [(.aload_n 0, 0, 0, 0, 0), (.iload_n 1, 1, 0, 0, 0), (.invokevirtual 61, 76, 107, 1, 2), (.sipush 9999, 0, 0, 0, 0), (.aload_n 0, 0, 0, 0, 0), (.iconst 0, 0, 0, 0, 0), (.invokevirtual 65, 79, 107, 1, 5), (.invokestatic 69, 75, 0, 2, 2), (.ireturn, 0, 0, 0, 0)]
  | _ => []
set_option maxRecDepth 20000 in
theorem ck_71 : ∀ t, chkL 71 t (bk_71 t) = true := by
  intro t
  unfold bk_71
  split <;> first | decide +kernel | rfl
def cu_71 : Nat → Option (List Nat) := fun _ => none
/-- SluiceLogs$World.worthOf(I)I -/
def bk_72 : Nat → List Ins := fun t => match t with
  | 0 => [(.aload_n 0, 0, 0, 0, 0), (.iload_n 1, 1, 0, 0, 0), (.invokevirtual 61, 76, 107, 1, 2), (.bipush 99, 0, 0, 0, 0), (.aload_n 0, 0, 0, 0, 0), (.iconst 1, 0, 0, 0, 0), (.invokevirtual 65, 79, 107, 1, 5), (.invokestatic 69, 75, 0, 2, 2), (.ireturn, 0, 0, 0, 0)]
  | _ => []
set_option maxRecDepth 20000 in
theorem ck_72 : ∀ t, chkL 72 t (bk_72 t) = true := by
  intro t
  unfold bk_72
  split <;> first | decide +kernel | rfl
def cu_72 : Nat → Option (List Nat) := fun _ => none
/-- SluiceLogs$World.costsOf(I)I -/
def bk_73 : Nat → List Ins := fun t => match t with
  | 0 => [(.aload_n 0, 0, 0, 0, 0), (.iload_n 1, 1, 0, 0, 0), (.invokevirtual 73, 77, 107, 1, 2), (.bipush 99, 0, 0, 0, 0), (.aload_n 0, 0, 0, 0, 0), (.iconst 2, 0, 0, 0, 0), (.invokevirtual 65, 79, 107, 1, 5), (.invokestatic 69, 75, 0, 2, 2), (.ireturn, 0, 0, 0, 0)]
  | _ => []
set_option maxRecDepth 20000 in
theorem ck_73 : ∀ t, chkL 73 t (bk_73 t) = true := by
  intro t
  unfold bk_73
  split <;> first | decide +kernel | rfl
def cu_73 : Nat → Option (List Nat) := fun _ => none
/-- SluiceLogs$World.siltsOf(I)I -/
def bk_74 : Nat → List Ins := fun t => match t with
  | 0 => [(.aload_n 0, 0, 0, 0, 0), (.iload_n 1, 1, 0, 0, 0), (.invokevirtual 73, 77, 107, 1, 2), (.bipush 100, 0, 0, 0, 0), (.aload_n 0, 0, 0, 0, 0), (.iconst 3, 0, 0, 0, 0), (.invokevirtual 65, 79, 107, 1, 5), (.invokestatic 69, 75, 0, 2, 2), (.ireturn, 0, 0, 0, 0)]
  | _ => []
set_option maxRecDepth 20000 in
theorem ck_74 : ∀ t, chkL 74 t (bk_74 t) = true := by
  intro t
  unfold bk_74
  split <;> first | decide +kernel | rfl
def cu_74 : Nat → Option (List Nat) := fun _ => none
/-- SluiceLogs$World.heldTo(II)I -/
def bk_75 : Nat → List Ins := fun t => match t with
  | 0 => [(.iconst 0, 0, 0, 0, 0), (.iload_n 0, 0, 0, 0, 0), (.iload_n 1, 1, 0, 0, 0), (.invokestatic 76, 286, 0, 2, 2), (.invokestatic 81, 285, 0, 2, 2), (.ireturn, 0, 0, 0, 0)]
  | _ => []
set_option maxRecDepth 20000 in
theorem ck_75 : ∀ t, chkL 75 t (bk_75 t) = true := by
  intro t
  unfold bk_75
  split <;> first | decide +kernel | rfl
def cu_75 : Nat → Option (List Nat) := fun _ => none
/-- SluiceLogs$World.lookAtField(I)V -/
def bk_76 : Nat → List Ins := fun t => match t with
  | 0 => [(.aload_n 0, 0, 0, 0, 0), (.getfield 27, 7, 3, 2, 0), (.iconst 0, 0, 0, 0, 0), (.aload_n 0, 0, 0, 0, 0), (.getfield 21, 7, 2, 2, 0), (.getfield 84, 6, 7, 2, 0), (.iload_n 1, 1, 0, 0, 0), (.iaload, 0, 0, 0, 0), (.iastore, 0, 0, 0, 0), (.aload_n 0, 0, 0, 0, 0), (.getfield 27, 7, 3, 2, 0), (.iconst 1, 0, 0, 0, 0), (.aload_n 0, 0, 0, 0, 0), (.getfield 34, 7, 0, 2, 0), (.getfield 87, 1, 6, 2, 0), (.iload_n 1, 1, 0, 0, 0), (.iaload, 0, 0, 0, 0), (.iastore, 0, 0, 0, 0), (.aload_n 0, 0, 0, 0, 0), (.getfield 27, 7, 3, 2, 0), (.iconst 2, 0, 0, 0, 0), (.aload_n 0, 0, 0, 0, 0), (.iload_n 1, 1, 0, 0, 0), (.invokevirtual 90, 67, 107, 1, 4), (.iastore, 0, 0, 0, 0), (.aload_n 0, 0, 0, 0, 0), (.getfield 27, 7, 3, 2, 0), (.iconst 3, 0, 0, 0, 0), (.aload_n 0, 0, 0, 0, 0), (.getfield 12, 7, 1, 2, 0), (.getfield 93, 3, 3, 2, 0), (.iload_n 1, 1, 0, 0, 0), (.iaload, 0, 0, 0, 0), (.iastore, 0, 0, 0, 0), (.aload_n 0, 0, 0, 0, 0), (.getfield 27, 7, 3, 2, 0), (.bipush 6, 0, 0, 0, 0), (.aload_n 0, 0, 0, 0, 0), (.getfield 12, 7, 1, 2, 0), (.getfield 55, 3, 2, 2, 0), (.iload_n 1, 1, 0, 0, 0), (.iaload, 0, 0, 0, 0), (.iastore, 0, 0, 0, 0), (.aload_n 0, 0, 0, 0, 0), (.iload_n 1, 1, 0, 0, 0), (.invokevirtual 96, 78, 107, 1, 2), (.return_, 0, 0, 0, 0)]
  | _ => []
set_option maxRecDepth 20000 in
theorem ck_76 : ∀ t, chkL 76 t (bk_76 t) = true := by
  intro t
  unfold bk_76
  split <;> first | decide +kernel | rfl
def cu_76 : Nat → Option (List Nat) := fun _ => none
/-- SluiceLogs$World.lookAtNotch(I)V -/
def bk_77 : Nat → List Ins := fun t => match t with
  | 0 => [(.aload_n 0, 0, 0, 0, 0), (.getfield 27, 7, 3, 2, 0), (.iconst 0, 0, 0, 0, 0), (.iconst 0, 0, 0, 0, 0), (.iastore, 0, 0, 0, 0), (.aload_n 0, 0, 0, 0, 0), (.getfield 27, 7, 3, 2, 0), (.iconst 1, 0, 0, 0, 0), (.iconst 0, 0, 0, 0, 0), (.iastore, 0, 0, 0, 0), (.aload_n 0, 0, 0, 0, 0), (.getfield 27, 7, 3, 2, 0), (.iconst 2, 0, 0, 0, 0), (.aload_n 0, 0, 0, 0, 0), (.getfield 12, 7, 1, 2, 0), (.getfield 49, 3, 0, 2, 0), (.iload_n 1, 1, 0, 0, 0), (.iaload, 0, 0, 0, 0), (.iastore, 0, 0, 0, 0), (.aload_n 0, 0, 0, 0, 0), (.getfield 27, 7, 3, 2, 0), (.iconst 3, 0, 0, 0, 0), (.iconst 0, 0, 0, 0, 0), (.iastore, 0, 0, 0, 0), (.aload_n 0, 0, 0, 0, 0), (.getfield 27, 7, 3, 2, 0), (.bipush 6, 0, 0, 0, 0), (.iconst 0, 0, 0, 0, 0), (.iastore, 0, 0, 0, 0), (.aload_n 0, 0, 0, 0, 0), (.iload_n 1, 1, 0, 0, 0), (.invokevirtual 96, 78, 107, 1, 2), (.return_, 0, 0, 0, 0)]
  | _ => []
set_option maxRecDepth 20000 in
theorem ck_77 : ∀ t, chkL 77 t (bk_77 t) = true := by
  intro t
  unfold bk_77
  split <;> first | decide +kernel | rfl
def cu_77 : Nat → Option (List Nat) := fun _ => none
/-- SluiceLogs$World.lookAround(I)V -/
def bk_78 : Nat → List Ins := fun t => match t with
  | 0 => [(.aload_n 0, 0, 0, 0, 0), (.getfield 27, 7, 3, 2, 0), (.iconst 4, 0, 0, 0, 0), (.aload_n 0, 0, 0, 0, 0), (.getfield 12, 7, 1, 2, 0), (.getfield 99, 3, 5, 0, 0), (.iastore, 0, 0, 0, 0), (.aload_n 0, 0, 0, 0, 0), (.getfield 27, 7, 3, 2, 0), (.iconst 5, 0, 0, 0, 0), (.iload_n 1, 1, 0, 0, 0), (.iastore, 0, 0, 0, 0), (.aload_n 0, 0, 0, 0, 0), (.getfield 27, 7, 3, 2, 0), (.bipush 7, 0, 0, 0, 0), (.aload_n 0, 0, 0, 0, 0), (.getfield 34, 7, 0, 2, 0), (.getfield 102, 1, 0, 0, 0), (.iastore, 0, 0, 0, 0), (.aload_n 0, 0, 0, 0, 0), (.getfield 27, 7, 3, 2, 0), (.bipush 8, 0, 0, 0, 0), (.aload_n 0, 0, 0, 0, 0), (.getfield 34, 7, 0, 2, 0), (.getfield 105, 1, 1, 0, 0), (.iastore, 0, 0, 0, 0), (.return_, 0, 0, 0, 0)]
  | _ => []
set_option maxRecDepth 20000 in
theorem ck_78 : ∀ t, chkL 78 t (bk_78 t) = true := by
  intro t
  unfold bk_78
  split <;> first | decide +kernel | rfl
def cu_78 : Nat → Option (List Nat) := fun _ => none
/-- SluiceLogs$World.valueOf(I)I -/
def bk_79 : Nat → List Ins := fun t => match t with
  | 0 => [(.iconst 0, 0, 0, 0, 0), (.istore_n 2, 2, 0, 0, 0), (.aload_n 0, 0, 0, 0, 0), (.getfield 34, 7, 0, 2, 0), (.getfield 108, 1, 9, 2, 0), (.iload_n 1, 1, 0, 0, 0), (.iaload, 0, 0, 0, 0), (.istore_n 3, 3, 0, 0, 0)]
  | 12 => [(.iload_n 3, 3, 0, 0, 0), (.aload_n 0, 0, 0, 0, 0), (.getfield 34, 7, 0, 2, 0), (.getfield 111, 1, 11, 0, 0), (.if_icmp .ge 203, 223, 0, 0, 0), (.aload_n 0, 0, 0, 0, 0), (.getfield 34, 7, 0, 2, 0), (.getfield 114, 1, 10, 2, 0), (.iload_n 3, 3, 0, 0, 0), (.iaload, 0, 0, 0, 0), (.istore 4, 4, 0, 0, 0), (.iload 4, 4, 0, 0, 0), (.sipush 20000, 0, 0, 0, 0), (.if_icmp .ge 39, 78, 0, 0, 0), (.aload_n 0, 0, 0, 0, 0), (.getfield 31, 7, 4, 2, 0), (.iload_n 2, 2, 0, 0, 0), (.iload 4, 4, 0, 0, 0), (.sipush 10000, 0, 0, 0, 0), (.if_icmp .ge 8, 60, 0, 0, 0), (.iload 4, 4, 0, 0, 0), (.goto 14, 71, 0, 0, 0)]
  | 60 => [(.aload_n 0, 0, 0, 0, 0), (.getfield 27, 7, 3, 2, 0), (.iload 4, 4, 0, 0, 0), (.sipush 10000, 0, 0, 0, 0), (.isub, 0, 0, 0, 0), (.iaload, 0, 0, 0, 0)]
  | 71 => [(.iastore, 0, 0, 0, 0), (.iinc 2 1, 2, 0, 0, 0), (.goto 142, 217, 0, 0, 0)]
  | 78 => [(.iload 4, 4, 0, 0, 0), (.sipush 20005, 0, 0, 0, 0), (.if_icmp .eq 11, 94, 0, 0, 0), (.iload 4, 4, 0, 0, 0), (.sipush 20006, 0, 0, 0, 0), (.if_icmp .ne 20, 111, 0, 0, 0)]
  | 94 => [(.iload_n 2, 2, 0, 0, 0), (.ifCond .le 14, 109, 0, 0, 0), (.aload_n 0, 0, 0, 0, 0), (.getfield 31, 7, 4, 2, 0), (.iload_n 2, 2, 0, 0, 0), (.iconst 1, 0, 0, 0, 0), (.isub, 0, 0, 0, 0), (.iaload, 0, 0, 0, 0), (.goto 4, 110, 0, 0, 0)]
  | 109 => [(.iconst 0, 0, 0, 0, 0)]
  | 110 => [(.ireturn, 0, 0, 0, 0)]
  | 111 => [(.iload_n 2, 2, 0, 0, 0), (.iconst 2, 0, 0, 0, 0), (.if_icmp .ge 5, 118, 0, 0, 0), (.iconst 0, 0, 0, 0, 0), (.ireturn, 0, 0, 0, 0)]
  | 118 => [(.iload 4, 4, 0, 0, 0), (.sipush 20004, 0, 0, 0, 0), (.if_icmp .ne 43, 166, 0, 0, 0), (.iinc 2 (-2), 2, 0, 0, 0), (.aload_n 0, 0, 0, 0, 0), (.getfield 31, 7, 4, 2, 0), (.iload_n 2, 2, 0, 0, 0), (.iaload, 0, 0, 0, 0), (.aload_n 0, 0, 0, 0, 0), (.getfield 31, 7, 4, 2, 0), (.iload_n 2, 2, 0, 0, 0), (.iconst 1, 0, 0, 0, 0), (.iadd, 0, 0, 0, 0), (.iaload, 0, 0, 0, 0), (.if_icmp .ge 7, 150, 0, 0, 0), (.iload_n 3, 3, 0, 0, 0), (.goto 15, 162, 0, 0, 0)]
  | 150 => [(.iload_n 3, 3, 0, 0, 0), (.aload_n 0, 0, 0, 0, 0), (.getfield 34, 7, 0, 2, 0), (.iload_n 3, 3, 0, 0, 0), (.invokevirtual 117, 7, 101, 1, 3), (.invokestatic 81, 285, 0, 2, 2)]
  | 162 => [(.istore_n 3, 3, 0, 0, 0), (.goto 54, 217, 0, 0, 0)]
  | 166 => [(.iload 4, 4, 0, 0, 0), (.sipush 20003, 0, 0, 0, 0), (.if_icmp .ne 16, 187, 0, 0, 0), (.aload_n 0, 0, 0, 0, 0), (.getfield 31, 7, 4, 2, 0), (.iload_n 2, 2, 0, 0, 0), (.iconst 1, 0, 0, 0, 0), (.isub, 0, 0, 0, 0), (.iaload, 0, 0, 0, 0), (.ifCond .ne 5, 187, 0, 0, 0), (.iconst 0, 0, 0, 0, 0), (.ireturn, 0, 0, 0, 0)]
  | 187 => [(.iinc 2 (-1), 2, 0, 0, 0), (.aload_n 0, 0, 0, 0, 0), (.getfield 31, 7, 4, 2, 0), (.iload_n 2, 2, 0, 0, 0), (.iconst 1, 0, 0, 0, 0), (.isub, 0, 0, 0, 0), (.aload_n 0, 0, 0, 0, 0), (.getfield 31, 7, 4, 2, 0), (.iload_n 2, 2, 0, 0, 0), (.iconst 1, 0, 0, 0, 0), (.isub, 0, 0, 0, 0), (.iaload, 0, 0, 0, 0), (.iload 4, 4, 0, 0, 0), (.aload_n 0, 0, 0, 0, 0), (.getfield 31, 7, 4, 2, 0), (.iload_n 2, 2, 0, 0, 0), (.iaload, 0, 0, 0, 0), (.invokestatic 120, 80, 0, 3, 3), (.iastore, 0, 0, 0, 0)]
  | 217 => [(.iinc 3 1, 3, 0, 0, 0), (.goto (-208), 12, 0, 0, 0)]
  | 223 => [(.iconst 0, 0, 0, 0, 0), (.ireturn, 0, 0, 0, 0)]
  | _ => []
set_option maxRecDepth 20000 in
theorem ck_79 : ∀ t, chkL 79 t (bk_79 t) = true := by
  intro t
  unfold bk_79
  split <;> first | decide +kernel | rfl
def cu_79 : Nat → Option (List Nat) := fun t => match t with | 12 => some [0, 2, 3] | _ => none
/-- SluiceLogs$World.joined(III)I -/
def bk_80 : Nat → List Ins := fun t => match t with
  | 0 => [(.iload_n 1, 1, 0, 0, 0), (.tableswitch 39 20000 20002 #[27, 31, 35], 0, 0, 0, 0)]
  | 28 => [(.iload_n 0, 0, 0, 0, 0), (.iload_n 2, 2, 0, 0, 0), (.iadd, 0, 0, 0, 0), (.ireturn, 0, 0, 0, 0)]
  | 32 => [(.iload_n 0, 0, 0, 0, 0), (.iload_n 2, 2, 0, 0, 0), (.isub, 0, 0, 0, 0), (.ireturn, 0, 0, 0, 0)]
  | 36 => [(.iload_n 0, 0, 0, 0, 0), (.iload_n 2, 2, 0, 0, 0), (.imul, 0, 0, 0, 0), (.ireturn, 0, 0, 0, 0)]
  | 40 => [(.iload_n 2, 2, 0, 0, 0), (.ifCond .ne 7, 48, 0, 0, 0), (.iconst 0, 0, 0, 0, 0), (.goto 6, 51, 0, 0, 0)]
  | 48 => [(.iload_n 0, 0, 0, 0, 0), (.iload_n 2, 2, 0, 0, 0), (.idiv, 0, 0, 0, 0)]
  | 51 => [(.ireturn, 0, 0, 0, 0)]
  | _ => []
set_option maxRecDepth 20000 in
theorem ck_80 : ∀ t, chkL 80 t (bk_80 t) = true := by
  intro t
  unfold bk_80
  split <;> first | decide +kernel | rfl
def cu_80 : Nat → Option (List Nat) := fun _ => none
/-- SluiceLogs$World.lacks(I)Z -/
def bk_81 : Nat → List Ins := fun t => match t with
  | 0 => [(.aload_n 0, 0, 0, 0, 0), (.getfield 21, 7, 2, 2, 0), (.getfield 84, 6, 7, 2, 0), (.iload_n 1, 1, 0, 0, 0), (.iaload, 0, 0, 0, 0), (.aload_n 0, 0, 0, 0, 0), (.iload_n 1, 1, 0, 0, 0), (.invokevirtual 124, 71, 107, 1, 2), (.if_icmp .ge 7, 21, 0, 0, 0), (.iconst 1, 0, 0, 0, 0), (.goto 4, 22, 0, 0, 0)]
  | 21 => [(.iconst 0, 0, 0, 0, 0)]
  | 22 => [(.ireturn, 3, 0, 0, 0)]
  | _ => []
set_option maxRecDepth 20000 in
theorem ck_81 : ∀ t, chkL 81 t (bk_81 t) = true := by
  intro t
  unfold bk_81
  split <;> first | decide +kernel | rfl
def cu_81 : Nat → Option (List Nat) := fun _ => none
/-- SluiceLogs$World.lackingFields()I -/
def bk_82 : Nat → List Ins := fun t => match t with
  | 0 => [(.iconst 0, 0, 0, 0, 0), (.istore_n 1, 1, 0, 0, 0), (.iconst 0, 0, 0, 0, 0), (.istore_n 2, 2, 0, 0, 0)]
  | 4 => [(.iload_n 2, 2, 0, 0, 0), (.aload_n 0, 0, 0, 0, 0), (.getfield 34, 7, 0, 2, 0), (.getfield 105, 1, 1, 0, 0), (.if_icmp .ge 23, 35, 0, 0, 0), (.aload_n 0, 0, 0, 0, 0), (.iload_n 2, 2, 0, 0, 0), (.invokevirtual 127, 81, 107, 1, 2), (.ifCond .eq 9, 29, 0, 0, 0), (.iload_n 1, 1, 0, 0, 0), (.iconst 1, 0, 0, 0, 0), (.iload_n 2, 2, 0, 0, 0), (.ishl, 0, 0, 0, 0), (.ior, 0, 0, 0, 0), (.istore_n 1, 1, 0, 0, 0)]
  | 29 => [(.iinc 2 1, 2, 0, 0, 0), (.goto (-28), 4, 0, 0, 0)]
  | 35 => [(.iload_n 1, 1, 0, 0, 0), (.ireturn, 0, 0, 0, 0)]
  | _ => []
set_option maxRecDepth 20000 in
theorem ck_82 : ∀ t, chkL 82 t (bk_82 t) = true := by
  intro t
  unfold bk_82
  split <;> first | decide +kernel | rfl
def cu_82 : Nat → Option (List Nat) := fun t => match t with | 4 => some [0, 1, 2] | _ => none
/-- SluiceLogs$World.lacksSomewhere()Z -/
def bk_83 : Nat → List Ins := fun t => match t with
  | 0 => [(.iconst 0, 0, 0, 0, 0), (.istore_n 1, 1, 0, 0, 0)]
  | 2 => [(.iload_n 1, 1, 0, 0, 0), (.aload_n 0, 0, 0, 0, 0), (.getfield 34, 7, 0, 2, 0), (.getfield 105, 1, 1, 0, 0), (.if_icmp .ge 28, 38, 0, 0, 0), (.aload_n 0, 0, 0, 0, 0), (.getfield 21, 7, 2, 2, 0), (.getfield 84, 6, 7, 2, 0), (.iload_n 1, 1, 0, 0, 0), (.iaload, 0, 0, 0, 0), (.aload_n 0, 0, 0, 0, 0), (.iload_n 1, 1, 0, 0, 0), (.invokevirtual 124, 71, 107, 1, 2), (.if_icmp .ge 5, 32, 0, 0, 0), (.iconst 1, 0, 0, 0, 0), (.ireturn, 3, 0, 0, 0)]
  | 32 => [(.iinc 1 1, 1, 0, 0, 0), (.goto (-33), 2, 0, 0, 0)]
  | 38 => [(.iconst 0, 0, 0, 0, 0), (.ireturn, 3, 0, 0, 0)]
  | _ => []
set_option maxRecDepth 20000 in
theorem ck_83 : ∀ t, chkL 83 t (bk_83 t) = true := by
  intro t
  unfold bk_83
  split <;> first | decide +kernel | rfl
def cu_83 : Nat → Option (List Nat) := fun t => match t with | 2 => some [0, 1] | _ => none
/-- SluiceLogs$World.grownOfAll()I -/
def bk_84 : Nat → List Ins := fun t => match t with
  | 0 => [(.iconst 0, 0, 0, 0, 0), (.istore_n 1, 1, 0, 0, 0), (.iconst 0, 0, 0, 0, 0), (.istore_n 2, 2, 0, 0, 0)]
  | 4 => [(.iload_n 2, 2, 0, 0, 0), (.aload_n 0, 0, 0, 0, 0), (.getfield 34, 7, 0, 2, 0), (.getfield 105, 1, 1, 0, 0), (.if_icmp .ge 21, 33, 0, 0, 0), (.iload_n 1, 1, 0, 0, 0), (.aload_n 0, 0, 0, 0, 0), (.getfield 12, 7, 1, 2, 0), (.getfield 93, 3, 3, 2, 0), (.iload_n 2, 2, 0, 0, 0), (.iaload, 0, 0, 0, 0), (.iadd, 0, 0, 0, 0), (.istore_n 1, 1, 0, 0, 0), (.iinc 2 1, 2, 0, 0, 0), (.goto (-26), 4, 0, 0, 0)]
  | 33 => [(.iload_n 1, 1, 0, 0, 0), (.ireturn, 0, 0, 0, 0)]
  | _ => []
set_option maxRecDepth 20000 in
theorem ck_84 : ∀ t, chkL 84 t (bk_84 t) = true := by
  intro t
  unfold bk_84
  split <;> first | decide +kernel | rfl
def cu_84 : Nat → Option (List Nat) := fun t => match t with | 4 => some [0, 1, 2] | _ => none
/-- SluiceLogs$World.passDays(IIZ)V -/
def bk_85 : Nat → List Ins := fun t => match t with
  | 0 => [(.iconst 0, 0, 0, 0, 0), (.istore 4, 4, 0, 0, 0)]
  | 3 => [(.iload 4, 4, 0, 0, 0), (.iload_n 1, 1, 0, 0, 0), (.if_icmp .ge 54, 60, 0, 0, 0), (.aload_n 0, 0, 0, 0, 0), (.invokevirtual 131, 86, 107, 0, 2), (.iload_n 3, 3, 0, 0, 0), (.ifCond .eq 15, 29, 0, 0, 0), (.aload_n 0, 0, 0, 0, 0), (.iload_n 2, 2, 0, 0, 0), (.invokevirtual 134, 87, 107, 1, 4), (.ifCond .eq 7, 29, 0, 0, 0), (.iconst 1, 0, 0, 0, 0), (.goto 4, 30, 0, 0, 0)]
  | 29 => [(.iconst 0, 0, 0, 0, 0)]
  | 30 => [(.istore 5, 5, 0, 0, 0), (.aload_n 0, 0, 0, 0, 0), (.getfield 12, 7, 1, 2, 0), (.dup, 0, 0, 0, 0), (.getfield 99, 3, 5, 0, 0), (.iconst 1, 0, 0, 0, 0), (.iadd, 0, 0, 0, 0), (.putfield 99, 3, 5, 0, 0), (.iload 5, 5, 0, 0, 0), (.ifCond .eq 7, 54, 0, 0, 0), (.aload_n 0, 0, 0, 0, 0), (.invokevirtual 137, 65, 107, 0, 1)]
  | 54 => [(.iinc 4 1, 4, 0, 0, 0), (.goto (-54), 3, 0, 0, 0)]
  | 60 => [(.return_, 0, 0, 0, 0)]
  | _ => []
set_option maxRecDepth 20000 in
theorem ck_85 : ∀ t, chkL 85 t (bk_85 t) = true := by
  intro t
  unfold bk_85
  split <;> first | decide +kernel | rfl
def cu_85 : Nat → Option (List Nat) := fun t => match t with | 3 => some [0, 1, 2, 3, 4] | _ => none
/-- SluiceLogs$World.grow()V -/
def bk_86 : Nat → List Ins := fun t => match t with
  | 0 => [(.iconst 0, 0, 0, 0, 0), (.istore_n 1, 1, 0, 0, 0)]
  | 2 => [(.iload_n 1, 1, 0, 0, 0), (.aload_n 0, 0, 0, 0, 0), (.getfield 34, 7, 0, 2, 0), (.getfield 105, 1, 1, 0, 0), (.if_icmp .ge 39, 49, 0, 0, 0), (.aload_n 0, 0, 0, 0, 0), (.getfield 12, 7, 1, 2, 0), (.getfield 93, 3, 3, 2, 0), (.iload_n 1, 1, 0, 0, 0), (.sipush 9999, 0, 0, 0, 0), (.aload_n 0, 0, 0, 0, 0), (.getfield 12, 7, 1, 2, 0), (.getfield 93, 3, 3, 2, 0), (.iload_n 1, 1, 0, 0, 0), (.iaload, 0, 0, 0, 0), (.aload_n 0, 0, 0, 0, 0), (.iload_n 1, 1, 0, 0, 0), (.invokevirtual 140, 72, 107, 1, 2), (.iadd, 0, 0, 0, 0), (.invokestatic 76, 286, 0, 2, 2), (.iastore, 0, 0, 0, 0), (.iinc 1 1, 1, 0, 0, 0), (.goto (-44), 2, 0, 0, 0)]
  | 49 => [(.return_, 0, 0, 0, 0)]
  | _ => []
set_option maxRecDepth 20000 in
theorem ck_86 : ∀ t, chkL 86 t (bk_86 t) = true := by
  intro t
  unfold bk_86
  split <;> first | decide +kernel | rfl
def cu_86 : Nat → Option (List Nat) := fun t => match t with | 2 => some [0, 1] | _ => none
/-- SluiceLogs$World.silt(I)Z -/
def bk_87 : Nat → List Ins := fun t => match t with
  | 0 => [(.iconst 0, 0, 0, 0, 0), (.istore_n 2, 2, 0, 0, 0), (.iconst 0, 0, 0, 0, 0), (.istore_n 3, 3, 0, 0, 0)]
  | 4 => [(.iload_n 3, 3, 0, 0, 0), (.aload_n 0, 0, 0, 0, 0), (.getfield 34, 7, 0, 2, 0), (.getfield 42, 1, 2, 0, 0), (.if_icmp .ge 62, 74, 0, 0, 0), (.aload_n 0, 0, 0, 0, 0), (.getfield 12, 7, 1, 2, 0), (.getfield 49, 3, 0, 2, 0), (.iload_n 3, 3, 0, 0, 0), (.iaload, 0, 0, 0, 0), (.ifCond .le 44, 68, 0, 0, 0), (.bipush 100, 0, 0, 0, 0), (.iload_n 1, 1, 0, 0, 0), (.bipush 16, 0, 0, 0, 0), (.aload_n 0, 0, 0, 0, 0), (.getfield 12, 7, 1, 2, 0), (.getfield 99, 3, 5, 0, 0), (.imul, 0, 0, 0, 0), (.iload_n 3, 3, 0, 0, 0), (.iadd, 0, 0, 0, 0), (.invokestatic 143, 88, 0, 3, 4), (.aload_n 0, 0, 0, 0, 0), (.iload_n 3, 3, 0, 0, 0), (.invokevirtual 146, 74, 107, 1, 2), (.if_icmp .ge 18, 68, 0, 0, 0), (.aload_n 0, 0, 0, 0, 0), (.getfield 12, 7, 1, 2, 0), (.getfield 49, 3, 0, 2, 0), (.iload_n 3, 3, 0, 0, 0), (.dup2, 0, 0, 0, 0), (.iaload, 0, 0, 0, 0), (.iconst 1, 0, 0, 0, 0), (.isub, 0, 0, 0, 0), (.iastore, 0, 0, 0, 0), (.iconst 1, 0, 0, 0, 0), (.istore_n 2, 2, 0, 0, 0)]
  | 68 => [(.iinc 3 1, 3, 0, 0, 0), (.goto (-67), 4, 0, 0, 0)]
  | 74 => [(.iload_n 2, 2, 0, 0, 0), (.ireturn, 3, 0, 0, 0)]
  | _ => []
set_option maxRecDepth 20000 in
theorem ck_87 : ∀ t, chkL 87 t (bk_87 t) = true := by
  intro t
  unfold bk_87
  split <;> first | decide +kernel | rfl
def cu_87 : Nat → Option (List Nat) := fun t => match t with | 4 => some [0, 1, 2, 3] | _ => none
/-- SluiceLogs$World.lot(III)I -/
def bk_88 : Nat → List Ins := fun t => match t with
  | 0 => [(.iload_n 1, 1, 0, 0, 0), (.sipush 217, 0, 0, 0, 0), (.invokestatic 149, 89, 0, 2, 3), (.iload_n 2, 2, 0, 0, 0), (.invokestatic 149, 89, 0, 2, 3), (.istore_n 3, 3, 0, 0, 0), (.iload_n 0, 0, 0, 0, 0), (.ifCond .le 11, 24, 0, 0, 0), (.iload_n 3, 3, 0, 0, 0), (.iconst 1, 0, 0, 0, 0), (.iushr, 0, 0, 0, 0), (.iload_n 0, 0, 0, 0, 0), (.irem, 0, 0, 0, 0), (.goto 4, 25, 0, 0, 0)]
  | 24 => [(.iconst 0, 0, 0, 0, 0)]
  | 25 => [(.ireturn, 0, 0, 0, 0)]
  | _ => []
set_option maxRecDepth 20000 in
theorem ck_88 : ∀ t, chkL 88 t (bk_88 t) = true := by
  intro t
  unfold bk_88
  split <;> first | decide +kernel | rfl
def cu_88 : Nat → Option (List Nat) := fun _ => none
/-- SluiceLogs$World.mixed(II)I -/
def bk_89 : Nat → List Ins := fun t => match t with
  | 0 => [(.iload_n 0, 0, 0, 0, 0), (.iload_n 1, 1, 0, 0, 0), (.ixor, 0, 0, 0, 0), (.ldc 152, 1103515245, 0, 0, 0), (.imul, 0, 0, 0, 0), (.sipush 12345, 0, 0, 0, 0), (.iadd, 0, 0, 0, 0), (.istore_n 2, 2, 0, 0, 0), (.iload_n 2, 2, 0, 0, 0), (.iload_n 2, 2, 0, 0, 0), (.bipush 15, 0, 0, 0, 0), (.iushr, 0, 0, 0, 0), (.ixor, 0, 0, 0, 0), (.ireturn, 0, 0, 0, 0)]
  | _ => []
set_option maxRecDepth 20000 in
theorem ck_89 : ∀ t, chkL 89 t (bk_89 t) = true := by
  intro t
  unfold bk_89
  split <;> first | decide +kernel | rfl
def cu_89 : Nat → Option (List Nat) := fun _ => none
/-- java/lang/Integer.bitCount(I)I -/
def bk_284 : Nat → List Ins := fun t => match t with
  | 0 => [(.iload_n 0, 0, 0, 0, 0), (.iload_n 0, 0, 0, 0, 0), (.iconst 1, 0, 0, 0, 0), (.iushr, 0, 0, 0, 0), (.ldc_w 265, 1431655765, 0, 0, 0), (.iand, 0, 0, 0, 0), (.isub, 0, 0, 0, 0), (.istore_n 0, 0, 0, 0, 0), (.iload_n 0, 0, 0, 0, 0), (.ldc_w 266, 858993459, 0, 0, 0), (.iand, 0, 0, 0, 0), (.iload_n 0, 0, 0, 0, 0), (.iconst 2, 0, 0, 0, 0), (.iushr, 0, 0, 0, 0), (.ldc_w 266, 858993459, 0, 0, 0), (.iand, 0, 0, 0, 0), (.iadd, 0, 0, 0, 0), (.istore_n 0, 0, 0, 0, 0), (.iload_n 0, 0, 0, 0, 0), (.iload_n 0, 0, 0, 0, 0), (.iconst 4, 0, 0, 0, 0), (.iushr, 0, 0, 0, 0), (.iadd, 0, 0, 0, 0), (.ldc_w 267, 252645135, 0, 0, 0), (.iand, 0, 0, 0, 0), (.istore_n 0, 0, 0, 0, 0), (.iload_n 0, 0, 0, 0, 0), (.iload_n 0, 0, 0, 0, 0), (.bipush 8, 0, 0, 0, 0), (.iushr, 0, 0, 0, 0), (.iadd, 0, 0, 0, 0), (.istore_n 0, 0, 0, 0, 0), (.iload_n 0, 0, 0, 0, 0), (.iload_n 0, 0, 0, 0, 0), (.bipush 16, 0, 0, 0, 0), (.iushr, 0, 0, 0, 0), (.iadd, 0, 0, 0, 0), (.istore_n 0, 0, 0, 0, 0), (.iload_n 0, 0, 0, 0, 0), (.bipush 63, 0, 0, 0, 0), (.iand, 0, 0, 0, 0), (.ireturn, 0, 0, 0, 0)]
  | _ => []
set_option maxRecDepth 20000 in
theorem ck_284 : ∀ t, chkL 284 t (bk_284 t) = true := by
  intro t
  unfold bk_284
  split <;> first | decide +kernel | rfl
def cu_284 : Nat → Option (List Nat) := fun _ => none
/-- java/lang/Math.max(II)I -/
def bk_285 : Nat → List Ins := fun t => match t with
  | 0 => [(.iload_n 0, 0, 0, 0, 0), (.iload_n 1, 1, 0, 0, 0), (.if_icmp .lt 7, 9, 0, 0, 0), (.iload_n 0, 0, 0, 0, 0), (.goto 4, 10, 0, 0, 0)]
  | 9 => [(.iload_n 1, 1, 0, 0, 0)]
  | 10 => [(.ireturn, 0, 0, 0, 0)]
  | _ => []
set_option maxRecDepth 20000 in
theorem ck_285 : ∀ t, chkL 285 t (bk_285 t) = true := by
  intro t
  unfold bk_285
  split <;> first | decide +kernel | rfl
def cu_285 : Nat → Option (List Nat) := fun _ => none
/-- java/lang/Math.min(II)I -/
def bk_286 : Nat → List Ins := fun t => match t with
  | 0 => [(.iload_n 0, 0, 0, 0, 0), (.iload_n 1, 1, 0, 0, 0), (.if_icmp .gt 7, 9, 0, 0, 0), (.iload_n 0, 0, 0, 0, 0), (.goto 4, 10, 0, 0, 0)]
  | 9 => [(.iload_n 1, 1, 0, 0, 0)]
  | 10 => [(.ireturn, 0, 0, 0, 0)]
  | _ => []
set_option maxRecDepth 20000 in
theorem ck_286 : ∀ t, chkL 286 t (bk_286 t) = true := by
  intro t
  unfold bk_286
  split <;> first | decide +kernel | rfl
def cu_286 : Nat → Option (List Nat) := fun _ => none
/-- java/util/Arrays.fill([JJ)V -/
def bk_297 : Nat → List Ins := fun t => match t with
  | 0 => [(.iconst 0, 0, 0, 0, 0), (.istore_n 3, 3, 0, 0, 0), (.aload_n 0, 0, 0, 0, 0), (.arraylength, 0, 0, 0, 0), (.istore 4, 4, 0, 0, 0)]
  | 6 => [(.iload_n 3, 3, 0, 0, 0), (.iload 4, 4, 0, 0, 0), (.if_icmp .ge 13, 22, 0, 0, 0), (.aload_n 0, 0, 0, 0, 0), (.iload_n 3, 3, 0, 0, 0), (.lload_n 1, 1, 0, 0, 0), (.lastore, 0, 0, 0, 0), (.iinc 3 1, 3, 0, 0, 0), (.goto (-13), 6, 0, 0, 0)]
  | 22 => [(.return_, 0, 0, 0, 0)]
  | _ => []
set_option maxRecDepth 20000 in
theorem ck_297 : ∀ t, chkL 297 t (bk_297 t) = true := by
  intro t
  unfold bk_297
  split <;> first | decide +kernel | rfl
def cu_297 : Nat → Option (List Nat) := fun t => match t with | 6 => some [0, 1, 3, 4] | _ => none
/-- java/util/Arrays.fill([II)V -/
def bk_298 : Nat → List Ins := fun t => match t with
  | 0 => [(.iconst 0, 0, 0, 0, 0), (.istore_n 2, 2, 0, 0, 0), (.aload_n 0, 0, 0, 0, 0), (.arraylength, 0, 0, 0, 0), (.istore_n 3, 3, 0, 0, 0)]
  | 5 => [(.iload_n 2, 2, 0, 0, 0), (.iload_n 3, 3, 0, 0, 0), (.if_icmp .ge 13, 20, 0, 0, 0), (.aload_n 0, 0, 0, 0, 0), (.iload_n 2, 2, 0, 0, 0), (.iload_n 1, 1, 0, 0, 0), (.iastore, 0, 0, 0, 0), (.iinc 2 1, 2, 0, 0, 0), (.goto (-12), 5, 0, 0, 0)]
  | 20 => [(.return_, 0, 0, 0, 0)]
  | _ => []
set_option maxRecDepth 20000 in
theorem ck_298 : ∀ t, chkL 298 t (bk_298 t) = true := by
  intro t
  unfold bk_298
  split <;> first | decide +kernel | rfl
def cu_298 : Nat → Option (List Nat) := fun t => match t with | 5 => some [0, 1, 2, 3] | _ => none

/-- SluiceLogs$Past.<init>()V -/
def bk_0 : Nat → List Ins := fun t => match t with
  | 0 => [(.aload_n 0, 0, 0, 0, 0), (.invokespecial 3, 0, 4, 0, 0), (.aload_n 0, 0, 0, 0, 0), (.bipush 40, 0, 0, 0, 0), (.anewarray 9, 45, 0, 0, 0), (.putfield 11, 0, 0, 2, 0), (.aload_n 0, 0, 0, 0, 0), (.iconst 0, 0, 0, 0, 0), (.putfield 17, 0, 1, 0, 0), (.aload_n 0, 0, 0, 0, 0), (.iconst 0, 0, 0, 0, 0), (.putfield 21, 0, 2, 0, 0), (.iconst 0, 0, 0, 0, 0), (.istore_n 1, 1, 0, 0, 0)]
  | 25 => [(.iload_n 1, 1, 0, 0, 0), (.bipush 40, 0, 0, 0, 0), (.if_icmp .ge 22, 50, 0, 0, 0), (.aload_n 0, 0, 0, 0, 0), (.getfield 11, 0, 0, 2, 0), (.iload_n 1, 1, 0, 0, 0), (.new 9, 26, 0, 0, 0), (.dup, 0, 0, 0, 0), (.invokespecial 24, 36, 3, 0, 1), (.aastore, 0, 0, 0, 0), (.iinc 1 1, 1, 0, 0, 0), (.goto (-22), 25, 0, 0, 0)]
  | 50 => [(.return_, 0, 0, 0, 0)]
  | _ => []
set_option maxRecDepth 20000 in
theorem ck_0 : ∀ t, chkL 0 t (bk_0 t) = true := by
  intro t
  unfold bk_0
  split <;> first | decide +kernel | rfl
/-- SluiceLogs$Past.push(LSluiceLogs$State;)V -/
def bk_1 : Nat → List Ins := fun t => match t with
  | 0 => [(.aload_n 0, 0, 0, 0, 0), (.aload_n 0, 0, 0, 0, 0), (.getfield 17, 0, 1, 0, 0), (.iconst 1, 0, 0, 0, 0), (.iadd, 0, 0, 0, 0), (.bipush 40, 0, 0, 0, 0), (.if_icmp .ge 12, 21, 0, 0, 0), (.aload_n 0, 0, 0, 0, 0), (.getfield 17, 0, 1, 0, 0), (.iconst 1, 0, 0, 0, 0), (.iadd, 0, 0, 0, 0), (.goto 4, 22, 0, 0, 0)]
  | 21 => [(.iconst 0, 0, 0, 0, 0)]
  | 22 => [(.putfield 17, 0, 1, 0, 0), (.aload_n 0, 0, 0, 0, 0), (.getfield 11, 0, 0, 2, 0), (.aload_n 0, 0, 0, 0, 0), (.getfield 17, 0, 1, 0, 0), (.aaload, 0, 0, 0, 0), (.aload_n 1, 1, 0, 0, 0), (.invokevirtual 25, 38, 103, 1, 2), (.aload_n 0, 0, 0, 0, 0), (.aload_n 0, 0, 0, 0, 0), (.getfield 21, 0, 2, 0, 0), (.iconst 1, 0, 0, 0, 0), (.iadd, 0, 0, 0, 0), (.bipush 40, 0, 0, 0, 0), (.invokestatic 29, 286, 0, 2, 2), (.putfield 21, 0, 2, 0, 0), (.return_, 0, 0, 0, 0)]
  | _ => []
set_option maxRecDepth 20000 in
theorem ck_1 : ∀ t, chkL 1 t (bk_1 t) = true := by
  intro t
  unfold bk_1
  split <;> first | decide +kernel | rfl
/-- SluiceLogs$Past.pop(LSluiceLogs$State;)Z -/
def bk_2 : Nat → List Ins := fun t => match t with
  | 0 => [(.aload_n 0, 0, 0, 0, 0), (.getfield 21, 0, 2, 0, 0), (.ifCond .ne 5, 9, 0, 0, 0), (.iconst 0, 0, 0, 0, 0), (.ireturn, 3, 0, 0, 0)]
  | 9 => [(.aload_n 1, 1, 0, 0, 0), (.aload_n 0, 0, 0, 0, 0), (.getfield 11, 0, 0, 2, 0), (.aload_n 0, 0, 0, 0, 0), (.getfield 17, 0, 1, 0, 0), (.aaload, 0, 0, 0, 0), (.invokevirtual 25, 38, 103, 1, 2), (.aload_n 0, 0, 0, 0, 0), (.aload_n 0, 0, 0, 0, 0), (.getfield 17, 0, 1, 0, 0), (.ifCond .le 12, 39, 0, 0, 0), (.aload_n 0, 0, 0, 0, 0), (.getfield 17, 0, 1, 0, 0), (.iconst 1, 0, 0, 0, 0), (.isub, 0, 0, 0, 0), (.goto 5, 41, 0, 0, 0)]
  | 39 => [(.bipush 39, 0, 0, 0, 0)]
  | 41 => [(.putfield 17, 0, 1, 0, 0), (.aload_n 0, 0, 0, 0, 0), (.dup, 0, 0, 0, 0), (.getfield 21, 0, 2, 0, 0), (.iconst 1, 0, 0, 0, 0), (.isub, 0, 0, 0, 0), (.putfield 21, 0, 2, 0, 0), (.iconst 1, 0, 0, 0, 0), (.ireturn, 3, 0, 0, 0)]
  | _ => []
set_option maxRecDepth 20000 in
theorem ck_2 : ∀ t, chkL 2 t (bk_2 t) = true := by
  intro t
  unfold bk_2
  split <;> first | decide +kernel | rfl
/-- SluiceLogs$State.<init>()V -/
def bk_36 : Nat → List Ins := fun t => match t with
  | 0 => [(.aload_n 0, 0, 0, 0, 0), (.invokespecial 3, 0, 4, 0, 0), (.aload_n 0, 0, 0, 0, 0), (.bipush 12, 0, 0, 0, 0), (.newarray .int, 27, 0, 0, 0), (.putfield 9, 3, 0, 2, 0), (.aload_n 0, 0, 0, 0, 0), (.bipush 6, 0, 0, 0, 0), (.newarray .int, 28, 0, 0, 0), (.putfield 15, 3, 1, 2, 0), (.aload_n 0, 0, 0, 0, 0), (.bipush 6, 0, 0, 0, 0), (.newarray .int, 29, 0, 0, 0), (.putfield 18, 3, 2, 2, 0), (.aload_n 0, 0, 0, 0, 0), (.bipush 6, 0, 0, 0, 0), (.newarray .int, 30, 0, 0, 0), (.putfield 21, 3, 3, 2, 0), (.return_, 0, 0, 0, 0)]
  | _ => []
set_option maxRecDepth 20000 in
theorem ck_36 : ∀ t, chkL 36 t (bk_36 t) = true := by
  intro t
  unfold bk_36
  split <;> first | decide +kernel | rfl
/-- SluiceLogs$State.empty()V -/
def bk_37 : Nat → List Ins := fun t => match t with
  | 0 => [(.aload_n 0, 0, 0, 0, 0), (.getfield 9, 3, 0, 2, 0), (.iconst 0, 0, 0, 0, 0), (.invokestatic 24, 298, 0, 2, 4), (.aload_n 0, 0, 0, 0, 0), (.getfield 15, 3, 1, 2, 0), (.bipush (-2), 0, 0, 0, 0), (.invokestatic 24, 298, 0, 2, 4), (.aload_n 0, 0, 0, 0, 0), (.getfield 18, 3, 2, 2, 0), (.iconst 0, 0, 0, 0, 0), (.invokestatic 24, 298, 0, 2, 4), (.aload_n 0, 0, 0, 0, 0), (.getfield 21, 3, 3, 2, 0), (.iconst 0, 0, 0, 0, 0), (.invokestatic 24, 298, 0, 2, 4), (.aload_n 0, 0, 0, 0, 0), (.bipush 8, 0, 0, 0, 0), (.putfield 30, 3, 4, 0, 0), (.aload_n 0, 0, 0, 0, 0), (.iconst 0, 0, 0, 0, 0), (.putfield 34, 3, 5, 0, 0), (.aload_n 0, 0, 0, 0, 0), (.iconst 0, 0, 0, 0, 0), (.putfield 37, 3, 6, 0, 0), (.return_, 0, 0, 0, 0)]
  | _ => []
set_option maxRecDepth 20000 in
theorem ck_37 : ∀ t, chkL 37 t (bk_37 t) = true := by
  intro t
  unfold bk_37
  split <;> first | decide +kernel | rfl
/-- SluiceLogs$State.become(LSluiceLogs$State;)V -/
def bk_38 : Nat → List Ins := fun t => match t with
  | 0 => [(.aload_n 1, 1, 0, 0, 0), (.getfield 9, 3, 0, 2, 0), (.iconst 0, 0, 0, 0, 0), (.aload_n 0, 0, 0, 0, 0), (.getfield 9, 3, 0, 2, 0), (.iconst 0, 0, 0, 0, 0), (.bipush 12, 0, 0, 0, 0), (.invokestatic 40, 0, 5, 0, 0), (.aload_n 1, 1, 0, 0, 0), (.getfield 15, 3, 1, 2, 0), (.iconst 0, 0, 0, 0, 0), (.aload_n 0, 0, 0, 0, 0), (.getfield 15, 3, 1, 2, 0), (.iconst 0, 0, 0, 0, 0), (.bipush 6, 0, 0, 0, 0), (.invokestatic 40, 0, 5, 0, 0), (.aload_n 1, 1, 0, 0, 0), (.getfield 18, 3, 2, 2, 0), (.iconst 0, 0, 0, 0, 0), (.aload_n 0, 0, 0, 0, 0), (.getfield 18, 3, 2, 2, 0), (.iconst 0, 0, 0, 0, 0), (.bipush 6, 0, 0, 0, 0), (.invokestatic 40, 0, 5, 0, 0), (.aload_n 1, 1, 0, 0, 0), (.getfield 21, 3, 3, 2, 0), (.iconst 0, 0, 0, 0, 0), (.aload_n 0, 0, 0, 0, 0), (.getfield 21, 3, 3, 2, 0), (.iconst 0, 0, 0, 0, 0), (.bipush 6, 0, 0, 0, 0), (.invokestatic 40, 0, 5, 0, 0), (.aload_n 0, 0, 0, 0, 0), (.aload_n 1, 1, 0, 0, 0), (.getfield 30, 3, 4, 0, 0), (.putfield 30, 3, 4, 0, 0), (.aload_n 0, 0, 0, 0, 0), (.aload_n 1, 1, 0, 0, 0), (.getfield 34, 3, 5, 0, 0), (.putfield 34, 3, 5, 0, 0), (.aload_n 0, 0, 0, 0, 0), (.aload_n 1, 1, 0, 0, 0), (.getfield 37, 3, 6, 0, 0), (.putfield 37, 3, 6, 0, 0), (.return_, 0, 0, 0, 0)]
  | _ => []
set_option maxRecDepth 20000 in
theorem ck_38 : ∀ t, chkL 38 t (bk_38 t) = true := by
  intro t
  unfold bk_38
  split <;> first | decide +kernel | rfl
/-- SluiceLogs$World.<init>()V -/
def bk_64 : Nat → List Ins := fun t => match t with
  | 0 => [(.aload_n 0, 0, 0, 0, 0), (.invokespecial 3, 0, 4, 0, 0), (.aload_n 0, 0, 0, 0, 0), (.new 9, 26, 0, 0, 0), (.dup, 0, 0, 0, 0), (.invokespecial 11, 36, 3, 0, 1), (.putfield 12, 7, 1, 2, 0), (.aload_n 0, 0, 0, 0, 0), (.new 18, 32, 0, 0, 0), (.dup, 0, 0, 0, 0), (.invokespecial 20, 51, 3, 0, 1), (.putfield 21, 7, 2, 2, 0), (.aload_n 0, 0, 0, 0, 0), (.bipush 9, 0, 0, 0, 0), (.newarray .int, 42, 0, 0, 0), (.putfield 27, 7, 3, 2, 0), (.aload_n 0, 0, 0, 0, 0), (.sipush 408, 0, 0, 0, 0), (.newarray .int, 43, 0, 0, 0), (.putfield 31, 7, 4, 2, 0), (.return_, 0, 0, 0, 0)]
  | _ => []
set_option maxRecDepth 20000 in
theorem ck_64 : ∀ t, chkL 64 t (bk_64 t) = true := by
  intro t
  unfold bk_64
  split <;> first | decide +kernel | rfl
/-- SluiceLogs$World.settle()V -/
def bk_65 : Nat → List Ins := fun t => match t with
  | 0 => [(.aload_n 0, 0, 0, 0, 0), (.getfield 21, 7, 2, 2, 0), (.aload_n 0, 0, 0, 0, 0), (.getfield 34, 7, 0, 2, 0), (.aload_n 0, 0, 0, 0, 0), (.getfield 12, 7, 1, 2, 0), (.invokevirtual 38, 52, 106, 2, 3), (.return_, 0, 0, 0, 0)]
  | _ => []
set_option maxRecDepth 20000 in
theorem ck_65 : ∀ t, chkL 65 t (bk_65 t) = true := by
  intro t
  unfold bk_65
  split <;> first | decide +kernel | rfl
/-- SluiceLogs$World.widthsOf(I)I -/
def bk_66 : Nat → List Ins := fun t => match t with
  | 0 => [(.iconst 0, 0, 0, 0, 0), (.istore_n 2, 2, 0, 0, 0), (.iconst 0, 0, 0, 0, 0), (.istore_n 3, 3, 0, 0, 0)]
  | 4 => [(.iload_n 3, 3, 0, 0, 0), (.aload_n 0, 0, 0, 0, 0), (.getfield 34, 7, 0, 2, 0), (.getfield 42, 1, 2, 0, 0), (.if_icmp .ge 34, 46, 0, 0, 0), (.aload_n 0, 0, 0, 0, 0), (.getfield 34, 7, 0, 2, 0), (.getfield 46, 1, 7, 2, 0), (.iload_n 3, 3, 0, 0, 0), (.iaload, 0, 0, 0, 0), (.iload_n 1, 1, 0, 0, 0), (.if_icmp .ne 15, 40, 0, 0, 0), (.iload_n 2, 2, 0, 0, 0), (.aload_n 0, 0, 0, 0, 0), (.getfield 12, 7, 1, 2, 0), (.getfield 49, 3, 0, 2, 0), (.iload_n 3, 3, 0, 0, 0), (.iaload, 0, 0, 0, 0), (.iadd, 0, 0, 0, 0), (.istore_n 2, 2, 0, 0, 0)]
  | 40 => [(.iinc 3 1, 3, 0, 0, 0), (.goto (-39), 4, 0, 0, 0)]
  | 46 => [(.iload_n 2, 2, 0, 0, 0), (.ireturn, 0, 0, 0, 0)]
  | _ => []
set_option maxRecDepth 20000 in
theorem ck_66 : ∀ t, chkL 66 t (bk_66 t) = true := by
  intro t
  unfold bk_66
  split <;> first | decide +kernel | rfl
/-- SluiceLogs$World.widthsTo(I)I -/
def bk_67 : Nat → List Ins := fun t => match t with
  | 0 => [(.iconst 0, 0, 0, 0, 0), (.istore_n 2, 2, 0, 0, 0), (.iconst 0, 0, 0, 0, 0), (.istore_n 3, 3, 0, 0, 0)]
  | 4 => [(.iload_n 3, 3, 0, 0, 0), (.aload_n 0, 0, 0, 0, 0), (.getfield 34, 7, 0, 2, 0), (.getfield 42, 1, 2, 0, 0), (.if_icmp .ge 37, 49, 0, 0, 0), (.aload_n 0, 0, 0, 0, 0), (.getfield 34, 7, 0, 2, 0), (.getfield 52, 1, 8, 2, 0), (.iload_n 3, 3, 0, 0, 0), (.iaload, 0, 0, 0, 0), (.bipush 10, 0, 0, 0, 0), (.iload_n 1, 1, 0, 0, 0), (.iadd, 0, 0, 0, 0), (.if_icmp .ne 15, 43, 0, 0, 0), (.iload_n 2, 2, 0, 0, 0), (.aload_n 0, 0, 0, 0, 0), (.getfield 12, 7, 1, 2, 0), (.getfield 49, 3, 0, 2, 0), (.iload_n 3, 3, 0, 0, 0), (.iaload, 0, 0, 0, 0), (.iadd, 0, 0, 0, 0), (.istore_n 2, 2, 0, 0, 0)]
  | 43 => [(.iinc 3 1, 3, 0, 0, 0), (.goto (-42), 4, 0, 0, 0)]
  | 49 => [(.iload_n 2, 2, 0, 0, 0), (.ireturn, 0, 0, 0, 0)]
  | _ => []
set_option maxRecDepth 20000 in
theorem ck_67 : ∀ t, chkL 67 t (bk_67 t) = true := by
  intro t
  unfold bk_67
  split <;> first | decide +kernel | rfl
/-- SluiceLogs$World.drainTarget(I)I -/
def bk_68 : Nat → List Ins := fun t => match t with
  | 0 => [(.aload_n 0, 0, 0, 0, 0), (.getfield 12, 7, 1, 2, 0), (.getfield 55, 3, 2, 2, 0), (.iload_n 1, 1, 0, 0, 0), (.iaload, 0, 0, 0, 0), (.ifCond .le 17, 26, 0, 0, 0), (.iconst 1, 0, 0, 0, 0), (.aload_n 0, 0, 0, 0, 0), (.getfield 12, 7, 1, 2, 0), (.getfield 58, 3, 1, 2, 0), (.iload_n 1, 1, 0, 0, 0), (.iaload, 0, 0, 0, 0), (.ishl, 0, 0, 0, 0), (.goto 4, 27, 0, 0, 0)]
  | 26 => [(.iconst 0, 0, 0, 0, 0)]
  | 27 => [(.ireturn, 0, 0, 0, 0)]
  | _ => []
set_option maxRecDepth 20000 in
theorem ck_68 : ∀ t, chkL 68 t (bk_68 t) = true := by
  intro t
  unfold bk_68
  split <;> first | decide +kernel | rfl
/-- SluiceLogs$World.canStep(I)Z -/
def bk_69 : Nat → List Ins := fun t => match t with
  | 0 => [(.iload_n 1, 1, 0, 0, 0), (.ifCond .lt 16, 17, 0, 0, 0), (.iload_n 1, 1, 0, 0, 0), (.iconst 2, 0, 0, 0, 0), (.aload_n 0, 0, 0, 0, 0), (.getfield 34, 7, 0, 2, 0), (.getfield 42, 1, 2, 0, 0), (.imul, 0, 0, 0, 0), (.if_icmp .lt 5, 19, 0, 0, 0)]
  | 17 => [(.iconst 0, 0, 0, 0, 0), (.ireturn, 3, 0, 0, 0)]
  | 19 => [(.aload_n 0, 0, 0, 0, 0), (.getfield 12, 7, 1, 2, 0), (.getfield 49, 3, 0, 2, 0), (.iload_n 1, 1, 0, 0, 0), (.iconst 2, 0, 0, 0, 0), (.idiv, 0, 0, 0, 0), (.iaload, 0, 0, 0, 0), (.istore_n 2, 2, 0, 0, 0), (.iload_n 1, 1, 0, 0, 0), (.iconst 2, 0, 0, 0, 0), (.irem, 0, 0, 0, 0), (.iconst 1, 0, 0, 0, 0), (.if_icmp .ne 16, 51, 0, 0, 0), (.iload_n 2, 2, 0, 0, 0), (.iconst 3, 0, 0, 0, 0), (.if_icmp .ge 7, 47, 0, 0, 0), (.iconst 1, 0, 0, 0, 0), (.goto 16, 60, 0, 0, 0)]
  | 47 => [(.iconst 0, 0, 0, 0, 0), (.goto 12, 60, 0, 0, 0)]
  | 51 => [(.iload_n 2, 2, 0, 0, 0), (.ifCond .le 7, 59, 0, 0, 0), (.iconst 1, 0, 0, 0, 0), (.goto 4, 60, 0, 0, 0)]
  | 59 => [(.iconst 0, 0, 0, 0, 0)]
  | 60 => [(.ireturn, 3, 0, 0, 0)]
  | _ => []
set_option maxRecDepth 20000 in
theorem ck_69 : ∀ t, chkL 69 t (bk_69 t) = true := by
  intro t
  unfold bk_69
  split <;> first | decide +kernel | rfl
/-- SluiceLogs$World.doStep(I)V -/
def bk_70 : Nat → List Ins := fun t => match t with
  | 0 => [(.aload_n 0, 0, 0, 0, 0), (.getfield 12, 7, 1, 2, 0), (.getfield 49, 3, 0, 2, 0), (.iload_n 1, 1, 0, 0, 0), (.iconst 2, 0, 0, 0, 0), (.idiv, 0, 0, 0, 0), (.dup2, 0, 0, 0, 0), (.iaload, 0, 0, 0, 0), (.iload_n 1, 1, 0, 0, 0), (.iconst 2, 0, 0, 0, 0), (.irem, 0, 0, 0, 0), (.iconst 1, 0, 0, 0, 0), (.if_icmp .ne 7, 23, 0, 0, 0), (.iconst 1, 0, 0, 0, 0), (.goto 4, 24, 0, 0, 0)]
  | 23 => [(.iconst (-1), 0, 0, 0, 0)]
  | 24 => [(.iadd, 0, 0, 0, 0), (.iastore, 0, 0, 0, 0), (.return_, 0, 0, 0, 0)]
  | _ => []
set_option maxRecDepth 20000 in
theorem ck_70 : ∀ t, chkL 70 t (bk_70 t) = true := by
  intro t
  unfold bk_70
  split <;> first | decide +kernel | rfl
/-- SluiceLogs$World.needsOf(I)I -/
def bk_71 : Nat → List Ins := fun t => match t with
  | 0 => [(.aload_n 0, 0, 0, 0, 0), (.iload_n 1, 1, 0, 0, 0), (.invokevirtual 61, 76, 107, 1, 2), (.sipush 9999, 0, 0, 0, 0), (.aload_n 0, 0, 0, 0, 0), (.iconst 0, 0, 0, 0, 0), (.invokevirtual 65, 79, 107, 1, 5), (.invokestatic 69, 75, 0, 2, 2), (.ireturn, 0, 0, 0, 0)]
  | _ => []
set_option maxRecDepth 20000 in
theorem ck_71 : ∀ t, chkL 71 t (bk_71 t) = true := by
  intro t
  unfold bk_71
  split <;> first | decide +kernel | rfl
/-- SluiceLogs$World.worthOf(I)I -/
def bk_72 : Nat → List Ins := fun t => match t with
  | 0 => [(.aload_n 0, 0, 0, 0, 0), (.iload_n 1, 1, 0, 0, 0), (.invokevirtual 61, 76, 107, 1, 2), (.bipush 99, 0, 0, 0, 0), (.aload_n 0, 0, 0, 0, 0), (.iconst 1, 0, 0, 0, 0), (.invokevirtual 65, 79, 107, 1, 5), (.invokestatic 69, 75, 0, 2, 2), (.ireturn, 0, 0, 0, 0)]
  | _ => []
set_option maxRecDepth 20000 in
theorem ck_72 : ∀ t, chkL 72 t (bk_72 t) = true := by
  intro t
  unfold bk_72
  split <;> first | decide +kernel | rfl
/-- SluiceLogs$World.costsOf(I)I -/
def bk_73 : Nat → List Ins := fun t => match t with
  | 0 => [(.aload_n 0, 0, 0, 0, 0), (.iload_n 1, 1, 0, 0, 0), (.invokevirtual 73, 77, 107, 1, 2), (.bipush 99, 0, 0, 0, 0), (.aload_n 0, 0, 0, 0, 0), (.iconst 2, 0, 0, 0, 0), (.invokevirtual 65, 79, 107, 1, 5), (.invokestatic 69, 75, 0, 2, 2), (.ireturn, 0, 0, 0, 0)]
  | _ => []
set_option maxRecDepth 20000 in
theorem ck_73 : ∀ t, chkL 73 t (bk_73 t) = true := by
  intro t
  unfold bk_73
  split <;> first | decide +kernel | rfl
/-- SluiceLogs$World.siltsOf(I)I -/
def bk_74 : Nat → List Ins := fun t => match t with
  | 0 => [(.aload_n 0, 0, 0, 0, 0), (.iload_n 1, 1, 0, 0, 0), (.invokevirtual 73, 77, 107, 1, 2), (.bipush 100, 0, 0, 0, 0), (.aload_n 0, 0, 0, 0, 0), (.iconst 3, 0, 0, 0, 0), (.invokevirtual 65, 79, 107, 1, 5), (.invokestatic 69, 75, 0, 2, 2), (.ireturn, 0, 0, 0, 0)]
  | _ => []
set_option maxRecDepth 20000 in
theorem ck_74 : ∀ t, chkL 74 t (bk_74 t) = true := by
  intro t
  unfold bk_74
  split <;> first | decide +kernel | rfl
/-- SluiceLogs$World.heldTo(II)I -/
def bk_75 : Nat → List Ins := fun t => match t with
  | 0 => [(.iconst 0, 0, 0, 0, 0), (.iload_n 0, 0, 0, 0, 0), (.iload_n 1, 1, 0, 0, 0), (.invokestatic 76, 286, 0, 2, 2), (.invokestatic 81, 285, 0, 2, 2), (.ireturn, 0, 0, 0, 0)]
  | _ => []
set_option maxRecDepth 20000 in
theorem ck_75 : ∀ t, chkL 75 t (bk_75 t) = true := by
  intro t
  unfold bk_75
  split <;> first | decide +kernel | rfl
/-- SluiceLogs$World.lookAtField(I)V -/
def bk_76 : Nat → List Ins := fun t => match t with
  | 0 => [(.aload_n 0, 0, 0, 0, 0), (.getfield 27, 7, 3, 2, 0), (.iconst 0, 0, 0, 0, 0), (.aload_n 0, 0, 0, 0, 0), (.getfield 21, 7, 2, 2, 0), (.getfield 84, 6, 7, 2, 0), (.iload_n 1, 1, 0, 0, 0), (.iaload, 0, 0, 0, 0), (.iastore, 0, 0, 0, 0), (.aload_n 0, 0, 0, 0, 0), (.getfield 27, 7, 3, 2, 0), (.iconst 1, 0, 0, 0, 0), (.aload_n 0, 0, 0, 0, 0), (.getfield 34, 7, 0, 2, 0), (.getfield 87, 1, 6, 2, 0), (.iload_n 1, 1, 0, 0, 0), (.iaload, 0, 0, 0, 0), (.iastore, 0, 0, 0, 0), (.aload_n 0, 0, 0, 0, 0), (.getfield 27, 7, 3, 2, 0), (.iconst 2, 0, 0, 0, 0), (.aload_n 0, 0, 0, 0, 0), (.iload_n 1, 1, 0, 0, 0), (.invokevirtual 90, 67, 107, 1, 4), (.iastore, 0, 0, 0, 0), (.aload_n 0, 0, 0, 0, 0), (.getfield 27, 7, 3, 2, 0), (.iconst 3, 0, 0, 0, 0), (.aload_n 0, 0, 0, 0, 0), (.getfield 12, 7, 1, 2, 0), (.getfield 93, 3, 3, 2, 0), (.iload_n 1, 1, 0, 0, 0), (.iaload, 0, 0, 0, 0), (.iastore, 0, 0, 0, 0), (.aload_n 0, 0, 0, 0, 0), (.getfield 27, 7, 3, 2, 0), (.bipush 6, 0, 0, 0, 0), (.aload_n 0, 0, 0, 0, 0), (.getfield 12, 7, 1, 2, 0), (.getfield 55, 3, 2, 2, 0), (.iload_n 1, 1, 0, 0, 0), (.iaload, 0, 0, 0, 0), (.iastore, 0, 0, 0, 0), (.aload_n 0, 0, 0, 0, 0), (.iload_n 1, 1, 0, 0, 0), (.invokevirtual 96, 78, 107, 1, 2), (.return_, 0, 0, 0, 0)]
  | _ => []
set_option maxRecDepth 20000 in
theorem ck_76 : ∀ t, chkL 76 t (bk_76 t) = true := by
  intro t
  unfold bk_76
  split <;> first | decide +kernel | rfl
/-- SluiceLogs$World.lookAtNotch(I)V -/
def bk_77 : Nat → List Ins := fun t => match t with
  | 0 => [(.aload_n 0, 0, 0, 0, 0), (.getfield 27, 7, 3, 2, 0), (.iconst 0, 0, 0, 0, 0), (.iconst 0, 0, 0, 0, 0), (.iastore, 0, 0, 0, 0), (.aload_n 0, 0, 0, 0, 0), (.getfield 27, 7, 3, 2, 0), (.iconst 1, 0, 0, 0, 0), (.iconst 0, 0, 0, 0, 0), (.iastore, 0, 0, 0, 0), (.aload_n 0, 0, 0, 0, 0), (.getfield 27, 7, 3, 2, 0), (.iconst 2, 0, 0, 0, 0), (.aload_n 0, 0, 0, 0, 0), (.getfield 12, 7, 1, 2, 0), (.getfield 49, 3, 0, 2, 0), (.iload_n 1, 1, 0, 0, 0), (.iaload, 0, 0, 0, 0), (.iastore, 0, 0, 0, 0), (.aload_n 0, 0, 0, 0, 0), (.getfield 27, 7, 3, 2, 0), (.iconst 3, 0, 0, 0, 0), (.iconst 0, 0, 0, 0, 0), (.iastore, 0, 0, 0, 0), (.aload_n 0, 0, 0, 0, 0), (.getfield 27, 7, 3, 2, 0), (.bipush 6, 0, 0, 0, 0), (.iconst 0, 0, 0, 0, 0), (.iastore, 0, 0, 0, 0), (.aload_n 0, 0, 0, 0, 0), (.iload_n 1, 1, 0, 0, 0), (.invokevirtual 96, 78, 107, 1, 2), (.return_, 0, 0, 0, 0)]
  | _ => []
set_option maxRecDepth 20000 in
theorem ck_77 : ∀ t, chkL 77 t (bk_77 t) = true := by
  intro t
  unfold bk_77
  split <;> first | decide +kernel | rfl
/-- SluiceLogs$World.lookAround(I)V -/
def bk_78 : Nat → List Ins := fun t => match t with
  | 0 => [(.aload_n 0, 0, 0, 0, 0), (.getfield 27, 7, 3, 2, 0), (.iconst 4, 0, 0, 0, 0), (.aload_n 0, 0, 0, 0, 0), (.getfield 12, 7, 1, 2, 0), (.getfield 99, 3, 5, 0, 0), (.iastore, 0, 0, 0, 0), (.aload_n 0, 0, 0, 0, 0), (.getfield 27, 7, 3, 2, 0), (.iconst 5, 0, 0, 0, 0), (.iload_n 1, 1, 0, 0, 0), (.iastore, 0, 0, 0, 0), (.aload_n 0, 0, 0, 0, 0), (.getfield 27, 7, 3, 2, 0), (.bipush 7, 0, 0, 0, 0), (.aload_n 0, 0, 0, 0, 0), (.getfield 34, 7, 0, 2, 0), (.getfield 102, 1, 0, 0, 0), (.iastore, 0, 0, 0, 0), (.aload_n 0, 0, 0, 0, 0), (.getfield 27, 7, 3, 2, 0), (.bipush 8, 0, 0, 0, 0), (.aload_n 0, 0, 0, 0, 0), (.getfield 34, 7, 0, 2, 0), (.getfield 105, 1, 1, 0, 0), (.iastore, 0, 0, 0, 0), (.return_, 0, 0, 0, 0)]
  | _ => []
set_option maxRecDepth 20000 in
theorem ck_78 : ∀ t, chkL 78 t (bk_78 t) = true := by
  intro t
  unfold bk_78
  split <;> first | decide +kernel | rfl
/-- SluiceLogs$World.valueOf(I)I -/
def bk_79 : Nat → List Ins := fun t => match t with
  | 0 => [(.iconst 0, 0, 0, 0, 0), (.istore_n 2, 2, 0, 0, 0), (.aload_n 0, 0, 0, 0, 0), (.getfield 34, 7, 0, 2, 0), (.getfield 108, 1, 9, 2, 0), (.iload_n 1, 1, 0, 0, 0), (.iaload, 0, 0, 0, 0), (.istore_n 3, 3, 0, 0, 0)]
  | 12 => [(.iload_n 3, 3, 0, 0, 0), (.aload_n 0, 0, 0, 0, 0), (.getfield 34, 7, 0, 2, 0), (.getfield 111, 1, 11, 0, 0), (.if_icmp .ge 203, 223, 0, 0, 0), (.aload_n 0, 0, 0, 0, 0), (.getfield 34, 7, 0, 2, 0), (.getfield 114, 1, 10, 2, 0), (.iload_n 3, 3, 0, 0, 0), (.iaload, 0, 0, 0, 0), (.istore 4, 4, 0, 0, 0), (.iload 4, 4, 0, 0, 0), (.sipush 20000, 0, 0, 0, 0), (.if_icmp .ge 39, 78, 0, 0, 0), (.aload_n 0, 0, 0, 0, 0), (.getfield 31, 7, 4, 2, 0), (.iload_n 2, 2, 0, 0, 0), (.iload 4, 4, 0, 0, 0), (.sipush 10000, 0, 0, 0, 0), (.if_icmp .ge 8, 60, 0, 0, 0), (.iload 4, 4, 0, 0, 0), (.goto 14, 71, 0, 0, 0)]
  | 60 => [(.aload_n 0, 0, 0, 0, 0), (.getfield 27, 7, 3, 2, 0), (.iload 4, 4, 0, 0, 0), (.sipush 10000, 0, 0, 0, 0), (.isub, 0, 0, 0, 0), (.iaload, 0, 0, 0, 0)]
  | 71 => [(.iastore, 0, 0, 0, 0), (.iinc 2 1, 2, 0, 0, 0), (.goto 142, 217, 0, 0, 0)]
  | 78 => [(.iload 4, 4, 0, 0, 0), (.sipush 20005, 0, 0, 0, 0), (.if_icmp .eq 11, 94, 0, 0, 0), (.iload 4, 4, 0, 0, 0), (.sipush 20006, 0, 0, 0, 0), (.if_icmp .ne 20, 111, 0, 0, 0)]
  | 94 => [(.iload_n 2, 2, 0, 0, 0), (.ifCond .le 14, 109, 0, 0, 0), (.aload_n 0, 0, 0, 0, 0), (.getfield 31, 7, 4, 2, 0), (.iload_n 2, 2, 0, 0, 0), (.iconst 1, 0, 0, 0, 0), (.isub, 0, 0, 0, 0), (.iaload, 0, 0, 0, 0), (.goto 4, 110, 0, 0, 0)]
  | 109 => [(.iconst 0, 0, 0, 0, 0)]
  | 110 => [(.ireturn, 0, 0, 0, 0)]
  | 111 => [(.iload_n 2, 2, 0, 0, 0), (.iconst 2, 0, 0, 0, 0), (.if_icmp .ge 5, 118, 0, 0, 0), (.iconst 0, 0, 0, 0, 0), (.ireturn, 0, 0, 0, 0)]
  | 118 => [(.iload 4, 4, 0, 0, 0), (.sipush 20004, 0, 0, 0, 0), (.if_icmp .ne 43, 166, 0, 0, 0), (.iinc 2 (-2), 2, 0, 0, 0), (.aload_n 0, 0, 0, 0, 0), (.getfield 31, 7, 4, 2, 0), (.iload_n 2, 2, 0, 0, 0), (.iaload, 0, 0, 0, 0), (.aload_n 0, 0, 0, 0, 0), (.getfield 31, 7, 4, 2, 0), (.iload_n 2, 2, 0, 0, 0), (.iconst 1, 0, 0, 0, 0), (.iadd, 0, 0, 0, 0), (.iaload, 0, 0, 0, 0), (.if_icmp .ge 7, 150, 0, 0, 0), (.iload_n 3, 3, 0, 0, 0), (.goto 15, 162, 0, 0, 0)]
  | 150 => [(.iload_n 3, 3, 0, 0, 0), (.aload_n 0, 0, 0, 0, 0), (.getfield 34, 7, 0, 2, 0), (.iload_n 3, 3, 0, 0, 0), (.invokevirtual 117, 7, 101, 1, 3), (.invokestatic 81, 285, 0, 2, 2)]
  | 162 => [(.istore_n 3, 3, 0, 0, 0), (.goto 54, 217, 0, 0, 0)]
  | 166 => [(.iload 4, 4, 0, 0, 0), (.sipush 20003, 0, 0, 0, 0), (.if_icmp .ne 16, 187, 0, 0, 0), (.aload_n 0, 0, 0, 0, 0), (.getfield 31, 7, 4, 2, 0), (.iload_n 2, 2, 0, 0, 0), (.iconst 1, 0, 0, 0, 0), (.isub, 0, 0, 0, 0), (.iaload, 0, 0, 0, 0), (.ifCond .ne 5, 187, 0, 0, 0), (.iconst 0, 0, 0, 0, 0), (.ireturn, 0, 0, 0, 0)]
  | 187 => [(.iinc 2 (-1), 2, 0, 0, 0), (.aload_n 0, 0, 0, 0, 0), (.getfield 31, 7, 4, 2, 0), (.iload_n 2, 2, 0, 0, 0), (.iconst 1, 0, 0, 0, 0), (.isub, 0, 0, 0, 0), (.aload_n 0, 0, 0, 0, 0), (.getfield 31, 7, 4, 2, 0), (.iload_n 2, 2, 0, 0, 0), (.iconst 1, 0, 0, 0, 0), (.isub, 0, 0, 0, 0), (.iaload, 0, 0, 0, 0), (.iload 4, 4, 0, 0, 0), (.aload_n 0, 0, 0, 0, 0), (.getfield 31, 7, 4, 2, 0), (.iload_n 2, 2, 0, 0, 0), (.iaload, 0, 0, 0, 0), (.invokestatic 120, 80, 0, 3, 3), (.iastore, 0, 0, 0, 0)]
  | 217 => [(.iinc 3 1, 3, 0, 0, 0), (.goto (-208), 12, 0, 0, 0)]
  | 223 => [(.iconst 0, 0, 0, 0, 0), (.ireturn, 0, 0, 0, 0)]
  | _ => []
set_option maxRecDepth 20000 in
theorem ck_79 : ∀ t, chkL 79 t (bk_79 t) = true := by
  intro t
  unfold bk_79
  split <;> first | decide +kernel | rfl
/-- SluiceLogs$World.joined(III)I -/
def bk_80 : Nat → List Ins := fun t => match t with
  | 0 => [(.iload_n 1, 1, 0, 0, 0), (.tableswitch 39 20000 20002 #[27, 31, 35], 0, 0, 0, 0)]
  | 28 => [(.iload_n 0, 0, 0, 0, 0), (.iload_n 2, 2, 0, 0, 0), (.iadd, 0, 0, 0, 0), (.ireturn, 0, 0, 0, 0)]
  | 32 => [(.iload_n 0, 0, 0, 0, 0), (.iload_n 2, 2, 0, 0, 0), (.isub, 0, 0, 0, 0), (.ireturn, 0, 0, 0, 0)]
  | 36 => [(.iload_n 0, 0, 0, 0, 0), (.iload_n 2, 2, 0, 0, 0), (.imul, 0, 0, 0, 0), (.ireturn, 0, 0, 0, 0)]
  | 40 => [(.iload_n 2, 2, 0, 0, 0), (.ifCond .ne 7, 48, 0, 0, 0), (.iconst 0, 0, 0, 0, 0), (.goto 6, 51, 0, 0, 0)]
  | 48 => [(.iload_n 0, 0, 0, 0, 0), (.iload_n 2, 2, 0, 0, 0), (.idiv, 0, 0, 0, 0)]
  | 51 => [(.ireturn, 0, 0, 0, 0)]
  | _ => []
set_option maxRecDepth 20000 in
theorem ck_80 : ∀ t, chkL 80 t (bk_80 t) = true := by
  intro t
  unfold bk_80
  split <;> first | decide +kernel | rfl
/-- SluiceLogs$World.lacks(I)Z -/
def bk_81 : Nat → List Ins := fun t => match t with
  | 0 => [(.aload_n 0, 0, 0, 0, 0), (.getfield 21, 7, 2, 2, 0), (.getfield 84, 6, 7, 2, 0), (.iload_n 1, 1, 0, 0, 0), (.iaload, 0, 0, 0, 0), (.aload_n 0, 0, 0, 0, 0), (.iload_n 1, 1, 0, 0, 0), (.invokevirtual 124, 71, 107, 1, 2), (.if_icmp .ge 7, 21, 0, 0, 0), (.iconst 1, 0, 0, 0, 0), (.goto 4, 22, 0, 0, 0)]
  | 21 => [(.iconst 0, 0, 0, 0, 0)]
  | 22 => [(.ireturn, 3, 0, 0, 0)]
  | _ => []
set_option maxRecDepth 20000 in
theorem ck_81 : ∀ t, chkL 81 t (bk_81 t) = true := by
  intro t
  unfold bk_81
  split <;> first | decide +kernel | rfl
/-- SluiceLogs$World.lackingFields()I -/
def bk_82 : Nat → List Ins := fun t => match t with
  | 0 => [(.iconst 0, 0, 0, 0, 0), (.istore_n 1, 1, 0, 0, 0), (.iconst 0, 0, 0, 0, 0), (.istore_n 2, 2, 0, 0, 0)]
  | 4 => [(.iload_n 2, 2, 0, 0, 0), (.aload_n 0, 0, 0, 0, 0), (.getfield 34, 7, 0, 2, 0), (.getfield 105, 1, 1, 0, 0), (.if_icmp .ge 23, 35, 0, 0, 0), (.aload_n 0, 0, 0, 0, 0), (.iload_n 2, 2, 0, 0, 0), (.invokevirtual 127, 81, 107, 1, 2), (.ifCond .eq 9, 29, 0, 0, 0), (.iload_n 1, 1, 0, 0, 0), (.iconst 1, 0, 0, 0, 0), (.iload_n 2, 2, 0, 0, 0), (.ishl, 0, 0, 0, 0), (.ior, 0, 0, 0, 0), (.istore_n 1, 1, 0, 0, 0)]
  | 29 => [(.iinc 2 1, 2, 0, 0, 0), (.goto (-28), 4, 0, 0, 0)]
  | 35 => [(.iload_n 1, 1, 0, 0, 0), (.ireturn, 0, 0, 0, 0)]
  | _ => []
set_option maxRecDepth 20000 in
theorem ck_82 : ∀ t, chkL 82 t (bk_82 t) = true := by
  intro t
  unfold bk_82
  split <;> first | decide +kernel | rfl
/-- SluiceLogs$World.lacksSomewhere()Z -/
def bk_83 : Nat → List Ins := fun t => match t with
  | 0 => [(.iconst 0, 0, 0, 0, 0), (.istore_n 1, 1, 0, 0, 0)]
  | 2 => [(.iload_n 1, 1, 0, 0, 0), (.aload_n 0, 0, 0, 0, 0), (.getfield 34, 7, 0, 2, 0), (.getfield 105, 1, 1, 0, 0), (.if_icmp .ge 28, 38, 0, 0, 0), (.aload_n 0, 0, 0, 0, 0), (.getfield 21, 7, 2, 2, 0), (.getfield 84, 6, 7, 2, 0), (.iload_n 1, 1, 0, 0, 0), (.iaload, 0, 0, 0, 0), (.aload_n 0, 0, 0, 0, 0), (.iload_n 1, 1, 0, 0, 0), (.invokevirtual 124, 71, 107, 1, 2), (.if_icmp .ge 5, 32, 0, 0, 0), (.iconst 1, 0, 0, 0, 0), (.ireturn, 3, 0, 0, 0)]
  | 32 => [(.iinc 1 1, 1, 0, 0, 0), (.goto (-33), 2, 0, 0, 0)]
  | 38 => [(.iconst 0, 0, 0, 0, 0), (.ireturn, 3, 0, 0, 0)]
  | _ => []
set_option maxRecDepth 20000 in
theorem ck_83 : ∀ t, chkL 83 t (bk_83 t) = true := by
  intro t
  unfold bk_83
  split <;> first | decide +kernel | rfl
/-- SluiceLogs$World.grownOfAll()I -/
def bk_84 : Nat → List Ins := fun t => match t with
  | 0 => [(.iconst 0, 0, 0, 0, 0), (.istore_n 1, 1, 0, 0, 0), (.iconst 0, 0, 0, 0, 0), (.istore_n 2, 2, 0, 0, 0)]
  | 4 => [(.iload_n 2, 2, 0, 0, 0), (.aload_n 0, 0, 0, 0, 0), (.getfield 34, 7, 0, 2, 0), (.getfield 105, 1, 1, 0, 0), (.if_icmp .ge 21, 33, 0, 0, 0), (.iload_n 1, 1, 0, 0, 0), (.aload_n 0, 0, 0, 0, 0), (.getfield 12, 7, 1, 2, 0), (.getfield 93, 3, 3, 2, 0), (.iload_n 2, 2, 0, 0, 0), (.iaload, 0, 0, 0, 0), (.iadd, 0, 0, 0, 0), (.istore_n 1, 1, 0, 0, 0), (.iinc 2 1, 2, 0, 0, 0), (.goto (-26), 4, 0, 0, 0)]
  | 33 => [(.iload_n 1, 1, 0, 0, 0), (.ireturn, 0, 0, 0, 0)]
  | _ => []
set_option maxRecDepth 20000 in
theorem ck_84 : ∀ t, chkL 84 t (bk_84 t) = true := by
  intro t
  unfold bk_84
  split <;> first | decide +kernel | rfl
/-- SluiceLogs$World.passDays(IIZ)V -/
def bk_85 : Nat → List Ins := fun t => match t with
  | 0 => [(.iconst 0, 0, 0, 0, 0), (.istore 4, 4, 0, 0, 0)]
  | 3 => [(.iload 4, 4, 0, 0, 0), (.iload_n 1, 1, 0, 0, 0), (.if_icmp .ge 54, 60, 0, 0, 0), (.aload_n 0, 0, 0, 0, 0), (.invokevirtual 131, 86, 107, 0, 2), (.iload_n 3, 3, 0, 0, 0), (.ifCond .eq 15, 29, 0, 0, 0), (.aload_n 0, 0, 0, 0, 0), (.iload_n 2, 2, 0, 0, 0), (.invokevirtual 134, 87, 107, 1, 4), (.ifCond .eq 7, 29, 0, 0, 0), (.iconst 1, 0, 0, 0, 0), (.goto 4, 30, 0, 0, 0)]
  | 29 => [(.iconst 0, 0, 0, 0, 0)]
  | 30 => [(.istore 5, 5, 0, 0, 0), (.aload_n 0, 0, 0, 0, 0), (.getfield 12, 7, 1, 2, 0), (.dup, 0, 0, 0, 0), (.getfield 99, 3, 5, 0, 0), (.iconst 1, 0, 0, 0, 0), (.iadd, 0, 0, 0, 0), (.putfield 99, 3, 5, 0, 0), (.iload 5, 5, 0, 0, 0), (.ifCond .eq 7, 54, 0, 0, 0), (.aload_n 0, 0, 0, 0, 0), (.invokevirtual 137, 65, 107, 0, 1)]
  | 54 => [(.iinc 4 1, 4, 0, 0, 0), (.goto (-54), 3, 0, 0, 0)]
  | 60 => [(.return_, 0, 0, 0, 0)]
  | _ => []
set_option maxRecDepth 20000 in
theorem ck_85 : ∀ t, chkL 85 t (bk_85 t) = true := by
  intro t
  unfold bk_85
  split <;> first | decide +kernel | rfl
/-- SluiceLogs$World.grow()V -/
def bk_86 : Nat → List Ins := fun t => match t with
  | 0 => [(.iconst 0, 0, 0, 0, 0), (.istore_n 1, 1, 0, 0, 0)]
  | 2 => [(.iload_n 1, 1, 0, 0, 0), (.aload_n 0, 0, 0, 0, 0), (.getfield 34, 7, 0, 2, 0), (.getfield 105, 1, 1, 0, 0), (.if_icmp .ge 39, 49, 0, 0, 0), (.aload_n 0, 0, 0, 0, 0), (.getfield 12, 7, 1, 2, 0), (.getfield 93, 3, 3, 2, 0), (.iload_n 1, 1, 0, 0, 0), (.sipush 9999, 0, 0, 0, 0), (.aload_n 0, 0, 0, 0, 0), (.getfield 12, 7, 1, 2, 0), (.getfield 93, 3, 3, 2, 0), (.iload_n 1, 1, 0, 0, 0), (.iaload, 0, 0, 0, 0), (.aload_n 0, 0, 0, 0, 0), (.iload_n 1, 1, 0, 0, 0), (.invokevirtual 140, 72, 107, 1, 2), (.iadd, 0, 0, 0, 0), (.invokestatic 76, 286, 0, 2, 2), (.iastore, 0, 0, 0, 0), (.iinc 1 1, 1, 0, 0, 0), (.goto (-44), 2, 0, 0, 0)]
  | 49 => [(.return_, 0, 0, 0, 0)]
  | _ => []
set_option maxRecDepth 20000 in
theorem ck_86 : ∀ t, chkL 86 t (bk_86 t) = true := by
  intro t
  unfold bk_86
  split <;> first | decide +kernel | rfl
/-- SluiceLogs$World.silt(I)Z -/
def bk_87 : Nat → List Ins := fun t => match t with
  | 0 => [(.iconst 0, 0, 0, 0, 0), (.istore_n 2, 2, 0, 0, 0), (.iconst 0, 0, 0, 0, 0), (.istore_n 3, 3, 0, 0, 0)]
  | 4 => [(.iload_n 3, 3, 0, 0, 0), (.aload_n 0, 0, 0, 0, 0), (.getfield 34, 7, 0, 2, 0), (.getfield 42, 1, 2, 0, 0), (.if_icmp .ge 62, 74, 0, 0, 0), (.aload_n 0, 0, 0, 0, 0), (.getfield 12, 7, 1, 2, 0), (.getfield 49, 3, 0, 2, 0), (.iload_n 3, 3, 0, 0, 0), (.iaload, 0, 0, 0, 0), (.ifCond .le 44, 68, 0, 0, 0), (.bipush 100, 0, 0, 0, 0), (.iload_n 1, 1, 0, 0, 0), (.bipush 16, 0, 0, 0, 0), (.aload_n 0, 0, 0, 0, 0), (.getfield 12, 7, 1, 2, 0), (.getfield 99, 3, 5, 0, 0), (.imul, 0, 0, 0, 0), (.iload_n 3, 3, 0, 0, 0), (.iadd, 0, 0, 0, 0), (.invokestatic 143, 88, 0, 3, 4), (.aload_n 0, 0, 0, 0, 0), (.iload_n 3, 3, 0, 0, 0), (.invokevirtual 146, 74, 107, 1, 2), (.if_icmp .ge 18, 68, 0, 0, 0), (.aload_n 0, 0, 0, 0, 0), (.getfield 12, 7, 1, 2, 0), (.getfield 49, 3, 0, 2, 0), (.iload_n 3, 3, 0, 0, 0), (.dup2, 0, 0, 0, 0), (.iaload, 0, 0, 0, 0), (.iconst 1, 0, 0, 0, 0), (.isub, 0, 0, 0, 0), (.iastore, 0, 0, 0, 0), (.iconst 1, 0, 0, 0, 0), (.istore_n 2, 2, 0, 0, 0)]
  | 68 => [(.iinc 3 1, 3, 0, 0, 0), (.goto (-67), 4, 0, 0, 0)]
  | 74 => [(.iload_n 2, 2, 0, 0, 0), (.ireturn, 3, 0, 0, 0)]
  | _ => []
set_option maxRecDepth 20000 in
theorem ck_87 : ∀ t, chkL 87 t (bk_87 t) = true := by
  intro t
  unfold bk_87
  split <;> first | decide +kernel | rfl
/-- SluiceLogs$World.lot(III)I -/
def bk_88 : Nat → List Ins := fun t => match t with
  | 0 => [(.iload_n 1, 1, 0, 0, 0), (.sipush 217, 0, 0, 0, 0), (.invokestatic 149, 89, 0, 2, 3), (.iload_n 2, 2, 0, 0, 0), (.invokestatic 149, 89, 0, 2, 3), (.istore_n 3, 3, 0, 0, 0), (.iload_n 0, 0, 0, 0, 0), (.ifCond .le 11, 24, 0, 0, 0), (.iload_n 3, 3, 0, 0, 0), (.iconst 1, 0, 0, 0, 0), (.iushr, 0, 0, 0, 0), (.iload_n 0, 0, 0, 0, 0), (.irem, 0, 0, 0, 0), (.goto 4, 25, 0, 0, 0)]
  | 24 => [(.iconst 0, 0, 0, 0, 0)]
  | 25 => [(.ireturn, 0, 0, 0, 0)]
  | _ => []
set_option maxRecDepth 20000 in
theorem ck_88 : ∀ t, chkL 88 t (bk_88 t) = true := by
  intro t
  unfold bk_88
  split <;> first | decide +kernel | rfl
/-- SluiceLogs$World.mixed(II)I -/
def bk_89 : Nat → List Ins := fun t => match t with
  | 0 => [(.iload_n 0, 0, 0, 0, 0), (.iload_n 1, 1, 0, 0, 0), (.ixor, 0, 0, 0, 0), (.ldc 152, 1103515245, 0, 0, 0), (.imul, 0, 0, 0, 0), (.sipush 12345, 0, 0, 0, 0), (.iadd, 0, 0, 0, 0), (.istore_n 2, 2, 0, 0, 0), (.iload_n 2, 2, 0, 0, 0), (.iload_n 2, 2, 0, 0, 0), (.bipush 15, 0, 0, 0, 0), (.iushr, 0, 0, 0, 0), (.ixor, 0, 0, 0, 0), (.ireturn, 0, 0, 0, 0)]
  | _ => []
set_option maxRecDepth 20000 in
theorem ck_89 : ∀ t, chkL 89 t (bk_89 t) = true := by
  intro t
  unfold bk_89
  split <;> first | decide +kernel | rfl

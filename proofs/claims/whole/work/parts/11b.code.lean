/-- SluiceLogs.<init>()V -/
def bk_90 : Nat → List Ins := fun t => match t with
  | 0 => [(.aload_n 0, 0, 0, 0, 0), (.invokespecial 1, 0, 4, 0, 0), (.aload_n 0, 0, 0, 0, 0), (.sipush 2000, 0, 0, 0, 0), (.newarray .byte, 11, 0, 0, 0), (.putfield 9, 8, 0, 2, 0), (.aload_n 0, 0, 0, 0, 0), (.iconst 0, 0, 0, 0, 0), (.putfield 13, 8, 1, 0, 0), (.aload_n 0, 0, 0, 0, 0), (.iconst (-1), 0, 0, 0, 0), (.putfield 17, 8, 2, 0, 0), (.aload_n 0, 0, 0, 0, 0), (.new 20, 18, 0, 0, 0), (.dup, 0, 0, 0, 0), (.invokespecial 22, 3, 3, 0, 1), (.putfield 23, 8, 3, 2, 0), (.aload_n 0, 0, 0, 0, 0), (.new 20, 18, 0, 0, 0), (.dup, 0, 0, 0, 0), (.invokespecial 22, 3, 3, 0, 1), (.putfield 27, 8, 4, 2, 0), (.aload_n 0, 0, 0, 0, 0), (.new 30, 12, 0, 0, 0), (.dup, 0, 0, 0, 0), (.aload_n 0, 0, 0, 0, 0), (.getfield 27, 8, 4, 2, 0), (.invokespecial 32, 9, 2, 1, 2), (.putfield 35, 8, 5, 2, 0), (.aload_n 0, 0, 0, 0, 0), (.new 39, 31, 0, 0, 0), (.dup, 0, 0, 0, 0), (.aload_n 0, 0, 0, 0, 0), (.getfield 23, 8, 3, 2, 0), (.invokespecial 41, 64, 2, 1, 2), (.putfield 42, 8, 6, 2, 0), (.aload_n 0, 0, 0, 0, 0), (.new 39, 31, 0, 0, 0), (.dup, 0, 0, 0, 0), (.aload_n 0, 0, 0, 0, 0), (.getfield 23, 8, 3, 2, 0), (.invokespecial 41, 64, 2, 1, 2), (.putfield 46, 8, 7, 2, 0), (.aload_n 0, 0, 0, 0, 0), (.new 49, 44, 0, 0, 0), (.dup, 0, 0, 0, 0), (.invokespecial 51, 0, 2, 0, 2), (.putfield 52, 8, 8, 2, 0), (.aload_n 0, 0, 0, 0, 0), (.iconst 3, 0, 0, 0, 0), (.anewarray 56, 46, 0, 0, 0), (.putfield 58, 8, 9, 2, 0), (.aload_n 0, 0, 0, 0, 0), (.iconst 3, 0, 0, 0, 0), (.newarray .boolean, 47, 0, 0, 0), (.putfield 62, 8, 10, 2, 0), (.aload_n 0, 0, 0, 0, 0), (.new 66, 48, 0, 0, 0), (.dup, 0, 0, 0, 0), (.invokespecial 68, 39, 3, 0, 1), (.putfield 69, 8, 11, 2, 0), (.aload_n 0, 0, 0, 0, 0), (.bipush 24, 0, 0, 0, 0), (.bipush 6, 0, 0, 0, 0), (.multianewarray 73 2, 52, 53, 0, 0), (.putfield 75, 8, 12, 2, 0), (.aload_n 0, 0, 0, 0, 0), (.iconst 3, 0, 0, 0, 0), (.newarray .int, 54, 0, 0, 0), (.putfield 78, 8, 13, 2, 0), (.iconst 0, 0, 0, 0, 0), (.istore_n 1, 1, 0, 0, 0)]
  | 148 => [(.iload_n 1, 1, 0, 0, 0), (.iconst 3, 0, 0, 0, 0), (.if_icmp .ge 22, 172, 0, 0, 0), (.aload_n 0, 0, 0, 0, 0), (.getfield 58, 8, 9, 2, 0), (.iload_n 1, 1, 0, 0, 0), (.new 56, 26, 0, 0, 0), (.dup, 0, 0, 0, 0), (.invokespecial 82, 36, 3, 0, 1), (.aastore, 0, 0, 0, 0), (.iinc 1 1, 1, 0, 0, 0), (.goto (-21), 148, 0, 0, 0)]
  | 172 => [(.aload_n 0, 0, 0, 0, 0), (.getfield 23, 8, 3, 2, 0), (.invokevirtual 83, 4, 101, 0, 1), (.aload_n 0, 0, 0, 0, 0), (.invokevirtual 86, 95, 108, 0, 2), (.return_, 0, 0, 0, 0)]
  | _ => []
set_option maxRecDepth 20000 in
theorem ck_90 : ∀ t, chkL 90 t (bk_90 t) = true := by
  intro t
  unfold bk_90
  split <;> first | decide +kernel | rfl
def cu_90 : Nat → Option (List Nat) := fun t => match t with | 148 => some [0, 1] | _ => none
/-- SluiceLogs.feed(IIIII)I -/
def bk_91 : Nat → List Ins := fun t => match t with
  | 0 => [(.aload_n 0, 0, 0, 0, 0), (.getfield 13, 8, 1, 0, 0), (.bipush 20, 0, 0, 0, 0), (.iadd, 0, 0, 0, 0), (.sipush 2000, 0, 0, 0, 0), (.if_icmp .le 5, 15, 0, 0, 0), (.iconst (-1), 0, 0, 0, 0), (.ireturn, 0, 0, 0, 0)]
  | 15 => [(.aload_n 0, 0, 0, 0, 0), (.iload_n 1, 1, 0, 0, 0), (.invokevirtual 89, 92, 108, 1, 3), (.aload_n 0, 0, 0, 0, 0), (.iload_n 2, 2, 0, 0, 0), (.invokevirtual 89, 92, 108, 1, 3), (.aload_n 0, 0, 0, 0, 0), (.iload_n 3, 3, 0, 0, 0), (.invokevirtual 89, 92, 108, 1, 3), (.aload_n 0, 0, 0, 0, 0), (.iload 4, 4, 0, 0, 0), (.invokevirtual 89, 92, 108, 1, 3), (.aload_n 0, 0, 0, 0, 0), (.iload 5, 5, 0, 0, 0), (.invokevirtual 89, 92, 108, 1, 3), (.aload_n 0, 0, 0, 0, 0), (.getfield 13, 8, 1, 0, 0), (.ireturn, 0, 0, 0, 0)]
  | _ => []
set_option maxRecDepth 20000 in
theorem ck_91 : ∀ t, chkL 91 t (bk_91 t) = true := by
  intro t
  unfold bk_91
  split <;> first | decide +kernel | rfl
def cu_91 : Nat → Option (List Nat) := fun _ => none
/-- SluiceLogs.putOnTape(I)V -/
def bk_92 : Nat → List Ins := fun t => match t with
  | 0 => [(.bipush 24, 0, 0, 0, 0), (.istore_n 2, 2, 0, 0, 0)]
  | 3 => [(.iload_n 2, 2, 0, 0, 0), (.ifCond .lt 42, 46, 0, 0, 0), (.aload_n 0, 0, 0, 0, 0), (.getfield 13, 8, 1, 0, 0), (.sipush 2000, 0, 0, 0, 0), (.if_icmp .ge 32, 46, 0, 0, 0), (.aload_n 0, 0, 0, 0, 0), (.getfield 9, 8, 0, 2, 0), (.aload_n 0, 0, 0, 0, 0), (.getfield 13, 8, 1, 0, 0), (.iload_n 1, 1, 0, 0, 0), (.iload_n 2, 2, 0, 0, 0), (.iushr, 0, 0, 0, 0), (.i2b, 0, 0, 0, 0), (.bastore, 0, 0, 0, 0), (.aload_n 0, 0, 0, 0, 0), (.dup, 0, 0, 0, 0), (.getfield 13, 8, 1, 0, 0), (.iconst 1, 0, 0, 0, 0), (.iadd, 0, 0, 0, 0), (.putfield 13, 8, 1, 0, 0), (.iinc 2 (-8), 2, 0, 0, 0), (.goto (-40), 3, 0, 0, 0)]
  | 46 => [(.return_, 0, 0, 0, 0)]
  | _ => []
set_option maxRecDepth 20000 in
theorem ck_92 : ∀ t, chkL 92 t (bk_92 t) = true := by
  intro t
  unfold bk_92
  split <;> first | decide +kernel | rfl
def cu_92 : Nat → Option (List Nat) := fun t => match t with | 3 => some [0, 1, 2] | _ => none
/-- SluiceLogs.back(I)I -/
def bk_93 : Nat → List Ins := fun t => match t with
  | 0 => [(.iload_n 1, 1, 0, 0, 0), (.ifCond .lt 11, 12, 0, 0, 0), (.iload_n 1, 1, 0, 0, 0), (.aload_n 0, 0, 0, 0, 0), (.getfield 13, 8, 1, 0, 0), (.if_icmp .le 5, 14, 0, 0, 0)]
  | 12 => [(.iconst (-1), 0, 0, 0, 0), (.ireturn, 0, 0, 0, 0)]
  | 14 => [(.aload_n 0, 0, 0, 0, 0), (.dup, 0, 0, 0, 0), (.getfield 13, 8, 1, 0, 0), (.iload_n 1, 1, 0, 0, 0), (.isub, 0, 0, 0, 0), (.putfield 13, 8, 1, 0, 0), (.aload_n 0, 0, 0, 0, 0), (.getfield 13, 8, 1, 0, 0), (.ireturn, 0, 0, 0, 0)]
  | _ => []
set_option maxRecDepth 20000 in
theorem ck_93 : ∀ t, chkL 93 t (bk_93 t) = true := by
  intro t
  unfold bk_93
  split <;> first | decide +kernel | rfl
def cu_93 : Nat → Option (List Nat) := fun _ => none
/-- SluiceLogs.read()I -/
def bk_94 : Nat → List Ins := fun t => match t with
  | 0 => [(.aload_n 0, 0, 0, 0, 0), (.getfield 35, 8, 5, 2, 0), (.aload_n 0, 0, 0, 0, 0), (.getfield 9, 8, 0, 2, 0), (.aload_n 0, 0, 0, 0, 0), (.getfield 13, 8, 1, 0, 0), (.aload_n 0, 0, 0, 0, 0), (.getfield 27, 8, 4, 2, 0), (.invokevirtual 93, 10, 102, 3, 6), (.istore_n 1, 1, 0, 0, 0), (.aload_n 0, 0, 0, 0, 0), (.iconst 0, 0, 0, 0, 0), (.putfield 13, 8, 1, 0, 0), (.aload_n 0, 0, 0, 0, 0), (.aload_n 0, 0, 0, 0, 0), (.getfield 35, 8, 5, 2, 0), (.getfield 97, 2, 1, 0, 0), (.putfield 17, 8, 2, 0, 0), (.iload_n 1, 1, 0, 0, 0), (.ifCond .ne 25, 62, 0, 0, 0), (.aload_n 0, 0, 0, 0, 0), (.getfield 23, 8, 3, 2, 0), (.astore_n 2, 2, 0, 0, 0), (.aload_n 0, 0, 0, 0, 0), (.aload_n 0, 0, 0, 0, 0), (.getfield 27, 8, 4, 2, 0), (.putfield 23, 8, 3, 2, 0), (.aload_n 0, 0, 0, 0, 0), (.aload_n 2, 2, 0, 0, 0), (.putfield 27, 8, 4, 2, 0), (.aload_n 0, 0, 0, 0, 0), (.invokevirtual 86, 95, 108, 0, 2)]
  | 62 => [(.iload_n 1, 1, 0, 0, 0), (.ireturn, 0, 0, 0, 0)]
  | _ => []
set_option maxRecDepth 20000 in
theorem ck_94 : ∀ t, chkL 94 t (bk_94 t) = true := by
  intro t
  unfold bk_94
  split <;> first | decide +kernel | rfl
def cu_94 : Nat → Option (List Nat) := fun _ => none
/-- SluiceLogs.beginPlan()V -/
def bk_95 : Nat → List Ins := fun t => match t with
  | 0 => [(.aload_n 0, 0, 0, 0, 0), (.getfield 42, 8, 6, 2, 0), (.aload_n 0, 0, 0, 0, 0), (.getfield 23, 8, 3, 2, 0), (.putfield 100, 7, 0, 2, 0), (.aload_n 0, 0, 0, 0, 0), (.getfield 46, 8, 7, 2, 0), (.aload_n 0, 0, 0, 0, 0), (.getfield 23, 8, 3, 2, 0), (.putfield 100, 7, 0, 2, 0), (.aload_n 0, 0, 0, 0, 0), (.getfield 42, 8, 6, 2, 0), (.getfield 101, 7, 1, 2, 0), (.aload_n 0, 0, 0, 0, 0), (.getfield 23, 8, 3, 2, 0), (.getfield 105, 1, 12, 2, 0), (.invokevirtual 108, 38, 103, 1, 2), (.aload_n 0, 0, 0, 0, 0), (.getfield 42, 8, 6, 2, 0), (.invokevirtual 112, 65, 107, 0, 1), (.aload_n 0, 0, 0, 0, 0), (.getfield 52, 8, 8, 2, 0), (.iconst 0, 0, 0, 0, 0), (.putfield 115, 0, 2, 0, 0), (.aload_n 0, 0, 0, 0, 0), (.getfield 69, 8, 11, 2, 0), (.iconst 0, 0, 0, 0, 0), (.putfield 118, 4, 3, 0, 0), (.iconst 0, 0, 0, 0, 0), (.istore_n 1, 1, 0, 0, 0)]
  | 64 => [(.iload_n 1, 1, 0, 0, 0), (.iconst 3, 0, 0, 0, 0), (.if_icmp .ge 16, 82, 0, 0, 0), (.aload_n 0, 0, 0, 0, 0), (.getfield 62, 8, 10, 2, 0), (.iload_n 1, 1, 0, 0, 0), (.iconst 0, 0, 0, 0, 0), (.bastore, 0, 0, 0, 0), (.iinc 1 1, 1, 0, 0, 0), (.goto (-15), 64, 0, 0, 0)]
  | 82 => [(.return_, 0, 0, 0, 0)]
  | _ => []
set_option maxRecDepth 20000 in
theorem ck_95 : ∀ t, chkL 95 t (bk_95 t) = true := by
  intro t
  unfold bk_95
  split <;> first | decide +kernel | rfl
def cu_95 : Nat → Option (List Nat) := fun t => match t with | 64 => some [0, 1] | _ => none
/-- SluiceLogs.place()I -/
def bk_96 : Nat → List Ins := fun t => match t with
  | 0 => [(.aload_n 0, 0, 0, 0, 0), (.getfield 17, 8, 2, 0, 0), (.ireturn, 0, 0, 0, 0)]
  | _ => []
set_option maxRecDepth 20000 in
theorem ck_96 : ∀ t, chkL 96 t (bk_96 t) = true := by
  intro t
  unfold bk_96
  split <;> first | decide +kernel | rfl
def cu_96 : Nat → Option (List Nat) := fun _ => none
/-- SluiceLogs.log(II)I -/
def bk_97 : Nat → List Ins := fun t => match t with
  | 0 => [(.aload_n 0, 0, 0, 0, 0), (.iload_n 1, 1, 0, 0, 0), (.invokevirtual 119, 100, 108, 1, 2), (.ifCond .ne 5, 10, 0, 0, 0), (.iconst (-1), 0, 0, 0, 0), (.ireturn, 0, 0, 0, 0)]
  | 10 => [(.iload_n 2, 2, 0, 0, 0), (.tableswitch 99 0 3 #[29, 55, 81, 90], 0, 0, 0, 0)]
  | 40 => [(.aload_n 0, 0, 0, 0, 0), (.getfield 42, 8, 6, 2, 0), (.getfield 123, 7, 2, 2, 0), (.getfield 127, 6, 5, 2, 0), (.iload_n 1, 1, 0, 0, 0), (.laload, 0, 0, 0, 0), (.aload_n 0, 0, 0, 0, 0), (.getfield 42, 8, 6, 2, 0), (.getfield 123, 7, 2, 2, 0), (.getfield 133, 6, 1, 1, 0), (.invokestatic 137, 152, 0, 2, 6), (.ireturn, 0, 0, 0, 0)]
  | 66 => [(.aload_n 0, 0, 0, 0, 0), (.getfield 42, 8, 6, 2, 0), (.getfield 123, 7, 2, 2, 0), (.getfield 127, 6, 5, 2, 0), (.iload_n 1, 1, 0, 0, 0), (.laload, 0, 0, 0, 0), (.aload_n 0, 0, 0, 0, 0), (.getfield 42, 8, 6, 2, 0), (.getfield 123, 7, 2, 2, 0), (.getfield 133, 6, 1, 1, 0), (.invokestatic 141, 153, 0, 2, 6), (.ireturn, 0, 0, 0, 0)]
  | 92 => [(.aload_n 0, 0, 0, 0, 0), (.getfield 42, 8, 6, 2, 0), (.iload_n 1, 1, 0, 0, 0), (.invokevirtual 144, 66, 107, 1, 4), (.ireturn, 0, 0, 0, 0)]
  | 101 => [(.aload_n 0, 0, 0, 0, 0), (.getfield 23, 8, 3, 2, 0), (.iload_n 1, 1, 0, 0, 0), (.invokevirtual 148, 8, 101, 1, 4), (.ireturn, 0, 0, 0, 0)]
  | 110 => [(.iconst (-1), 0, 0, 0, 0), (.ireturn, 0, 0, 0, 0)]
  | _ => []
set_option maxRecDepth 20000 in
theorem ck_97 : ∀ t, chkL 97 t (bk_97 t) = true := by
  intro t
  unfold bk_97
  split <;> first | decide +kernel | rfl
def cu_97 : Nat → Option (List Nat) := fun _ => none
/-- SluiceLogs.field(II)I -/
def bk_98 : Nat → List Ins := fun t => match t with
  | 0 => [(.aload_n 0, 0, 0, 0, 0), (.iload_n 1, 1, 0, 0, 0), (.invokevirtual 151, 101, 108, 1, 2), (.ifCond .ne 5, 10, 0, 0, 0), (.iconst (-1), 0, 0, 0, 0), (.ireturn, 0, 0, 0, 0)]
  | 10 => [(.iload_n 2, 2, 0, 0, 0), (.tableswitch 194 0 9 #[53, 79, 105, 118, 128, 137, 146, 159, 172, 185], 0, 0, 0, 0)]
  | 64 => [(.aload_n 0, 0, 0, 0, 0), (.getfield 42, 8, 6, 2, 0), (.getfield 123, 7, 2, 2, 0), (.getfield 154, 6, 6, 2, 0), (.iload_n 1, 1, 0, 0, 0), (.laload, 0, 0, 0, 0), (.aload_n 0, 0, 0, 0, 0), (.getfield 42, 8, 6, 2, 0), (.getfield 123, 7, 2, 2, 0), (.getfield 133, 6, 1, 1, 0), (.invokestatic 137, 152, 0, 2, 6), (.ireturn, 0, 0, 0, 0)]
  | 90 => [(.aload_n 0, 0, 0, 0, 0), (.getfield 42, 8, 6, 2, 0), (.getfield 123, 7, 2, 2, 0), (.getfield 154, 6, 6, 2, 0), (.iload_n 1, 1, 0, 0, 0), (.laload, 0, 0, 0, 0), (.aload_n 0, 0, 0, 0, 0), (.getfield 42, 8, 6, 2, 0), (.getfield 123, 7, 2, 2, 0), (.getfield 133, 6, 1, 1, 0), (.invokestatic 141, 153, 0, 2, 6), (.ireturn, 0, 0, 0, 0)]
  | 116 => [(.aload_n 0, 0, 0, 0, 0), (.getfield 42, 8, 6, 2, 0), (.getfield 123, 7, 2, 2, 0), (.getfield 157, 6, 7, 2, 0), (.iload_n 1, 1, 0, 0, 0), (.iaload, 0, 0, 0, 0), (.ireturn, 0, 0, 0, 0)]
  | 129 => [(.aload_n 0, 0, 0, 0, 0), (.getfield 23, 8, 3, 2, 0), (.getfield 160, 1, 6, 2, 0), (.iload_n 1, 1, 0, 0, 0), (.iaload, 0, 0, 0, 0), (.ireturn, 0, 0, 0, 0)]
  | 139 => [(.aload_n 0, 0, 0, 0, 0), (.getfield 42, 8, 6, 2, 0), (.iload_n 1, 1, 0, 0, 0), (.invokevirtual 163, 71, 107, 1, 2), (.ireturn, 0, 0, 0, 0)]
  | 148 => [(.aload_n 0, 0, 0, 0, 0), (.getfield 42, 8, 6, 2, 0), (.iload_n 1, 1, 0, 0, 0), (.invokevirtual 166, 72, 107, 1, 2), (.ireturn, 0, 0, 0, 0)]
  | 157 => [(.aload_n 0, 0, 0, 0, 0), (.getfield 42, 8, 6, 2, 0), (.getfield 101, 7, 1, 2, 0), (.getfield 169, 3, 3, 2, 0), (.iload_n 1, 1, 0, 0, 0), (.iaload, 0, 0, 0, 0), (.ireturn, 0, 0, 0, 0)]
  | 170 => [(.aload_n 0, 0, 0, 0, 0), (.getfield 42, 8, 6, 2, 0), (.getfield 101, 7, 1, 2, 0), (.getfield 172, 3, 2, 2, 0), (.iload_n 1, 1, 0, 0, 0), (.iaload, 0, 0, 0, 0), (.ireturn, 0, 0, 0, 0)]
  | 183 => [(.aload_n 0, 0, 0, 0, 0), (.getfield 42, 8, 6, 2, 0), (.getfield 101, 7, 1, 2, 0), (.getfield 175, 3, 1, 2, 0), (.iload_n 1, 1, 0, 0, 0), (.iaload, 0, 0, 0, 0), (.ireturn, 0, 0, 0, 0)]
  | 196 => [(.aload_n 0, 0, 0, 0, 0), (.getfield 42, 8, 6, 2, 0), (.iload_n 1, 1, 0, 0, 0), (.invokevirtual 178, 67, 107, 1, 4), (.ireturn, 0, 0, 0, 0)]
  | 205 => [(.iconst (-1), 0, 0, 0, 0), (.ireturn, 0, 0, 0, 0)]
  | _ => []
set_option maxRecDepth 20000 in
theorem ck_98 : ∀ t, chkL 98 t (bk_98 t) = true := by
  intro t
  unfold bk_98
  split <;> first | decide +kernel | rfl
def cu_98 : Nat → Option (List Nat) := fun _ => none
/-- SluiceLogs.notch(II)I -/
def bk_99 : Nat → List Ins := fun t => match t with
  | 0 => [(.aload_n 0, 0, 0, 0, 0), (.iload_n 1, 1, 0, 0, 0), (.invokevirtual 181, 102, 108, 1, 2), (.ifCond .ne 5, 10, 0, 0, 0), (.iconst (-1), 0, 0, 0, 0), (.ireturn, 0, 0, 0, 0)]
  | 10 => [(.iload_n 2, 2, 0, 0, 0), (.tableswitch 84 0 4 #[33, 43, 53, 66, 75], 0, 0, 0, 0)]
  | 44 => [(.aload_n 0, 0, 0, 0, 0), (.getfield 23, 8, 3, 2, 0), (.getfield 184, 1, 7, 2, 0), (.iload_n 1, 1, 0, 0, 0), (.iaload, 0, 0, 0, 0), (.ireturn, 0, 0, 0, 0)]
  | 54 => [(.aload_n 0, 0, 0, 0, 0), (.getfield 23, 8, 3, 2, 0), (.getfield 187, 1, 8, 2, 0), (.iload_n 1, 1, 0, 0, 0), (.iaload, 0, 0, 0, 0), (.ireturn, 0, 0, 0, 0)]
  | 64 => [(.aload_n 0, 0, 0, 0, 0), (.getfield 42, 8, 6, 2, 0), (.getfield 101, 7, 1, 2, 0), (.getfield 190, 3, 0, 2, 0), (.iload_n 1, 1, 0, 0, 0), (.iaload, 0, 0, 0, 0), (.ireturn, 0, 0, 0, 0)]
  | 77 => [(.aload_n 0, 0, 0, 0, 0), (.getfield 42, 8, 6, 2, 0), (.iload_n 1, 1, 0, 0, 0), (.invokevirtual 193, 73, 107, 1, 2), (.ireturn, 0, 0, 0, 0)]
  | 86 => [(.aload_n 0, 0, 0, 0, 0), (.getfield 42, 8, 6, 2, 0), (.iload_n 1, 1, 0, 0, 0), (.invokevirtual 196, 74, 107, 1, 2), (.ireturn, 0, 0, 0, 0)]
  | 95 => [(.iconst (-1), 0, 0, 0, 0), (.ireturn, 0, 0, 0, 0)]
  | _ => []
set_option maxRecDepth 20000 in
theorem ck_99 : ∀ t, chkL 99 t (bk_99 t) = true := by
  intro t
  unfold bk_99
  split <;> first | decide +kernel | rfl
def cu_99 : Nat → Option (List Nat) := fun _ => none
/-- SluiceLogs.isLog(I)Z -/
def bk_100 : Nat → List Ins := fun t => match t with
  | 0 => [(.iload_n 1, 1, 0, 0, 0), (.ifCond .lt 23, 24, 0, 0, 0), (.iload_n 1, 1, 0, 0, 0), (.aload_n 0, 0, 0, 0, 0), (.getfield 23, 8, 3, 2, 0), (.getfield 199, 1, 0, 0, 0), (.if_icmp .ge 12, 24, 0, 0, 0), (.iload_n 1, 1, 0, 0, 0), (.iconst 4, 0, 0, 0, 0), (.if_icmp .ge 7, 24, 0, 0, 0), (.iconst 1, 0, 0, 0, 0), (.goto 4, 25, 0, 0, 0)]
  | 24 => [(.iconst 0, 0, 0, 0, 0)]
  | 25 => [(.ireturn, 3, 0, 0, 0)]
  | _ => []
set_option maxRecDepth 20000 in
theorem ck_100 : ∀ t, chkL 100 t (bk_100 t) = true := by
  intro t
  unfold bk_100
  split <;> first | decide +kernel | rfl
def cu_100 : Nat → Option (List Nat) := fun _ => none
/-- SluiceLogs.isField(I)Z -/
def bk_101 : Nat → List Ins := fun t => match t with
  | 0 => [(.iload_n 1, 1, 0, 0, 0), (.ifCond .lt 24, 25, 0, 0, 0), (.iload_n 1, 1, 0, 0, 0), (.aload_n 0, 0, 0, 0, 0), (.getfield 23, 8, 3, 2, 0), (.getfield 202, 1, 1, 0, 0), (.if_icmp .ge 13, 25, 0, 0, 0), (.iload_n 1, 1, 0, 0, 0), (.bipush 6, 0, 0, 0, 0), (.if_icmp .ge 7, 25, 0, 0, 0), (.iconst 1, 0, 0, 0, 0), (.goto 4, 26, 0, 0, 0)]
  | 25 => [(.iconst 0, 0, 0, 0, 0)]
  | 26 => [(.ireturn, 3, 0, 0, 0)]
  | _ => []
set_option maxRecDepth 20000 in
theorem ck_101 : ∀ t, chkL 101 t (bk_101 t) = true := by
  intro t
  unfold bk_101
  split <;> first | decide +kernel | rfl
def cu_101 : Nat → Option (List Nat) := fun _ => none
/-- SluiceLogs.isNotch(I)Z -/
def bk_102 : Nat → List Ins := fun t => match t with
  | 0 => [(.iload_n 1, 1, 0, 0, 0), (.ifCond .lt 24, 25, 0, 0, 0), (.iload_n 1, 1, 0, 0, 0), (.aload_n 0, 0, 0, 0, 0), (.getfield 23, 8, 3, 2, 0), (.getfield 205, 1, 2, 0, 0), (.if_icmp .ge 13, 25, 0, 0, 0), (.iload_n 1, 1, 0, 0, 0), (.bipush 12, 0, 0, 0, 0), (.if_icmp .ge 7, 25, 0, 0, 0), (.iconst 1, 0, 0, 0, 0), (.goto 4, 26, 0, 0, 0)]
  | 25 => [(.iconst 0, 0, 0, 0, 0)]
  | 26 => [(.ireturn, 3, 0, 0, 0)]
  | _ => []
set_option maxRecDepth 20000 in
theorem ck_102 : ∀ t, chkL 102 t (bk_102 t) = true := by
  intro t
  unfold bk_102
  split <;> first | decide +kernel | rfl
def cu_102 : Nat → Option (List Nat) := fun _ => none
/-- SluiceLogs.isFrom(III)Z -/
def bk_103 : Nat → List Ins := fun t => match t with
  | 0 => [(.iload_n 1, 1, 0, 0, 0), (.iload_n 0, 0, 0, 0, 0), (.if_icmp .lt 12, 14, 0, 0, 0), (.iload_n 1, 1, 0, 0, 0), (.iload_n 2, 2, 0, 0, 0), (.if_icmp .gt 7, 14, 0, 0, 0), (.iconst 1, 0, 0, 0, 0), (.goto 4, 15, 0, 0, 0)]
  | 14 => [(.iconst 0, 0, 0, 0, 0)]
  | 15 => [(.ireturn, 3, 0, 0, 0)]
  | _ => []
set_option maxRecDepth 20000 in
theorem ck_103 : ∀ t, chkL 103 t (bk_103 t) = true := by
  intro t
  unfold bk_103
  split <;> first | decide +kernel | rfl
def cu_103 : Nat → Option (List Nat) := fun _ => none
/-- SluiceLogs.step(IZ)I -/
def bk_104 : Nat → List Ins := fun t => match t with
  | 0 => [(.aload_n 0, 0, 0, 0, 0), (.iload_n 1, 1, 0, 0, 0), (.invokevirtual 181, 102, 108, 1, 2), (.ifCond .eq 18, 23, 0, 0, 0), (.aload_n 0, 0, 0, 0, 0), (.getfield 42, 8, 6, 2, 0), (.iload_n 1, 1, 0, 0, 0), (.iload_n 2, 2, 0, 0, 0), (.invokestatic 208, 105, 0, 2, 2), (.invokevirtual 212, 69, 107, 1, 3), (.ifCond .ne 5, 25, 0, 0, 0)]
  | 23 => [(.iconst (-1), 0, 0, 0, 0), (.ireturn, 0, 0, 0, 0)]
  | 25 => [(.aload_n 0, 0, 0, 0, 0), (.getfield 42, 8, 6, 2, 0), (.iload_n 1, 1, 0, 0, 0), (.invokevirtual 193, 73, 107, 1, 2), (.istore_n 3, 3, 0, 0, 0), (.aload_n 0, 0, 0, 0, 0), (.getfield 52, 8, 8, 2, 0), (.aload_n 0, 0, 0, 0, 0), (.getfield 42, 8, 6, 2, 0), (.getfield 101, 7, 1, 2, 0), (.invokevirtual 215, 1, 100, 1, 2), (.aload_n 0, 0, 0, 0, 0), (.getfield 42, 8, 6, 2, 0), (.iload_n 1, 1, 0, 0, 0), (.iload_n 2, 2, 0, 0, 0), (.invokestatic 208, 105, 0, 2, 2), (.invokevirtual 218, 70, 107, 1, 2), (.aload_n 0, 0, 0, 0, 0), (.getfield 42, 8, 6, 2, 0), (.getfield 101, 7, 1, 2, 0), (.dup, 0, 0, 0, 0), (.getfield 221, 3, 6, 0, 0), (.iload_n 3, 3, 0, 0, 0), (.iadd, 0, 0, 0, 0), (.putfield 221, 3, 6, 0, 0), (.aload_n 0, 0, 0, 0, 0), (.getfield 42, 8, 6, 2, 0), (.invokevirtual 112, 65, 107, 0, 1), (.iload_n 3, 3, 0, 0, 0), (.ireturn, 0, 0, 0, 0)]
  | _ => []
set_option maxRecDepth 20000 in
theorem ck_104 : ∀ t, chkL 104 t (bk_104 t) = true := by
  intro t
  unfold bk_104
  split <;> first | decide +kernel | rfl
def cu_104 : Nat → Option (List Nat) := fun _ => none
/-- SluiceLogs.stepNumber(IZ)I -/
def bk_105 : Nat → List Ins := fun t => match t with
  | 0 => [(.iconst 2, 0, 0, 0, 0), (.iload_n 0, 0, 0, 0, 0), (.imul, 0, 0, 0, 0), (.iload_n 1, 1, 0, 0, 0), (.ifCond .eq 7, 11, 0, 0, 0), (.iconst 1, 0, 0, 0, 0), (.goto 4, 12, 0, 0, 0)]
  | 11 => [(.iconst 0, 0, 0, 0, 0)]
  | 12 => [(.iadd, 0, 0, 0, 0), (.ireturn, 0, 0, 0, 0)]
  | _ => []
set_option maxRecDepth 20000 in
theorem ck_105 : ∀ t, chkL 105 t (bk_105 t) = true := by
  intro t
  unfold bk_105
  split <;> first | decide +kernel | rfl
def cu_105 : Nat → Option (List Nat) := fun _ => none
/-- SluiceLogs.drain(III)Z -/
def bk_106 : Nat → List Ins := fun t => match t with
  | 0 => [(.aload_n 0, 0, 0, 0, 0), (.iload_n 1, 1, 0, 0, 0), (.invokevirtual 151, 101, 108, 1, 2), (.ifCond .eq 20, 25, 0, 0, 0), (.aload_n 0, 0, 0, 0, 0), (.iload_n 2, 2, 0, 0, 0), (.invokevirtual 119, 100, 108, 1, 2), (.ifCond .eq 12, 25, 0, 0, 0), (.iconst 0, 0, 0, 0, 0), (.iload_n 3, 3, 0, 0, 0), (.iconst 3, 0, 0, 0, 0), (.invokestatic 224, 103, 0, 3, 3), (.ifCond .ne 5, 27, 0, 0, 0)]
  | 25 => [(.iconst 0, 0, 0, 0, 0), (.ireturn, 3, 0, 0, 0)]
  | 27 => [(.aload_n 0, 0, 0, 0, 0), (.getfield 42, 8, 6, 2, 0), (.getfield 101, 7, 1, 2, 0), (.getfield 175, 3, 1, 2, 0), (.iload_n 1, 1, 0, 0, 0), (.iaload, 0, 0, 0, 0), (.iload_n 2, 2, 0, 0, 0), (.if_icmp .ne 21, 61, 0, 0, 0), (.aload_n 0, 0, 0, 0, 0), (.getfield 42, 8, 6, 2, 0), (.getfield 101, 7, 1, 2, 0), (.getfield 172, 3, 2, 2, 0), (.iload_n 1, 1, 0, 0, 0), (.iaload, 0, 0, 0, 0), (.iload_n 3, 3, 0, 0, 0), (.if_icmp .ne 5, 61, 0, 0, 0), (.iconst 0, 0, 0, 0, 0), (.ireturn, 3, 0, 0, 0)]
  | 61 => [(.aload_n 0, 0, 0, 0, 0), (.getfield 52, 8, 8, 2, 0), (.aload_n 0, 0, 0, 0, 0), (.getfield 42, 8, 6, 2, 0), (.getfield 101, 7, 1, 2, 0), (.invokevirtual 215, 1, 100, 1, 2), (.aload_n 0, 0, 0, 0, 0), (.getfield 42, 8, 6, 2, 0), (.getfield 101, 7, 1, 2, 0), (.getfield 175, 3, 1, 2, 0), (.iload_n 1, 1, 0, 0, 0), (.iload_n 2, 2, 0, 0, 0), (.iastore, 0, 0, 0, 0), (.aload_n 0, 0, 0, 0, 0), (.getfield 42, 8, 6, 2, 0), (.getfield 101, 7, 1, 2, 0), (.getfield 172, 3, 2, 2, 0), (.iload_n 1, 1, 0, 0, 0), (.iload_n 3, 3, 0, 0, 0), (.iastore, 0, 0, 0, 0), (.aload_n 0, 0, 0, 0, 0), (.getfield 42, 8, 6, 2, 0), (.invokevirtual 112, 65, 107, 0, 1), (.iconst 1, 0, 0, 0, 0), (.ireturn, 3, 0, 0, 0)]
  | _ => []
set_option maxRecDepth 20000 in
theorem ck_106 : ∀ t, chkL 106 t (bk_106 t) = true := by
  intro t
  unfold bk_106
  split <;> first | decide +kernel | rfl
def cu_106 : Nat → Option (List Nat) := fun _ => none
/-- SluiceLogs.spring(I)Z -/
def bk_107 : Nat → List Ins := fun t => match t with
  | 0 => [(.iconst 1, 0, 0, 0, 0), (.iload_n 1, 1, 0, 0, 0), (.bipush 9, 0, 0, 0, 0), (.invokestatic 224, 103, 0, 3, 3), (.ifCond .eq 17, 24, 0, 0, 0), (.aload_n 0, 0, 0, 0, 0), (.getfield 42, 8, 6, 2, 0), (.getfield 101, 7, 1, 2, 0), (.getfield 228, 3, 4, 0, 0), (.iload_n 1, 1, 0, 0, 0), (.if_icmp .ne 5, 26, 0, 0, 0)]
  | 24 => [(.iconst 0, 0, 0, 0, 0), (.ireturn, 3, 0, 0, 0)]
  | 26 => [(.aload_n 0, 0, 0, 0, 0), (.getfield 52, 8, 8, 2, 0), (.aload_n 0, 0, 0, 0, 0), (.getfield 42, 8, 6, 2, 0), (.getfield 101, 7, 1, 2, 0), (.invokevirtual 215, 1, 100, 1, 2), (.aload_n 0, 0, 0, 0, 0), (.getfield 42, 8, 6, 2, 0), (.getfield 101, 7, 1, 2, 0), (.iload_n 1, 1, 0, 0, 0), (.putfield 228, 3, 4, 0, 0), (.aload_n 0, 0, 0, 0, 0), (.getfield 42, 8, 6, 2, 0), (.invokevirtual 112, 65, 107, 0, 1), (.iconst 1, 0, 0, 0, 0), (.ireturn, 3, 0, 0, 0)]
  | _ => []
set_option maxRecDepth 20000 in
theorem ck_107 : ∀ t, chkL 107 t (bk_107 t) = true := by
  intro t
  unfold bk_107
  split <;> first | decide +kernel | rfl
def cu_107 : Nat → Option (List Nat) := fun _ => none
/-- SluiceLogs.days(I)I -/
def bk_108 : Nat → List Ins := fun t => match t with
  | 0 => [(.iconst 0, 0, 0, 0, 0), (.iload_n 1, 1, 0, 0, 0), (.bipush 60, 0, 0, 0, 0), (.invokestatic 224, 103, 0, 3, 3), (.ifCond .ne 5, 12, 0, 0, 0), (.iconst (-1), 0, 0, 0, 0), (.ireturn, 0, 0, 0, 0)]
  | 12 => [(.iload_n 1, 1, 0, 0, 0), (.ifCond .le 33, 46, 0, 0, 0), (.aload_n 0, 0, 0, 0, 0), (.getfield 52, 8, 8, 2, 0), (.aload_n 0, 0, 0, 0, 0), (.getfield 42, 8, 6, 2, 0), (.getfield 101, 7, 1, 2, 0), (.invokevirtual 215, 1, 100, 1, 2), (.aload_n 0, 0, 0, 0, 0), (.getfield 42, 8, 6, 2, 0), (.iload_n 1, 1, 0, 0, 0), (.aload_n 0, 0, 0, 0, 0), (.getfield 23, 8, 3, 2, 0), (.getfield 231, 1, 3, 0, 0), (.iconst 1, 0, 0, 0, 0), (.invokevirtual 234, 85, 107, 3, 6)]
  | 46 => [(.aload_n 0, 0, 0, 0, 0), (.getfield 42, 8, 6, 2, 0), (.getfield 101, 7, 1, 2, 0), (.getfield 238, 3, 5, 0, 0), (.ireturn, 0, 0, 0, 0)]
  | _ => []
set_option maxRecDepth 20000 in
theorem ck_108 : ∀ t, chkL 108 t (bk_108 t) = true := by
  intro t
  unfold bk_108
  split <;> first | decide +kernel | rfl
def cu_108 : Nat → Option (List Nat) := fun _ => none
/-- SluiceLogs.undo()Z -/
def bk_109 : Nat → List Ins := fun t => match t with
  | 0 => [(.aload_n 0, 0, 0, 0, 0), (.getfield 52, 8, 8, 2, 0), (.aload_n 0, 0, 0, 0, 0), (.getfield 42, 8, 6, 2, 0), (.getfield 101, 7, 1, 2, 0), (.invokevirtual 241, 2, 100, 1, 2), (.ifCond .ne 5, 19, 0, 0, 0), (.iconst 0, 0, 0, 0, 0), (.ireturn, 3, 0, 0, 0)]
  | 19 => [(.aload_n 0, 0, 0, 0, 0), (.getfield 42, 8, 6, 2, 0), (.invokevirtual 112, 65, 107, 0, 1), (.iconst 1, 0, 0, 0, 0), (.ireturn, 3, 0, 0, 0)]
  | _ => []
set_option maxRecDepth 20000 in
theorem ck_109 : ∀ t, chkL 109 t (bk_109 t) = true := by
  intro t
  unfold bk_109
  split <;> first | decide +kernel | rfl
def cu_109 : Nat → Option (List Nat) := fun _ => none
/-- SluiceLogs.river(I)I -/
def bk_110 : Nat → List Ins := fun t => match t with
  | 0 => [(.aload_n 0, 0, 0, 0, 0), (.getfield 42, 8, 6, 2, 0), (.getfield 123, 7, 2, 2, 0), (.astore_n 2, 2, 0, 0, 0), (.iload_n 1, 1, 0, 0, 0), (.tableswitch 87 0 3 #[31, 43, 55, 71], 0, 0, 0, 0)]
  | 40 => [(.aload_n 2, 2, 0, 0, 0), (.getfield 245, 6, 2, 1, 0), (.aload_n 2, 2, 0, 0, 0), (.getfield 133, 6, 1, 1, 0), (.invokestatic 137, 152, 0, 2, 6), (.ireturn, 0, 0, 0, 0)]
  | 52 => [(.aload_n 2, 2, 0, 0, 0), (.getfield 245, 6, 2, 1, 0), (.aload_n 2, 2, 0, 0, 0), (.getfield 133, 6, 1, 1, 0), (.invokestatic 141, 153, 0, 2, 6), (.ireturn, 0, 0, 0, 0)]
  | 64 => [(.aload_n 2, 2, 0, 0, 0), (.getfield 248, 6, 3, 1, 0), (.ldc2_w 251, 4, 0, 0, 0), (.aload_n 2, 2, 0, 0, 0), (.getfield 133, 6, 1, 1, 0), (.lmul, 0, 0, 0, 0), (.invokestatic 137, 152, 0, 2, 6), (.ireturn, 0, 0, 0, 0)]
  | 80 => [(.aload_n 2, 2, 0, 0, 0), (.getfield 248, 6, 3, 1, 0), (.ldc2_w 251, 4, 0, 0, 0), (.aload_n 2, 2, 0, 0, 0), (.getfield 133, 6, 1, 1, 0), (.lmul, 0, 0, 0, 0), (.invokestatic 141, 153, 0, 2, 6), (.ireturn, 0, 0, 0, 0)]
  | 96 => [(.iconst (-1), 0, 0, 0, 0), (.ireturn, 0, 0, 0, 0)]
  | _ => []
set_option maxRecDepth 20000 in
theorem ck_110 : ∀ t, chkL 110 t (bk_110 t) = true := by
  intro t
  unfold bk_110
  split <;> first | decide +kernel | rfl
def cu_110 : Nat → Option (List Nat) := fun _ => none
/-- SluiceLogs.round()I -/
def bk_111 : Nat → List Ins := fun t => match t with
  | 0 => [(.aload_n 0, 0, 0, 0, 0), (.getfield 42, 8, 6, 2, 0), (.getfield 123, 7, 2, 2, 0), (.getfield 253, 6, 4, 1, 0), (.ldc2_w 251, 4, 0, 0, 0), (.aload_n 0, 0, 0, 0, 0), (.getfield 42, 8, 6, 2, 0), (.getfield 123, 7, 2, 2, 0), (.getfield 133, 6, 1, 1, 0), (.lmul, 0, 0, 0, 0), (.invokestatic 256, 63, 0, 2, 4), (.ireturn, 0, 0, 0, 0)]
  | _ => []
set_option maxRecDepth 20000 in
theorem ck_111 : ∀ t, chkL 111 t (bk_111 t) = true := by
  intro t
  unfold bk_111
  split <;> first | decide +kernel | rfl
def cu_111 : Nat → Option (List Nat) := fun _ => none
/-- SluiceLogs.lacking()I -/
def bk_112 : Nat → List Ins := fun t => match t with
  | 0 => [(.aload_n 0, 0, 0, 0, 0), (.getfield 42, 8, 6, 2, 0), (.invokevirtual 259, 82, 107, 0, 3), (.ireturn, 0, 0, 0, 0)]
  | _ => []
set_option maxRecDepth 20000 in
theorem ck_112 : ∀ t, chkL 112 t (bk_112 t) = true := by
  intro t
  unfold bk_112
  split <;> first | decide +kernel | rfl
def cu_112 : Nat → Option (List Nat) := fun _ => none
/-- SluiceLogs.dry()I -/
def bk_113 : Nat → List Ins := fun t => match t with
  | 0 => [(.aload_n 0, 0, 0, 0, 0), (.getfield 42, 8, 6, 2, 0), (.getfield 123, 7, 2, 2, 0), (.getfield 263, 6, 0, 0, 0), (.ifCond .eq 5, 15, 0, 0, 0), (.iconst 0, 0, 0, 0, 0), (.ireturn, 0, 0, 0, 0)]
  | 15 => [(.iconst 0, 0, 0, 0, 0), (.istore_n 1, 1, 0, 0, 0), (.iconst 0, 0, 0, 0, 0), (.istore_n 2, 2, 0, 0, 0)]
  | 19 => [(.iload_n 2, 2, 0, 0, 0), (.aload_n 0, 0, 0, 0, 0), (.getfield 23, 8, 3, 2, 0), (.getfield 202, 1, 1, 0, 0), (.if_icmp .ge 32, 59, 0, 0, 0), (.aload_n 0, 0, 0, 0, 0), (.getfield 42, 8, 6, 2, 0), (.getfield 123, 7, 2, 2, 0), (.getfield 154, 6, 6, 2, 0), (.iload_n 2, 2, 0, 0, 0), (.laload, 0, 0, 0, 0), (.lconst 0, 0, 0, 0, 0), (.lcmp, 0, 0, 0, 0), (.ifCond .ne 9, 53, 0, 0, 0), (.iload_n 1, 1, 0, 0, 0), (.iconst 1, 0, 0, 0, 0), (.iload_n 2, 2, 0, 0, 0), (.ishl, 0, 0, 0, 0), (.ior, 0, 0, 0, 0), (.istore_n 1, 1, 0, 0, 0)]
  | 53 => [(.iinc 2 1, 2, 0, 0, 0), (.goto (-37), 19, 0, 0, 0)]
  | 59 => [(.iload_n 1, 1, 0, 0, 0), (.ireturn, 0, 0, 0, 0)]
  | _ => []
set_option maxRecDepth 20000 in
theorem ck_113 : ∀ t, chkL 113 t (bk_113 t) = true := by
  intro t
  unfold bk_113
  split <;> first | decide +kernel | rfl
def cu_113 : Nat → Option (List Nat) := fun t => match t with | 19 => some [0, 1, 2] | _ => none
/-- SluiceLogs.feels(IZI)I -/
def bk_114 : Nat → List Ins := fun t => match t with
  | 0 => [(.aload_n 0, 0, 0, 0, 0), (.iload_n 1, 1, 0, 0, 0), (.invokevirtual 181, 102, 108, 1, 2), (.ifCond .eq 23, 28, 0, 0, 0), (.aload_n 0, 0, 0, 0, 0), (.iload_n 3, 3, 0, 0, 0), (.invokevirtual 151, 101, 108, 1, 2), (.ifCond .eq 15, 28, 0, 0, 0), (.aload_n 0, 0, 0, 0, 0), (.iload_n 1, 1, 0, 0, 0), (.iload_n 2, 2, 0, 0, 0), (.invokestatic 208, 105, 0, 2, 2), (.invokevirtual 267, 115, 108, 1, 2), (.ifCond .ne 5, 30, 0, 0, 0)]
  | 28 => [(.iconst (-1), 0, 0, 0, 0), (.ireturn, 0, 0, 0, 0)]
  | 30 => [(.aload_n 0, 0, 0, 0, 0), (.iload_n 3, 3, 0, 0, 0), (.invokevirtual 270, 116, 108, 1, 6), (.ireturn, 0, 0, 0, 0)]
  | _ => []
set_option maxRecDepth 20000 in
theorem ck_114 : ∀ t, chkL 114 t (bk_114 t) = true := by
  intro t
  unfold bk_114
  split <;> first | decide +kernel | rfl
def cu_114 : Nat → Option (List Nat) := fun _ => none
/-- SluiceLogs.wouldStep(I)Z -/
def bk_115 : Nat → List Ins := fun t => match t with
  | 0 => [(.aload_n 0, 0, 0, 0, 0), (.getfield 42, 8, 6, 2, 0), (.iload_n 1, 1, 0, 0, 0), (.invokevirtual 212, 69, 107, 1, 3), (.ifCond .ne 5, 13, 0, 0, 0), (.iconst 0, 0, 0, 0, 0), (.ireturn, 3, 0, 0, 0)]
  | 13 => [(.aload_n 0, 0, 0, 0, 0), (.getfield 46, 8, 7, 2, 0), (.getfield 101, 7, 1, 2, 0), (.aload_n 0, 0, 0, 0, 0), (.getfield 42, 8, 6, 2, 0), (.getfield 101, 7, 1, 2, 0), (.invokevirtual 108, 38, 103, 1, 2), (.aload_n 0, 0, 0, 0, 0), (.getfield 46, 8, 7, 2, 0), (.iload_n 1, 1, 0, 0, 0), (.invokevirtual 218, 70, 107, 1, 2), (.aload_n 0, 0, 0, 0, 0), (.getfield 46, 8, 7, 2, 0), (.invokevirtual 112, 65, 107, 0, 1), (.iconst 1, 0, 0, 0, 0), (.ireturn, 3, 0, 0, 0)]
  | _ => []
set_option maxRecDepth 20000 in
theorem ck_115 : ∀ t, chkL 115 t (bk_115 t) = true := by
  intro t
  unfold bk_115
  split <;> first | decide +kernel | rfl
def cu_115 : Nat → Option (List Nat) := fun _ => none
/-- SluiceLogs.feelsWhatWould(I)I -/
def bk_116 : Nat → List Ins := fun t => match t with
  | 0 => [(.aload_n 0, 0, 0, 0, 0), (.getfield 42, 8, 6, 2, 0), (.getfield 123, 7, 2, 2, 0), (.getfield 263, 6, 0, 0, 0), (.ifCond .ne 16, 26, 0, 0, 0), (.aload_n 0, 0, 0, 0, 0), (.getfield 46, 8, 7, 2, 0), (.getfield 123, 7, 2, 2, 0), (.getfield 263, 6, 0, 0, 0), (.ifCond .eq 5, 28, 0, 0, 0)]
  | 26 => [(.iconst 0, 0, 0, 0, 0), (.ireturn, 0, 0, 0, 0)]
  | 28 => [(.aload_n 0, 0, 0, 0, 0), (.getfield 42, 8, 6, 2, 0), (.getfield 123, 7, 2, 2, 0), (.getfield 154, 6, 6, 2, 0), (.iload_n 1, 1, 0, 0, 0), (.laload, 0, 0, 0, 0), (.aload_n 0, 0, 0, 0, 0), (.getfield 46, 8, 7, 2, 0), (.getfield 123, 7, 2, 2, 0), (.getfield 133, 6, 1, 1, 0), (.lmul, 0, 0, 0, 0), (.lstore_n 2, 2, 0, 0, 0), (.aload_n 0, 0, 0, 0, 0), (.getfield 46, 8, 7, 2, 0), (.getfield 123, 7, 2, 2, 0), (.getfield 154, 6, 6, 2, 0), (.iload_n 1, 1, 0, 0, 0), (.laload, 0, 0, 0, 0), (.aload_n 0, 0, 0, 0, 0), (.getfield 42, 8, 6, 2, 0), (.getfield 123, 7, 2, 2, 0), (.getfield 133, 6, 1, 1, 0), (.lmul, 0, 0, 0, 0), (.lstore 4, 4, 0, 0, 0), (.lload 4, 4, 0, 0, 0), (.lload_n 2, 2, 0, 0, 0), (.lcmp, 0, 0, 0, 0), (.ifCond .le 5, 86, 0, 0, 0), (.iconst 1, 0, 0, 0, 0), (.ireturn, 0, 0, 0, 0)]
  | 86 => [(.lload 4, 4, 0, 0, 0), (.lload_n 2, 2, 0, 0, 0), (.lcmp, 0, 0, 0, 0), (.ifCond .ge 7, 97, 0, 0, 0), (.iconst 2, 0, 0, 0, 0), (.goto 4, 98, 0, 0, 0)]
  | 97 => [(.iconst 0, 0, 0, 0, 0)]
  | 98 => [(.ireturn, 0, 0, 0, 0)]
  | _ => []
set_option maxRecDepth 20000 in
theorem ck_116 : ∀ t, chkL 116 t (bk_116 t) = true := by
  intro t
  unfold bk_116
  split <;> first | decide +kernel | rfl
def cu_116 : Nat → Option (List Nat) := fun _ => none
/-- SluiceLogs.feelAllSteps()V -/
def bk_117 : Nat → List Ins := fun t => match t with
  | 0 => [(.iconst 0, 0, 0, 0, 0), (.istore_n 1, 1, 0, 0, 0)]
  | 2 => [(.iload_n 1, 1, 0, 0, 0), (.bipush 24, 0, 0, 0, 0), (.if_icmp .ge 50, 55, 0, 0, 0), (.aload_n 0, 0, 0, 0, 0), (.iload_n 1, 1, 0, 0, 0), (.invokevirtual 267, 115, 108, 1, 2), (.istore_n 2, 2, 0, 0, 0), (.iconst 0, 0, 0, 0, 0), (.istore_n 3, 3, 0, 0, 0)]
  | 16 => [(.iload_n 3, 3, 0, 0, 0), (.bipush 6, 0, 0, 0, 0), (.if_icmp .ge 30, 49, 0, 0, 0), (.aload_n 0, 0, 0, 0, 0), (.getfield 75, 8, 12, 2, 0), (.iload_n 1, 1, 0, 0, 0), (.aaload, 0, 0, 0, 0), (.iload_n 3, 3, 0, 0, 0), (.iload_n 2, 2, 0, 0, 0), (.ifCond .eq 11, 41, 0, 0, 0), (.aload_n 0, 0, 0, 0, 0), (.iload_n 3, 3, 0, 0, 0), (.invokevirtual 270, 116, 108, 1, 6), (.goto 4, 42, 0, 0, 0)]
  | 41 => [(.iconst (-1), 0, 0, 0, 0)]
  | 42 => [(.iastore, 0, 0, 0, 0), (.iinc 3 1, 3, 0, 0, 0), (.goto (-30), 16, 0, 0, 0)]
  | 49 => [(.iinc 1 1, 1, 0, 0, 0), (.goto (-50), 2, 0, 0, 0)]
  | 55 => [(.return_, 0, 0, 0, 0)]
  | _ => []
set_option maxRecDepth 20000 in
theorem ck_117 : ∀ t, chkL 117 t (bk_117 t) = true := by
  intro t
  unfold bk_117
  split <;> first | decide +kernel | rfl
def cu_117 : Nat → Option (List Nat) := fun t => match t with | 2 => some [0, 1] | 16 => some [0, 1, 2, 3] | _ => none
/-- SluiceLogs.unfelt()I -/
def bk_118 : Nat → List Ins := fun t => match t with
  | 0 => [(.aload_n 0, 0, 0, 0, 0), (.invokevirtual 273, 117, 108, 0, 4), (.iconst 0, 0, 0, 0, 0), (.istore_n 1, 1, 0, 0, 0), (.iconst 0, 0, 0, 0, 0), (.istore_n 2, 2, 0, 0, 0)]
  | 8 => [(.iload_n 2, 2, 0, 0, 0), (.bipush 24, 0, 0, 0, 0), (.if_icmp .ge 34, 45, 0, 0, 0), (.aload_n 0, 0, 0, 0, 0), (.getfield 42, 8, 6, 2, 0), (.iload_n 2, 2, 0, 0, 0), (.invokevirtual 212, 69, 107, 1, 3), (.ifCond .eq 17, 39, 0, 0, 0), (.aload_n 0, 0, 0, 0, 0), (.iload_n 2, 2, 0, 0, 0), (.invokevirtual 276, 119, 108, 1, 3), (.ifCond .eq 9, 39, 0, 0, 0), (.iload_n 1, 1, 0, 0, 0), (.iconst 1, 0, 0, 0, 0), (.iload_n 2, 2, 0, 0, 0), (.ishl, 0, 0, 0, 0), (.ior, 0, 0, 0, 0), (.istore_n 1, 1, 0, 0, 0)]
  | 39 => [(.iinc 2 1, 2, 0, 0, 0), (.goto (-34), 8, 0, 0, 0)]
  | 45 => [(.iload_n 1, 1, 0, 0, 0), (.ireturn, 0, 0, 0, 0)]
  | _ => []
set_option maxRecDepth 20000 in
theorem ck_118 : ∀ t, chkL 118 t (bk_118 t) = true := by
  intro t
  unfold bk_118
  split <;> first | decide +kernel | rfl
def cu_118 : Nat → Option (List Nat) := fun t => match t with | 8 => some [0, 1, 2] | _ => none
/-- SluiceLogs.isUnfelt(I)Z -/
def bk_119 : Nat → List Ins := fun t => match t with
  | 0 => [(.iconst 0, 0, 0, 0, 0), (.istore_n 2, 2, 0, 0, 0)]
  | 2 => [(.iload_n 2, 2, 0, 0, 0), (.aload_n 0, 0, 0, 0, 0), (.getfield 23, 8, 3, 2, 0), (.getfield 202, 1, 1, 0, 0), (.if_icmp .ge 22, 32, 0, 0, 0), (.aload_n 0, 0, 0, 0, 0), (.getfield 75, 8, 12, 2, 0), (.iload_n 1, 1, 0, 0, 0), (.aaload, 0, 0, 0, 0), (.iload_n 2, 2, 0, 0, 0), (.iaload, 0, 0, 0, 0), (.ifCond .eq 5, 26, 0, 0, 0), (.iconst 0, 0, 0, 0, 0), (.ireturn, 3, 0, 0, 0)]
  | 26 => [(.iinc 2 1, 2, 0, 0, 0), (.goto (-27), 2, 0, 0, 0)]
  | 32 => [(.iconst 1, 0, 0, 0, 0), (.ireturn, 3, 0, 0, 0)]
  | _ => []
set_option maxRecDepth 20000 in
theorem ck_119 : ∀ t, chkL 119 t (bk_119 t) = true := by
  intro t
  unfold bk_119
  split <;> first | decide +kernel | rfl
def cu_119 : Nat → Option (List Nat) := fun t => match t with | 2 => some [0, 1, 2] | _ => none
/-- SluiceLogs.best(II)I -/
def bk_120 : Nat → List Ins := fun t => match t with
  | 0 => [(.aload_n 0, 0, 0, 0, 0), (.iload_n 1, 1, 0, 0, 0), (.invokevirtual 151, 101, 108, 1, 2), (.ifCond .eq 12, 17, 0, 0, 0), (.iconst 0, 0, 0, 0, 0), (.iload_n 2, 2, 0, 0, 0), (.iconst 1, 0, 0, 0, 0), (.invokestatic 224, 103, 0, 3, 3), (.ifCond .ne 5, 19, 0, 0, 0)]
  | 17 => [(.iconst (-1), 0, 0, 0, 0), (.ireturn, 0, 0, 0, 0)]
  | 19 => [(.bipush (-2), 0, 0, 0, 0), (.istore_n 3, 3, 0, 0, 0), (.bipush (-2), 0, 0, 0, 0), (.istore 4, 4, 0, 0, 0), (.aload_n 0, 0, 0, 0, 0), (.getfield 42, 8, 6, 2, 0), (.getfield 123, 7, 2, 2, 0), (.getfield 154, 6, 6, 2, 0), (.iload_n 1, 1, 0, 0, 0), (.laload, 0, 0, 0, 0), (.lstore 5, 5, 0, 0, 0), (.aload_n 0, 0, 0, 0, 0), (.getfield 42, 8, 6, 2, 0), (.getfield 123, 7, 2, 2, 0), (.getfield 133, 6, 1, 1, 0), (.lstore 7, 7, 0, 0, 0), (.iconst 0, 0, 0, 0, 0), (.istore 9, 9, 0, 0, 0)]
  | 55 => [(.iload 9, 9, 0, 0, 0), (.bipush 24, 0, 0, 0, 0), (.if_icmp .ge 95, 154, 0, 0, 0), (.aload_n 0, 0, 0, 0, 0), (.iload 9, 9, 0, 0, 0), (.invokevirtual 267, 115, 108, 1, 2), (.ifCond .eq 80, 148, 0, 0, 0), (.aload_n 0, 0, 0, 0, 0), (.iload_n 1, 1, 0, 0, 0), (.invokevirtual 270, 116, 108, 1, 6), (.iconst 1, 0, 0, 0, 0), (.if_icmp .eq 6, 83, 0, 0, 0), (.goto 68, 148, 0, 0, 0)]
  | 83 => [(.aload_n 0, 0, 0, 0, 0), (.getfield 46, 8, 7, 2, 0), (.getfield 123, 7, 2, 2, 0), (.getfield 154, 6, 6, 2, 0), (.iload_n 1, 1, 0, 0, 0), (.laload, 0, 0, 0, 0), (.lstore 10, 10, 0, 0, 0), (.aload_n 0, 0, 0, 0, 0), (.getfield 46, 8, 7, 2, 0), (.getfield 123, 7, 2, 2, 0), (.getfield 133, 6, 1, 1, 0), (.lstore 12, 12, 0, 0, 0), (.lload 10, 10, 0, 0, 0), (.lload 7, 7, 0, 0, 0), (.lmul, 0, 0, 0, 0), (.lload 5, 5, 0, 0, 0), (.lload 12, 12, 0, 0, 0), (.lmul, 0, 0, 0, 0), (.lcmp, 0, 0, 0, 0), (.ifCond .le 28, 148, 0, 0, 0), (.lload 10, 10, 0, 0, 0), (.lstore 5, 5, 0, 0, 0), (.lload 12, 12, 0, 0, 0), (.lstore 7, 7, 0, 0, 0), (.iload 9, 9, 0, 0, 0), (.istore_n 3, 3, 0, 0, 0), (.aload_n 0, 0, 0, 0, 0), (.getfield 46, 8, 7, 2, 0), (.getfield 123, 7, 2, 2, 0), (.getfield 157, 6, 7, 2, 0), (.iload_n 1, 1, 0, 0, 0), (.iaload, 0, 0, 0, 0), (.istore 4, 4, 0, 0, 0)]
  | 148 => [(.iinc 9 1, 9, 0, 0, 0), (.goto (-96), 55, 0, 0, 0)]
  | 154 => [(.iload_n 2, 2, 0, 0, 0), (.ifCond .ne 7, 162, 0, 0, 0), (.iload_n 3, 3, 0, 0, 0), (.goto 5, 164, 0, 0, 0)]
  | 162 => [(.iload 4, 4, 0, 0, 0)]
  | 164 => [(.ireturn, 0, 0, 0, 0)]
  | _ => []
set_option maxRecDepth 20000 in
theorem ck_120 : ∀ t, chkL 120 t (bk_120 t) = true := by
  intro t
  unfold bk_120
  split <;> first | decide +kernel | rfl
def cu_120 : Nat → Option (List Nat) := fun t => match t with | 55 => some [0, 1, 2, 3, 4, 5, 7, 9] | _ => none
/-- SluiceLogs.tempted()I -/
def bk_121 : Nat → List Ins := fun t => match t with
  | 0 => [(.aload_n 0, 0, 0, 0, 0), (.invokevirtual 273, 117, 108, 0, 4), (.iconst 0, 0, 0, 0, 0), (.istore_n 1, 1, 0, 0, 0), (.iconst 0, 0, 0, 0, 0), (.istore_n 2, 2, 0, 0, 0)]
  | 8 => [(.iload_n 2, 2, 0, 0, 0), (.aload_n 0, 0, 0, 0, 0), (.getfield 23, 8, 3, 2, 0), (.getfield 205, 1, 2, 0, 0), (.if_icmp .ge 68, 84, 0, 0, 0), (.aload_n 0, 0, 0, 0, 0), (.getfield 23, 8, 3, 2, 0), (.getfield 187, 1, 8, 2, 0), (.iload_n 2, 2, 0, 0, 0), (.iaload, 0, 0, 0, 0), (.bipush 10, 0, 0, 0, 0), (.isub, 0, 0, 0, 0), (.istore_n 3, 3, 0, 0, 0), (.aload_n 0, 0, 0, 0, 0), (.iload_n 3, 3, 0, 0, 0), (.invokevirtual 151, 101, 108, 1, 2), (.ifCond .eq 41, 78, 0, 0, 0), (.aload_n 0, 0, 0, 0, 0), (.getfield 42, 8, 6, 2, 0), (.getfield 101, 7, 1, 2, 0), (.getfield 190, 3, 0, 2, 0), (.iload_n 2, 2, 0, 0, 0), (.iaload, 0, 0, 0, 0), (.ifCond .le 26, 78, 0, 0, 0), (.aload_n 0, 0, 0, 0, 0), (.aload_n 0, 0, 0, 0, 0), (.getfield 23, 8, 3, 2, 0), (.getfield 184, 1, 7, 2, 0), (.iload_n 2, 2, 0, 0, 0), (.iaload, 0, 0, 0, 0), (.iload_n 3, 3, 0, 0, 0), (.invokevirtual 279, 122, 108, 2, 4), (.ifCond .eq 9, 78, 0, 0, 0), (.iload_n 1, 1, 0, 0, 0), (.iconst 1, 0, 0, 0, 0), (.iload_n 3, 3, 0, 0, 0), (.ishl, 0, 0, 0, 0), (.ior, 0, 0, 0, 0), (.istore_n 1, 1, 0, 0, 0)]
  | 78 => [(.iinc 2 1, 2, 0, 0, 0), (.goto (-73), 8, 0, 0, 0)]
  | 84 => [(.iload_n 1, 1, 0, 0, 0), (.ireturn, 0, 0, 0, 0)]
  | _ => []
set_option maxRecDepth 20000 in
theorem ck_121 : ∀ t, chkL 121 t (bk_121 t) = true := by
  intro t
  unfold bk_121
  split <;> first | decide +kernel | rfl
def cu_121 : Nat → Option (List Nat) := fun t => match t with | 8 => some [0, 1, 2] | _ => none
/-- SluiceLogs.wouldHaveMoreAt(II)Z -/
def bk_122 : Nat → List Ins := fun t => match t with
  | 0 => [(.iconst 0, 0, 0, 0, 0), (.istore_n 3, 3, 0, 0, 0)]
  | 2 => [(.iload_n 3, 3, 0, 0, 0), (.iconst 2, 0, 0, 0, 0), (.aload_n 0, 0, 0, 0, 0), (.getfield 23, 8, 3, 2, 0), (.getfield 205, 1, 2, 0, 0), (.imul, 0, 0, 0, 0), (.if_icmp .ge 38, 50, 0, 0, 0), (.aload_n 0, 0, 0, 0, 0), (.getfield 23, 8, 3, 2, 0), (.getfield 184, 1, 7, 2, 0), (.iload_n 3, 3, 0, 0, 0), (.iconst 2, 0, 0, 0, 0), (.idiv, 0, 0, 0, 0), (.iaload, 0, 0, 0, 0), (.iload_n 1, 1, 0, 0, 0), (.if_icmp .ne 17, 44, 0, 0, 0), (.aload_n 0, 0, 0, 0, 0), (.getfield 75, 8, 12, 2, 0), (.iload_n 3, 3, 0, 0, 0), (.aaload, 0, 0, 0, 0), (.iload_n 2, 2, 0, 0, 0), (.iaload, 0, 0, 0, 0), (.iconst 1, 0, 0, 0, 0), (.if_icmp .ne 5, 44, 0, 0, 0), (.iconst 1, 0, 0, 0, 0), (.ireturn, 3, 0, 0, 0)]
  | 44 => [(.iinc 3 1, 3, 0, 0, 0), (.goto (-45), 2, 0, 0, 0)]
  | 50 => [(.iconst 0, 0, 0, 0, 0), (.ireturn, 3, 0, 0, 0)]
  | _ => []
set_option maxRecDepth 20000 in
theorem ck_122 : ∀ t, chkL 122 t (bk_122 t) = true := by
  intro t
  unfold bk_122
  split <;> first | decide +kernel | rfl
def cu_122 : Nat → Option (List Nat) := fun t => match t with | 2 => some [0, 1, 2, 3] | _ => none
/-- SluiceLogs.mend(I)I -/
def bk_123 : Nat → List Ins := fun t => match t with
  | 0 => [(.iload_n 1, 1, 0, 0, 0), (.iconst (-1), 0, 0, 0, 0), (.if_icmp .ge 5, 7, 0, 0, 0), (.iconst (-1), 0, 0, 0, 0), (.ireturn, 0, 0, 0, 0)]
  | 7 => [(.iconst 0, 0, 0, 0, 0), (.istore_n 2, 2, 0, 0, 0)]
  | 9 => [(.iload_n 2, 2, 0, 0, 0), (.iconst 3, 0, 0, 0, 0), (.if_icmp .gt 17, 28, 0, 0, 0), (.aload_n 0, 0, 0, 0, 0), (.iload_n 2, 2, 0, 0, 0), (.invokevirtual 283, 124, 108, 1, 5), (.ifCond .ne 9, 28, 0, 0, 0), (.iinc 2 1, 2, 0, 0, 0), (.goto (-16), 9, 0, 0, 0)]
  | 28 => [(.iload_n 2, 2, 0, 0, 0), (.iconst 3, 0, 0, 0, 0), (.if_icmp .le 6, 36, 0, 0, 0), (.bipush (-2), 0, 0, 0, 0), (.ireturn, 0, 0, 0, 0)]
  | 36 => [(.iload_n 1, 1, 0, 0, 0), (.iconst (-1), 0, 0, 0, 0), (.if_icmp .ne 5, 43, 0, 0, 0), (.iload_n 2, 2, 0, 0, 0), (.ireturn, 0, 0, 0, 0)]
  | 43 => [(.iload_n 1, 1, 0, 0, 0), (.iload_n 2, 2, 0, 0, 0), (.if_icmp .ge 12, 57, 0, 0, 0), (.aload_n 0, 0, 0, 0, 0), (.getfield 78, 8, 13, 2, 0), (.iload_n 1, 1, 0, 0, 0), (.iaload, 0, 0, 0, 0), (.goto 4, 58, 0, 0, 0)]
  | 57 => [(.iconst (-1), 0, 0, 0, 0)]
  | 58 => [(.ireturn, 0, 0, 0, 0)]
  | _ => []
set_option maxRecDepth 20000 in
theorem ck_123 : ∀ t, chkL 123 t (bk_123 t) = true := by
  intro t
  unfold bk_123
  split <;> first | decide +kernel | rfl
def cu_123 : Nat → Option (List Nat) := fun t => match t with | 9 => some [0, 1, 2] | _ => none
/-- SluiceLogs.findMend(I)Z -/
def bk_124 : Nat → List Ins := fun t => match t with
  | 0 => [(.iconst 2, 0, 0, 0, 0), (.aload_n 0, 0, 0, 0, 0), (.getfield 23, 8, 3, 2, 0), (.getfield 205, 1, 2, 0, 0), (.imul, 0, 0, 0, 0), (.istore_n 2, 2, 0, 0, 0), (.iconst 1, 0, 0, 0, 0), (.istore_n 3, 3, 0, 0, 0), (.iconst 0, 0, 0, 0, 0), (.istore 4, 4, 0, 0, 0)]
  | 15 => [(.iload 4, 4, 0, 0, 0), (.iload_n 1, 1, 0, 0, 0), (.if_icmp .ge 13, 31, 0, 0, 0), (.iload_n 3, 3, 0, 0, 0), (.iload_n 2, 2, 0, 0, 0), (.imul, 0, 0, 0, 0), (.istore_n 3, 3, 0, 0, 0), (.iinc 4 1, 4, 0, 0, 0), (.goto (-13), 15, 0, 0, 0)]
  | 31 => [(.iconst 0, 0, 0, 0, 0), (.istore 4, 4, 0, 0, 0)]
  | 34 => [(.iload 4, 4, 0, 0, 0), (.iload_n 3, 3, 0, 0, 0), (.if_icmp .ge 30, 67, 0, 0, 0), (.aload_n 0, 0, 0, 0, 0), (.iload 4, 4, 0, 0, 0), (.iload_n 1, 1, 0, 0, 0), (.iload_n 2, 2, 0, 0, 0), (.invokevirtual 286, 125, 108, 3, 6), (.ifCond .eq 13, 61, 0, 0, 0), (.aload_n 0, 0, 0, 0, 0), (.iload_n 1, 1, 0, 0, 0), (.invokevirtual 289, 126, 108, 1, 3), (.ifCond .eq 5, 61, 0, 0, 0), (.iconst 1, 0, 0, 0, 0), (.ireturn, 3, 0, 0, 0)]
  | 61 => [(.iinc 4 1, 4, 0, 0, 0), (.goto (-30), 34, 0, 0, 0)]
  | 67 => [(.iconst 0, 0, 0, 0, 0), (.ireturn, 3, 0, 0, 0)]
  | _ => []
set_option maxRecDepth 20000 in
theorem ck_124 : ∀ t, chkL 124 t (bk_124 t) = true := by
  intro t
  unfold bk_124
  split <;> first | decide +kernel | rfl
def cu_124 : Nat → Option (List Nat) := fun t => match t with | 15 => some [0, 1, 2, 3, 4] | 34 => some [0, 1, 2, 3, 4] | _ => none
/-- SluiceLogs.splitMend(III)Z -/
def bk_125 : Nat → List Ins := fun t => match t with
  | 0 => [(.iload_n 1, 1, 0, 0, 0), (.istore 4, 4, 0, 0, 0), (.iload_n 2, 2, 0, 0, 0), (.iconst 1, 0, 0, 0, 0), (.isub, 0, 0, 0, 0), (.istore 5, 5, 0, 0, 0)]
  | 8 => [(.iload 5, 5, 0, 0, 0), (.ifCond .lt 59, 69, 0, 0, 0), (.iload_n 3, 3, 0, 0, 0), (.ifCond .le 55, 69, 0, 0, 0), (.aload_n 0, 0, 0, 0, 0), (.getfield 78, 8, 13, 2, 0), (.iload 5, 5, 0, 0, 0), (.iload 4, 4, 0, 0, 0), (.iload_n 3, 3, 0, 0, 0), (.irem, 0, 0, 0, 0), (.iastore, 0, 0, 0, 0), (.iload 4, 4, 0, 0, 0), (.iload_n 3, 3, 0, 0, 0), (.idiv, 0, 0, 0, 0), (.istore 4, 4, 0, 0, 0), (.iload 5, 5, 0, 0, 0), (.iconst 1, 0, 0, 0, 0), (.iadd, 0, 0, 0, 0), (.iload_n 2, 2, 0, 0, 0), (.if_icmp .ge 24, 63, 0, 0, 0), (.aload_n 0, 0, 0, 0, 0), (.getfield 78, 8, 13, 2, 0), (.iload 5, 5, 0, 0, 0), (.iaload, 0, 0, 0, 0), (.aload_n 0, 0, 0, 0, 0), (.getfield 78, 8, 13, 2, 0), (.iload 5, 5, 0, 0, 0), (.iconst 1, 0, 0, 0, 0), (.iadd, 0, 0, 0, 0), (.iaload, 0, 0, 0, 0), (.if_icmp .le 5, 63, 0, 0, 0), (.iconst 0, 0, 0, 0, 0), (.ireturn, 3, 0, 0, 0)]
  | 63 => [(.iinc 5 (-1), 5, 0, 0, 0), (.goto (-58), 8, 0, 0, 0)]
  | 69 => [(.iconst 1, 0, 0, 0, 0), (.ireturn, 3, 0, 0, 0)]
  | _ => []
set_option maxRecDepth 20000 in
theorem ck_125 : ∀ t, chkL 125 t (bk_125 t) = true := by
  intro t
  unfold bk_125
  split <;> first | decide +kernel | rfl
def cu_125 : Nat → Option (List Nat) := fun t => match t with | 8 => some [0, 2, 3, 4, 5] | _ => none
/-- SluiceLogs.wouldMend(I)Z -/
def bk_126 : Nat → List Ins := fun t => match t with
  | 0 => [(.aload_n 0, 0, 0, 0, 0), (.getfield 46, 8, 7, 2, 0), (.getfield 101, 7, 1, 2, 0), (.aload_n 0, 0, 0, 0, 0), (.getfield 42, 8, 6, 2, 0), (.getfield 101, 7, 1, 2, 0), (.invokevirtual 108, 38, 103, 1, 2), (.iconst 0, 0, 0, 0, 0), (.istore_n 2, 2, 0, 0, 0)]
  | 19 => [(.iload_n 2, 2, 0, 0, 0), (.iload_n 1, 1, 0, 0, 0), (.if_icmp .ge 40, 61, 0, 0, 0), (.aload_n 0, 0, 0, 0, 0), (.getfield 46, 8, 7, 2, 0), (.aload_n 0, 0, 0, 0, 0), (.getfield 78, 8, 13, 2, 0), (.iload_n 2, 2, 0, 0, 0), (.iaload, 0, 0, 0, 0), (.invokevirtual 212, 69, 107, 1, 3), (.ifCond .ne 5, 42, 0, 0, 0), (.iconst 0, 0, 0, 0, 0), (.ireturn, 3, 0, 0, 0)]
  | 42 => [(.aload_n 0, 0, 0, 0, 0), (.getfield 46, 8, 7, 2, 0), (.aload_n 0, 0, 0, 0, 0), (.getfield 78, 8, 13, 2, 0), (.iload_n 2, 2, 0, 0, 0), (.iaload, 0, 0, 0, 0), (.invokevirtual 218, 70, 107, 1, 2), (.iinc 2 1, 2, 0, 0, 0), (.goto (-39), 19, 0, 0, 0)]
  | 61 => [(.aload_n 0, 0, 0, 0, 0), (.getfield 46, 8, 7, 2, 0), (.invokevirtual 112, 65, 107, 0, 1), (.aload_n 0, 0, 0, 0, 0), (.getfield 46, 8, 7, 2, 0), (.getfield 123, 7, 2, 2, 0), (.getfield 263, 6, 0, 0, 0), (.ifCond .ne 17, 95, 0, 0, 0), (.aload_n 0, 0, 0, 0, 0), (.getfield 46, 8, 7, 2, 0), (.invokevirtual 292, 83, 107, 0, 2), (.ifCond .ne 7, 95, 0, 0, 0), (.iconst 1, 0, 0, 0, 0), (.goto 4, 96, 0, 0, 0)]
  | 95 => [(.iconst 0, 0, 0, 0, 0)]
  | 96 => [(.ireturn, 3, 0, 0, 0)]
  | _ => []
set_option maxRecDepth 20000 in
theorem ck_126 : ∀ t, chkL 126 t (bk_126 t) = true := by
  intro t
  unfold bk_126
  split <;> first | decide +kernel | rfl
def cu_126 : Nat → Option (List Nat) := fun t => match t with | 19 => some [0, 1, 2] | _ => none
/-- SluiceLogs.feeds(I)I -/
def bk_127 : Nat → List Ins := fun t => match t with
  | 0 => [(.aload_n 0, 0, 0, 0, 0), (.iload_n 1, 1, 0, 0, 0), (.invokevirtual 151, 101, 108, 1, 2), (.ifCond .ne 5, 10, 0, 0, 0), (.iconst (-1), 0, 0, 0, 0), (.ireturn, 0, 0, 0, 0)]
  | 10 => [(.aload_n 0, 0, 0, 0, 0), (.getfield 42, 8, 6, 2, 0), (.iload_n 1, 1, 0, 0, 0), (.invokevirtual 296, 68, 107, 1, 2), (.istore_n 2, 2, 0, 0, 0), (.iconst 0, 0, 0, 0, 0), (.istore_n 3, 3, 0, 0, 0), (.iconst 0, 0, 0, 0, 0), (.istore 4, 4, 0, 0, 0)]
  | 24 => [(.iload 4, 4, 0, 0, 0), (.aload_n 0, 0, 0, 0, 0), (.getfield 23, 8, 3, 2, 0), (.getfield 199, 1, 0, 0, 0), (.if_icmp .ge 134, 167, 0, 0, 0), (.iconst 0, 0, 0, 0, 0), (.istore 5, 5, 0, 0, 0)]
  | 39 => [(.iload 5, 5, 0, 0, 0), (.aload_n 0, 0, 0, 0, 0), (.getfield 23, 8, 3, 2, 0), (.getfield 205, 1, 2, 0, 0), (.if_icmp .ge 113, 161, 0, 0, 0), (.aload_n 0, 0, 0, 0, 0), (.getfield 42, 8, 6, 2, 0), (.getfield 101, 7, 1, 2, 0), (.getfield 190, 3, 0, 2, 0), (.iload 5, 5, 0, 0, 0), (.iaload, 0, 0, 0, 0), (.ifCond .eq 91, 155, 0, 0, 0), (.iload_n 2, 2, 0, 0, 0), (.aload_n 0, 0, 0, 0, 0), (.getfield 23, 8, 3, 2, 0), (.getfield 184, 1, 7, 2, 0), (.iload 5, 5, 0, 0, 0), (.iaload, 0, 0, 0, 0), (.ishr, 0, 0, 0, 0), (.iconst 1, 0, 0, 0, 0), (.iand, 0, 0, 0, 0), (.ifCond .ne 6, 87, 0, 0, 0), (.goto 71, 155, 0, 0, 0)]
  | 87 => [(.aload_n 0, 0, 0, 0, 0), (.getfield 23, 8, 3, 2, 0), (.getfield 187, 1, 8, 2, 0), (.iload 5, 5, 0, 0, 0), (.iaload, 0, 0, 0, 0), (.istore 6, 6, 0, 0, 0), (.aload_n 0, 0, 0, 0, 0), (.iload 6, 6, 0, 0, 0), (.invokevirtual 119, 100, 108, 1, 2), (.ifCond .eq 13, 118, 0, 0, 0), (.iload_n 2, 2, 0, 0, 0), (.iconst 1, 0, 0, 0, 0), (.iload 6, 6, 0, 0, 0), (.ishl, 0, 0, 0, 0), (.ior, 0, 0, 0, 0), (.istore_n 2, 2, 0, 0, 0), (.goto 40, 155, 0, 0, 0)]
  | 118 => [(.aload_n 0, 0, 0, 0, 0), (.iload 6, 6, 0, 0, 0), (.bipush 10, 0, 0, 0, 0), (.isub, 0, 0, 0, 0), (.invokevirtual 151, 101, 108, 1, 2), (.ifCond .eq 28, 155, 0, 0, 0), (.iload_n 3, 3, 0, 0, 0), (.iconst 1, 0, 0, 0, 0), (.iload 6, 6, 0, 0, 0), (.bipush 10, 0, 0, 0, 0), (.isub, 0, 0, 0, 0), (.ishl, 0, 0, 0, 0), (.ior, 0, 0, 0, 0), (.istore_n 3, 3, 0, 0, 0), (.iload_n 2, 2, 0, 0, 0), (.aload_n 0, 0, 0, 0, 0), (.getfield 42, 8, 6, 2, 0), (.iload 6, 6, 0, 0, 0), (.bipush 10, 0, 0, 0, 0), (.isub, 0, 0, 0, 0), (.invokevirtual 296, 68, 107, 1, 2), (.ior, 0, 0, 0, 0), (.istore_n 2, 2, 0, 0, 0)]
  | 155 => [(.iinc 5 1, 5, 0, 0, 0), (.goto (-119), 39, 0, 0, 0)]
  | 161 => [(.iinc 4 1, 4, 0, 0, 0), (.goto (-140), 24, 0, 0, 0)]
  | 167 => [(.iload_n 3, 3, 0, 0, 0), (.ireturn, 0, 0, 0, 0)]
  | _ => []
set_option maxRecDepth 20000 in
theorem ck_127 : ∀ t, chkL 127 t (bk_127 t) = true := by
  intro t
  unfold bk_127
  split <;> first | decide +kernel | rfl
def cu_127 : Nat → Option (List Nat) := fun t => match t with | 24 => some [0, 2, 3, 4] | 39 => some [0, 2, 3, 4, 5] | _ => none
/-- SluiceLogs.hangs(I)I -/
def bk_128 : Nat → List Ins := fun t => match t with
  | 0 => [(.aload_n 0, 0, 0, 0, 0), (.iload_n 1, 1, 0, 0, 0), (.invokevirtual 151, 101, 108, 1, 2), (.ifCond .ne 5, 10, 0, 0, 0), (.iconst (-1), 0, 0, 0, 0), (.ireturn, 0, 0, 0, 0)]
  | 10 => [(.aload_n 0, 0, 0, 0, 0), (.getfield 42, 8, 6, 2, 0), (.getfield 123, 7, 2, 2, 0), (.getfield 263, 6, 0, 0, 0), (.ifCond .ne 20, 40, 0, 0, 0), (.aload_n 0, 0, 0, 0, 0), (.getfield 42, 8, 6, 2, 0), (.getfield 123, 7, 2, 2, 0), (.getfield 154, 6, 6, 2, 0), (.iload_n 1, 1, 0, 0, 0), (.laload, 0, 0, 0, 0), (.lconst 0, 0, 0, 0, 0), (.lcmp, 0, 0, 0, 0), (.ifCond .ne 5, 42, 0, 0, 0)]
  | 40 => [(.iconst 0, 0, 0, 0, 0), (.ireturn, 0, 0, 0, 0)]
  | 42 => [(.iconst 0, 0, 0, 0, 0), (.istore_n 2, 2, 0, 0, 0), (.iconst 0, 0, 0, 0, 0), (.istore_n 3, 3, 0, 0, 0)]
  | 46 => [(.iload_n 3, 3, 0, 0, 0), (.aload_n 0, 0, 0, 0, 0), (.getfield 23, 8, 3, 2, 0), (.getfield 205, 1, 2, 0, 0), (.if_icmp .ge 82, 136, 0, 0, 0), (.aload_n 0, 0, 0, 0, 0), (.getfield 46, 8, 7, 2, 0), (.getfield 101, 7, 1, 2, 0), (.aload_n 0, 0, 0, 0, 0), (.getfield 42, 8, 6, 2, 0), (.getfield 101, 7, 1, 2, 0), (.invokevirtual 108, 38, 103, 1, 2), (.aload_n 0, 0, 0, 0, 0), (.getfield 46, 8, 7, 2, 0), (.getfield 101, 7, 1, 2, 0), (.getfield 190, 3, 0, 2, 0), (.iload_n 3, 3, 0, 0, 0), (.iconst 0, 0, 0, 0, 0), (.iastore, 0, 0, 0, 0), (.aload_n 0, 0, 0, 0, 0), (.getfield 46, 8, 7, 2, 0), (.invokevirtual 112, 65, 107, 0, 1), (.aload_n 0, 0, 0, 0, 0), (.getfield 46, 8, 7, 2, 0), (.getfield 123, 7, 2, 2, 0), (.getfield 263, 6, 0, 0, 0), (.ifCond .ne 26, 130, 0, 0, 0), (.aload_n 0, 0, 0, 0, 0), (.getfield 46, 8, 7, 2, 0), (.getfield 123, 7, 2, 2, 0), (.getfield 154, 6, 6, 2, 0), (.iload_n 1, 1, 0, 0, 0), (.laload, 0, 0, 0, 0), (.lconst 0, 0, 0, 0, 0), (.lcmp, 0, 0, 0, 0), (.ifCond .ne 9, 130, 0, 0, 0), (.iload_n 2, 2, 0, 0, 0), (.iconst 1, 0, 0, 0, 0), (.iload_n 3, 3, 0, 0, 0), (.ishl, 0, 0, 0, 0), (.ior, 0, 0, 0, 0), (.istore_n 2, 2, 0, 0, 0)]
  | 130 => [(.iinc 3 1, 3, 0, 0, 0), (.goto (-87), 46, 0, 0, 0)]
  | 136 => [(.iload_n 2, 2, 0, 0, 0), (.ireturn, 0, 0, 0, 0)]
  | _ => []
set_option maxRecDepth 20000 in
theorem ck_128 : ∀ t, chkL 128 t (bk_128 t) = true := by
  intro t
  unfold bk_128
  split <;> first | decide +kernel | rfl
def cu_128 : Nat → Option (List Nat) := fun t => match t with | 46 => some [0, 1, 2, 3] | _ => none
/-- SluiceLogs.spread()I -/
def bk_129 : Nat → List Ins := fun t => match t with
  | 0 => [(.aload_n 0, 0, 0, 0, 0), (.getfield 23, 8, 3, 2, 0), (.getfield 202, 1, 1, 0, 0), (.ifCond .ne 5, 12, 0, 0, 0), (.iconst 0, 0, 0, 0, 0), (.ireturn, 0, 0, 0, 0)]
  | 12 => [(.aload_n 0, 0, 0, 0, 0), (.getfield 42, 8, 6, 2, 0), (.getfield 123, 7, 2, 2, 0), (.getfield 157, 6, 7, 2, 0), (.iconst 0, 0, 0, 0, 0), (.iaload, 0, 0, 0, 0), (.istore_n 1, 1, 0, 0, 0), (.iload_n 1, 1, 0, 0, 0), (.istore_n 2, 2, 0, 0, 0), (.iconst 1, 0, 0, 0, 0), (.istore_n 3, 3, 0, 0, 0)]
  | 29 => [(.iload_n 3, 3, 0, 0, 0), (.aload_n 0, 0, 0, 0, 0), (.getfield 23, 8, 3, 2, 0), (.getfield 202, 1, 1, 0, 0), (.if_icmp .ge 43, 80, 0, 0, 0), (.iload_n 1, 1, 0, 0, 0), (.aload_n 0, 0, 0, 0, 0), (.getfield 42, 8, 6, 2, 0), (.getfield 123, 7, 2, 2, 0), (.getfield 157, 6, 7, 2, 0), (.iload_n 3, 3, 0, 0, 0), (.iaload, 0, 0, 0, 0), (.invokestatic 299, 286, 0, 2, 2), (.istore_n 1, 1, 0, 0, 0), (.iload_n 2, 2, 0, 0, 0), (.aload_n 0, 0, 0, 0, 0), (.getfield 42, 8, 6, 2, 0), (.getfield 123, 7, 2, 2, 0), (.getfield 157, 6, 7, 2, 0), (.iload_n 3, 3, 0, 0, 0), (.iaload, 0, 0, 0, 0), (.invokestatic 305, 285, 0, 2, 2), (.istore_n 2, 2, 0, 0, 0), (.iinc 3 1, 3, 0, 0, 0), (.goto (-48), 29, 0, 0, 0)]
  | 80 => [(.iload_n 2, 2, 0, 0, 0), (.iload_n 1, 1, 0, 0, 0), (.isub, 0, 0, 0, 0), (.ireturn, 0, 0, 0, 0)]
  | _ => []
set_option maxRecDepth 20000 in
theorem ck_129 : ∀ t, chkL 129 t (bk_129 t) = true := by
  intro t
  unfold bk_129
  split <;> first | decide +kernel | rfl
def cu_129 : Nat → Option (List Nat) := fun t => match t with | 29 => some [0, 1, 2, 3] | _ => none
/-- SluiceLogs.richest()I -/
def bk_130 : Nat → List Ins := fun t => match t with
  | 0 => [(.aload_n 0, 0, 0, 0, 0), (.getfield 23, 8, 3, 2, 0), (.getfield 202, 1, 1, 0, 0), (.ifCond .eq 16, 23, 0, 0, 0), (.aload_n 0, 0, 0, 0, 0), (.getfield 42, 8, 6, 2, 0), (.getfield 123, 7, 2, 2, 0), (.getfield 263, 6, 0, 0, 0), (.ifCond .eq 6, 26, 0, 0, 0)]
  | 23 => [(.bipush (-2), 0, 0, 0, 0), (.ireturn, 0, 0, 0, 0)]
  | 26 => [(.iconst 0, 0, 0, 0, 0), (.istore_n 1, 1, 0, 0, 0), (.iconst 1, 0, 0, 0, 0), (.istore_n 2, 2, 0, 0, 0)]
  | 30 => [(.iload_n 2, 2, 0, 0, 0), (.aload_n 0, 0, 0, 0, 0), (.getfield 23, 8, 3, 2, 0), (.getfield 202, 1, 1, 0, 0), (.if_icmp .ge 39, 77, 0, 0, 0), (.aload_n 0, 0, 0, 0, 0), (.getfield 42, 8, 6, 2, 0), (.getfield 123, 7, 2, 2, 0), (.getfield 154, 6, 6, 2, 0), (.iload_n 2, 2, 0, 0, 0), (.laload, 0, 0, 0, 0), (.aload_n 0, 0, 0, 0, 0), (.getfield 42, 8, 6, 2, 0), (.getfield 123, 7, 2, 2, 0), (.getfield 154, 6, 6, 2, 0), (.iload_n 1, 1, 0, 0, 0), (.laload, 0, 0, 0, 0), (.lcmp, 0, 0, 0, 0), (.ifCond .le 5, 71, 0, 0, 0), (.iload_n 2, 2, 0, 0, 0), (.istore_n 1, 1, 0, 0, 0)]
  | 71 => [(.iinc 2 1, 2, 0, 0, 0), (.goto (-44), 30, 0, 0, 0)]
  | 77 => [(.iload_n 1, 1, 0, 0, 0), (.ireturn, 0, 0, 0, 0)]
  | _ => []
set_option maxRecDepth 20000 in
theorem ck_130 : ∀ t, chkL 130 t (bk_130 t) = true := by
  intro t
  unfold bk_130
  split <;> first | decide +kernel | rfl
def cu_130 : Nat → Option (List Nat) := fun t => match t with | 30 => some [0, 1, 2] | _ => none
/-- SluiceLogs.crop(I)I -/
def bk_131 : Nat → List Ins := fun t => match t with
  | 0 => [(.iconst 0, 0, 0, 0, 0), (.iload_n 1, 1, 0, 0, 0), (.bipush 60, 0, 0, 0, 0), (.invokestatic 224, 103, 0, 3, 3), (.ifCond .ne 5, 12, 0, 0, 0), (.iconst (-1), 0, 0, 0, 0), (.ireturn, 0, 0, 0, 0)]
  | 12 => [(.aload_n 0, 0, 0, 0, 0), (.iload_n 1, 1, 0, 0, 0), (.aload_n 0, 0, 0, 0, 0), (.getfield 23, 8, 3, 2, 0), (.getfield 231, 1, 3, 0, 0), (.iconst 0, 0, 0, 0, 0), (.invokevirtual 308, 132, 108, 3, 4), (.aload_n 0, 0, 0, 0, 0), (.getfield 46, 8, 7, 2, 0), (.invokevirtual 311, 84, 107, 0, 3), (.aload_n 0, 0, 0, 0, 0), (.getfield 42, 8, 6, 2, 0), (.invokevirtual 311, 84, 107, 0, 3), (.isub, 0, 0, 0, 0), (.ireturn, 0, 0, 0, 0)]
  | _ => []
set_option maxRecDepth 20000 in
theorem ck_131 : ∀ t, chkL 131 t (bk_131 t) = true := by
  intro t
  unfold bk_131
  split <;> first | decide +kernel | rfl
def cu_131 : Nat → Option (List Nat) := fun _ => none
/-- SluiceLogs.wouldPassDays(IIZ)V -/
def bk_132 : Nat → List Ins := fun t => match t with
  | 0 => [(.aload_n 0, 0, 0, 0, 0), (.getfield 46, 8, 7, 2, 0), (.getfield 101, 7, 1, 2, 0), (.aload_n 0, 0, 0, 0, 0), (.getfield 42, 8, 6, 2, 0), (.getfield 101, 7, 1, 2, 0), (.invokevirtual 108, 38, 103, 1, 2), (.aload_n 0, 0, 0, 0, 0), (.getfield 46, 8, 7, 2, 0), (.invokevirtual 112, 65, 107, 0, 1), (.aload_n 0, 0, 0, 0, 0), (.getfield 46, 8, 7, 2, 0), (.iload_n 1, 1, 0, 0, 0), (.iload_n 2, 2, 0, 0, 0), (.iload_n 3, 3, 0, 0, 0), (.invokevirtual 234, 85, 107, 3, 6), (.return_, 0, 0, 0, 0)]
  | _ => []
set_option maxRecDepth 20000 in
theorem ck_132 : ∀ t, chkL 132 t (bk_132 t) = true := by
  intro t
  unfold bk_132
  split <;> first | decide +kernel | rfl
def cu_132 : Nat → Option (List Nat) := fun _ => none
/-- SluiceLogs.again(II)I -/
def bk_133 : Nat → List Ins := fun t => match t with
  | 0 => [(.aload_n 0, 0, 0, 0, 0), (.iload_n 1, 1, 0, 0, 0), (.invokevirtual 151, 101, 108, 1, 2), (.ifCond .eq 22, 27, 0, 0, 0), (.iconst 0, 0, 0, 0, 0), (.iload_n 2, 2, 0, 0, 0), (.iconst 3, 0, 0, 0, 0), (.invokestatic 224, 103, 0, 3, 3), (.ifCond .eq 13, 27, 0, 0, 0), (.aload_n 0, 0, 0, 0, 0), (.getfield 23, 8, 3, 2, 0), (.getfield 199, 1, 0, 0, 0), (.ifCond .ne 5, 29, 0, 0, 0)]
  | 27 => [(.iconst (-1), 0, 0, 0, 0), (.ireturn, 0, 0, 0, 0)]
  | 29 => [(.aload_n 0, 0, 0, 0, 0), (.getfield 46, 8, 7, 2, 0), (.getfield 101, 7, 1, 2, 0), (.aload_n 0, 0, 0, 0, 0), (.getfield 42, 8, 6, 2, 0), (.getfield 101, 7, 1, 2, 0), (.invokevirtual 108, 38, 103, 1, 2), (.aload_n 0, 0, 0, 0, 0), (.getfield 46, 8, 7, 2, 0), (.getfield 101, 7, 1, 2, 0), (.getfield 172, 3, 2, 2, 0), (.iload_n 1, 1, 0, 0, 0), (.iload_n 2, 2, 0, 0, 0), (.iastore, 0, 0, 0, 0), (.aload_n 0, 0, 0, 0, 0), (.getfield 46, 8, 7, 2, 0), (.getfield 101, 7, 1, 2, 0), (.getfield 175, 3, 1, 2, 0), (.iload_n 1, 1, 0, 0, 0), (.iaload, 0, 0, 0, 0), (.bipush (-2), 0, 0, 0, 0), (.if_icmp .ne 16, 89, 0, 0, 0), (.aload_n 0, 0, 0, 0, 0), (.getfield 46, 8, 7, 2, 0), (.getfield 101, 7, 1, 2, 0), (.getfield 175, 3, 1, 2, 0), (.iload_n 1, 1, 0, 0, 0), (.iconst 0, 0, 0, 0, 0), (.iastore, 0, 0, 0, 0)]
  | 89 => [(.aload_n 0, 0, 0, 0, 0), (.getfield 46, 8, 7, 2, 0), (.invokevirtual 112, 65, 107, 0, 1), (.aload_n 0, 0, 0, 0, 0), (.getfield 46, 8, 7, 2, 0), (.getfield 123, 7, 2, 2, 0), (.getfield 157, 6, 7, 2, 0), (.iload_n 1, 1, 0, 0, 0), (.iaload, 0, 0, 0, 0), (.ireturn, 0, 0, 0, 0)]
  | _ => []
set_option maxRecDepth 20000 in
theorem ck_133 : ∀ t, chkL 133 t (bk_133 t) = true := by
  intro t
  unfold bk_133
  split <;> first | decide +kernel | rfl
def cu_133 : Nat → Option (List Nat) := fun _ => none
/-- SluiceLogs.swap()I -/
def bk_134 : Nat → List Ins := fun t => match t with
  | 0 => [(.bipush (-2), 0, 0, 0, 0), (.istore_n 1, 1, 0, 0, 0), (.aload_n 0, 0, 0, 0, 0), (.getfield 42, 8, 6, 2, 0), (.invokevirtual 259, 82, 107, 0, 3), (.invokestatic 314, 284, 0, 1, 1), (.istore_n 2, 2, 0, 0, 0), (.iconst 0, 0, 0, 0, 0), (.istore_n 3, 3, 0, 0, 0)]
  | 16 => [(.iload_n 3, 3, 0, 0, 0), (.aload_n 0, 0, 0, 0, 0), (.getfield 23, 8, 3, 2, 0), (.getfield 205, 1, 2, 0, 0), (.if_icmp .ge 68, 92, 0, 0, 0), (.iload_n 3, 3, 0, 0, 0), (.iconst 1, 0, 0, 0, 0), (.iadd, 0, 0, 0, 0), (.istore 4, 4, 0, 0, 0)]
  | 32 => [(.iload 4, 4, 0, 0, 0), (.aload_n 0, 0, 0, 0, 0), (.getfield 23, 8, 3, 2, 0), (.getfield 205, 1, 2, 0, 0), (.if_icmp .ge 45, 86, 0, 0, 0), (.aload_n 0, 0, 0, 0, 0), (.iload_n 3, 3, 0, 0, 0), (.iload 4, 4, 0, 0, 0), (.invokevirtual 319, 135, 108, 2, 3), (.aload_n 0, 0, 0, 0, 0), (.getfield 46, 8, 7, 2, 0), (.invokevirtual 259, 82, 107, 0, 3), (.invokestatic 314, 284, 0, 1, 1), (.istore 5, 5, 0, 0, 0), (.iload 5, 5, 0, 0, 0), (.iload_n 2, 2, 0, 0, 0), (.if_icmp .ge 14, 80, 0, 0, 0), (.iload 5, 5, 0, 0, 0), (.istore_n 2, 2, 0, 0, 0), (.bipush 100, 0, 0, 0, 0), (.iload_n 3, 3, 0, 0, 0), (.imul, 0, 0, 0, 0), (.iload 4, 4, 0, 0, 0), (.iadd, 0, 0, 0, 0), (.istore_n 1, 1, 0, 0, 0)]
  | 80 => [(.iinc 4 1, 4, 0, 0, 0), (.goto (-51), 32, 0, 0, 0)]
  | 86 => [(.iinc 3 1, 3, 0, 0, 0), (.goto (-73), 16, 0, 0, 0)]
  | 92 => [(.iload_n 1, 1, 0, 0, 0), (.ireturn, 0, 0, 0, 0)]
  | _ => []
set_option maxRecDepth 20000 in
theorem ck_134 : ∀ t, chkL 134 t (bk_134 t) = true := by
  intro t
  unfold bk_134
  split <;> first | decide +kernel | rfl
def cu_134 : Nat → Option (List Nat) := fun t => match t with | 16 => some [0, 1, 2, 3] | 32 => some [0, 1, 2, 3, 4] | _ => none
/-- SluiceLogs.wouldSwap(II)V -/
def bk_135 : Nat → List Ins := fun t => match t with
  | 0 => [(.aload_n 0, 0, 0, 0, 0), (.getfield 46, 8, 7, 2, 0), (.getfield 101, 7, 1, 2, 0), (.aload_n 0, 0, 0, 0, 0), (.getfield 42, 8, 6, 2, 0), (.getfield 101, 7, 1, 2, 0), (.invokevirtual 108, 38, 103, 1, 2), (.aload_n 0, 0, 0, 0, 0), (.getfield 46, 8, 7, 2, 0), (.getfield 101, 7, 1, 2, 0), (.getfield 190, 3, 0, 2, 0), (.iload_n 1, 1, 0, 0, 0), (.aload_n 0, 0, 0, 0, 0), (.getfield 42, 8, 6, 2, 0), (.getfield 101, 7, 1, 2, 0), (.getfield 190, 3, 0, 2, 0), (.iload_n 2, 2, 0, 0, 0), (.iaload, 0, 0, 0, 0), (.iastore, 0, 0, 0, 0), (.aload_n 0, 0, 0, 0, 0), (.getfield 46, 8, 7, 2, 0), (.getfield 101, 7, 1, 2, 0), (.getfield 190, 3, 0, 2, 0), (.iload_n 2, 2, 0, 0, 0), (.aload_n 0, 0, 0, 0, 0), (.getfield 42, 8, 6, 2, 0), (.getfield 101, 7, 1, 2, 0), (.getfield 190, 3, 0, 2, 0), (.iload_n 1, 1, 0, 0, 0), (.iaload, 0, 0, 0, 0), (.iastore, 0, 0, 0, 0), (.aload_n 0, 0, 0, 0, 0), (.getfield 46, 8, 7, 2, 0), (.invokevirtual 112, 65, 107, 0, 1), (.return_, 0, 0, 0, 0)]
  | _ => []
set_option maxRecDepth 20000 in
theorem ck_135 : ∀ t, chkL 135 t (bk_135 t) = true := by
  intro t
  unfold bk_135
  split <;> first | decide +kernel | rfl
def cu_135 : Nat → Option (List Nat) := fun _ => none
/-- SluiceLogs.grownIn(II)I -/
def bk_136 : Nat → List Ins := fun t => match t with
  | 0 => [(.aload_n 0, 0, 0, 0, 0), (.iload_n 1, 1, 0, 0, 0), (.invokevirtual 151, 101, 108, 1, 2), (.ifCond .eq 13, 18, 0, 0, 0), (.iconst 0, 0, 0, 0, 0), (.iload_n 2, 2, 0, 0, 0), (.bipush 60, 0, 0, 0, 0), (.invokestatic 224, 103, 0, 3, 3), (.ifCond .ne 5, 20, 0, 0, 0)]
  | 18 => [(.iconst (-1), 0, 0, 0, 0), (.ireturn, 0, 0, 0, 0)]
  | 20 => [(.aload_n 0, 0, 0, 0, 0), (.iload_n 2, 2, 0, 0, 0), (.aload_n 0, 0, 0, 0, 0), (.getfield 23, 8, 3, 2, 0), (.getfield 231, 1, 3, 0, 0), (.iconst 1, 0, 0, 0, 0), (.invokevirtual 308, 132, 108, 3, 4), (.aload_n 0, 0, 0, 0, 0), (.getfield 46, 8, 7, 2, 0), (.getfield 101, 7, 1, 2, 0), (.getfield 169, 3, 3, 2, 0), (.iload_n 1, 1, 0, 0, 0), (.iaload, 0, 0, 0, 0), (.ireturn, 0, 0, 0, 0)]
  | _ => []
set_option maxRecDepth 20000 in
theorem ck_136 : ∀ t, chkL 136 t (bk_136 t) = true := by
  intro t
  unfold bk_136
  split <;> first | decide +kernel | rfl
def cu_136 : Nat → Option (List Nat) := fun _ => none
/-- SluiceLogs.wideIn(II)I -/
def bk_137 : Nat → List Ins := fun t => match t with
  | 0 => [(.aload_n 0, 0, 0, 0, 0), (.iload_n 1, 1, 0, 0, 0), (.invokevirtual 181, 102, 108, 1, 2), (.ifCond .eq 13, 18, 0, 0, 0), (.iconst 0, 0, 0, 0, 0), (.iload_n 2, 2, 0, 0, 0), (.bipush 60, 0, 0, 0, 0), (.invokestatic 224, 103, 0, 3, 3), (.ifCond .ne 5, 20, 0, 0, 0)]
  | 18 => [(.iconst (-1), 0, 0, 0, 0), (.ireturn, 0, 0, 0, 0)]
  | 20 => [(.aload_n 0, 0, 0, 0, 0), (.iload_n 2, 2, 0, 0, 0), (.aload_n 0, 0, 0, 0, 0), (.getfield 23, 8, 3, 2, 0), (.getfield 231, 1, 3, 0, 0), (.iconst 1, 0, 0, 0, 0), (.invokevirtual 308, 132, 108, 3, 4), (.aload_n 0, 0, 0, 0, 0), (.getfield 46, 8, 7, 2, 0), (.getfield 101, 7, 1, 2, 0), (.getfield 190, 3, 0, 2, 0), (.iload_n 1, 1, 0, 0, 0), (.iaload, 0, 0, 0, 0), (.ireturn, 0, 0, 0, 0)]
  | _ => []
set_option maxRecDepth 20000 in
theorem ck_137 : ∀ t, chkL 137 t (bk_137 t) = true := by
  intro t
  unfold bk_137
  split <;> first | decide +kernel | rfl
def cu_137 : Nat → Option (List Nat) := fun _ => none
/-- SluiceLogs.year(III)I -/
def bk_138 : Nat → List Ins := fun t => match t with
  | 0 => [(.aload_n 0, 0, 0, 0, 0), (.iload_n 1, 1, 0, 0, 0), (.invokevirtual 151, 101, 108, 1, 2), (.ifCond .eq 23, 28, 0, 0, 0), (.iconst 0, 0, 0, 0, 0), (.iload_n 2, 2, 0, 0, 0), (.bipush 60, 0, 0, 0, 0), (.invokestatic 224, 103, 0, 3, 3), (.ifCond .eq 13, 28, 0, 0, 0), (.iconst 1, 0, 0, 0, 0), (.iload_n 3, 3, 0, 0, 0), (.bipush 20, 0, 0, 0, 0), (.invokestatic 224, 103, 0, 3, 3), (.ifCond .ne 5, 30, 0, 0, 0)]
  | 28 => [(.iconst (-1), 0, 0, 0, 0), (.ireturn, 0, 0, 0, 0)]
  | 30 => [(.iconst 0, 0, 0, 0, 0), (.istore 4, 4, 0, 0, 0), (.iconst 0, 0, 0, 0, 0), (.istore 5, 5, 0, 0, 0)]
  | 36 => [(.iload 5, 5, 0, 0, 0), (.iload_n 3, 3, 0, 0, 0), (.if_icmp .ge 39, 78, 0, 0, 0), (.aload_n 0, 0, 0, 0, 0), (.iload_n 2, 2, 0, 0, 0), (.aload_n 0, 0, 0, 0, 0), (.getfield 23, 8, 3, 2, 0), (.getfield 231, 1, 3, 0, 0), (.iload 5, 5, 0, 0, 0), (.iadd, 0, 0, 0, 0), (.iconst 1, 0, 0, 0, 0), (.invokevirtual 308, 132, 108, 3, 4), (.aload_n 0, 0, 0, 0, 0), (.getfield 46, 8, 7, 2, 0), (.iload_n 1, 1, 0, 0, 0), (.invokevirtual 323, 81, 107, 1, 2), (.ifCond .eq 6, 72, 0, 0, 0), (.iinc 4 1, 4, 0, 0, 0)]
  | 72 => [(.iinc 5 1, 5, 0, 0, 0), (.goto (-39), 36, 0, 0, 0)]
  | 78 => [(.iload 4, 4, 0, 0, 0), (.ireturn, 0, 0, 0, 0)]
  | _ => []
set_option maxRecDepth 20000 in
theorem ck_138 : ∀ t, chkL 138 t (bk_138 t) = true := by
  intro t
  unfold bk_138
  split <;> first | decide +kernel | rfl
def cu_138 : Nat → Option (List Nat) := fun t => match t with | 36 => some [0, 1, 2, 3, 4, 5] | _ => none
/-- SluiceLogs.tell(IIZ)I -/
def bk_139 : Nat → List Ins := fun t => match t with
  | 0 => [(.aload_n 0, 0, 0, 0, 0), (.getfield 69, 8, 11, 2, 0), (.getfield 118, 4, 3, 0, 0), (.bipush 20, 0, 0, 0, 0), (.if_icmp .ge 20, 29, 0, 0, 0), (.aload_n 0, 0, 0, 0, 0), (.iload_n 1, 1, 0, 0, 0), (.invokevirtual 151, 101, 108, 1, 2), (.ifCond .eq 12, 29, 0, 0, 0), (.iconst 0, 0, 0, 0, 0), (.iload_n 2, 2, 0, 0, 0), (.iconst 2, 0, 0, 0, 0), (.invokestatic 224, 103, 0, 3, 3), (.ifCond .ne 5, 31, 0, 0, 0)]
  | 29 => [(.iconst (-1), 0, 0, 0, 0), (.ireturn, 0, 0, 0, 0)]
  | 31 => [(.aload_n 0, 0, 0, 0, 0), (.getfield 69, 8, 11, 2, 0), (.getfield 118, 4, 3, 0, 0), (.istore 4, 4, 0, 0, 0), (.aload_n 0, 0, 0, 0, 0), (.getfield 69, 8, 11, 2, 0), (.getfield 326, 4, 0, 2, 0), (.iload 4, 4, 0, 0, 0), (.iload_n 1, 1, 0, 0, 0), (.iastore, 0, 0, 0, 0), (.aload_n 0, 0, 0, 0, 0), (.getfield 69, 8, 11, 2, 0), (.getfield 329, 4, 1, 2, 0), (.iload 4, 4, 0, 0, 0), (.iload_n 2, 2, 0, 0, 0), (.iastore, 0, 0, 0, 0), (.aload_n 0, 0, 0, 0, 0), (.getfield 69, 8, 11, 2, 0), (.getfield 332, 4, 2, 2, 0), (.iload 4, 4, 0, 0, 0), (.iload_n 3, 3, 0, 0, 0), (.bastore, 0, 0, 0, 0), (.aload_n 0, 0, 0, 0, 0), (.getfield 69, 8, 11, 2, 0), (.dup, 0, 0, 0, 0), (.getfield 118, 4, 3, 0, 0), (.iconst 1, 0, 0, 0, 0), (.iadd, 0, 0, 0, 0), (.putfield 118, 4, 3, 0, 0), (.iload 4, 4, 0, 0, 0), (.ireturn, 0, 0, 0, 0)]
  | _ => []
set_option maxRecDepth 20000 in
theorem ck_139 : ∀ t, chkL 139 t (bk_139 t) = true := by
  intro t
  unfold bk_139
  split <;> first | decide +kernel | rfl
def cu_139 : Nat → Option (List Nat) := fun _ => none
/-- SluiceLogs.forget()I -/
def bk_140 : Nat → List Ins := fun t => match t with
  | 0 => [(.aload_n 0, 0, 0, 0, 0), (.getfield 69, 8, 11, 2, 0), (.getfield 118, 4, 3, 0, 0), (.istore_n 1, 1, 0, 0, 0), (.aload_n 0, 0, 0, 0, 0), (.getfield 69, 8, 11, 2, 0), (.iconst 0, 0, 0, 0, 0), (.putfield 118, 4, 3, 0, 0), (.iload_n 1, 1, 0, 0, 0), (.ireturn, 0, 0, 0, 0)]
  | _ => []
set_option maxRecDepth 20000 in
theorem ck_140 : ∀ t, chkL 140 t (bk_140 t) = true := by
  intro t
  unfold bk_140
  split <;> first | decide +kernel | rfl
def cu_140 : Nat → Option (List Nat) := fun _ => none
/-- SluiceLogs.fits(II)I -/
def bk_141 : Nat → List Ins := fun t => match t with
  | 0 => [(.iconst 0, 0, 0, 0, 0), (.iload_n 1, 1, 0, 0, 0), (.aload_n 0, 0, 0, 0, 0), (.getfield 69, 8, 11, 2, 0), (.getfield 118, 4, 3, 0, 0), (.invokestatic 224, 103, 0, 3, 3), (.ifCond .eq 12, 24, 0, 0, 0), (.iconst 0, 0, 0, 0, 0), (.iload_n 2, 2, 0, 0, 0), (.iconst 1, 0, 0, 0, 0), (.invokestatic 224, 103, 0, 3, 3), (.ifCond .ne 5, 26, 0, 0, 0)]
  | 24 => [(.iconst (-1), 0, 0, 0, 0), (.ireturn, 0, 0, 0, 0)]
  | 26 => [(.aload_n 0, 0, 0, 0, 0), (.invokevirtual 273, 117, 108, 0, 4), (.aload_n 0, 0, 0, 0, 0), (.iload_n 1, 1, 0, 0, 0), (.invokevirtual 335, 142, 108, 1, 4), (.istore_n 3, 3, 0, 0, 0), (.iload_n 2, 2, 0, 0, 0), (.ifCond .ne 10, 47, 0, 0, 0), (.iload_n 3, 3, 0, 0, 0), (.invokestatic 314, 284, 0, 1, 1), (.goto 4, 48, 0, 0, 0)]
  | 47 => [(.iload_n 3, 3, 0, 0, 0)]
  | 48 => [(.ireturn, 0, 0, 0, 0)]
  | _ => []
set_option maxRecDepth 20000 in
theorem ck_141 : ∀ t, chkL 141 t (bk_141 t) = true := by
  intro t
  unfold bk_141
  split <;> first | decide +kernel | rfl
def cu_141 : Nat → Option (List Nat) := fun _ => none
/-- SluiceLogs.stepsThatFit(I)I -/
def bk_142 : Nat → List Ins := fun t => match t with
  | 0 => [(.iconst 0, 0, 0, 0, 0), (.istore_n 2, 2, 0, 0, 0), (.iconst 0, 0, 0, 0, 0), (.istore_n 3, 3, 0, 0, 0)]
  | 4 => [(.iload_n 3, 3, 0, 0, 0), (.bipush 24, 0, 0, 0, 0), (.if_icmp .ge 43, 50, 0, 0, 0), (.aload_n 0, 0, 0, 0, 0), (.getfield 42, 8, 6, 2, 0), (.iload_n 3, 3, 0, 0, 0), (.invokevirtual 212, 69, 107, 1, 3), (.ifCond .eq 26, 44, 0, 0, 0), (.aload_n 0, 0, 0, 0, 0), (.getfield 69, 8, 11, 2, 0), (.aload_n 0, 0, 0, 0, 0), (.getfield 75, 8, 12, 2, 0), (.iload_n 3, 3, 0, 0, 0), (.aaload, 0, 0, 0, 0), (.iload_n 1, 1, 0, 0, 0), (.invokevirtual 338, 40, 104, 2, 4), (.ifCond .eq 9, 44, 0, 0, 0), (.iload_n 2, 2, 0, 0, 0), (.iconst 1, 0, 0, 0, 0), (.iload_n 3, 3, 0, 0, 0), (.ishl, 0, 0, 0, 0), (.ior, 0, 0, 0, 0), (.istore_n 2, 2, 0, 0, 0)]
  | 44 => [(.iinc 3 1, 3, 0, 0, 0), (.goto (-43), 4, 0, 0, 0)]
  | 50 => [(.iload_n 2, 2, 0, 0, 0), (.ireturn, 0, 0, 0, 0)]
  | _ => []
set_option maxRecDepth 20000 in
theorem ck_142 : ∀ t, chkL 142 t (bk_142 t) = true := by
  intro t
  unfold bk_142
  split <;> first | decide +kernel | rfl
def cu_142 : Nat → Option (List Nat) := fun t => match t with | 4 => some [0, 1, 2, 3] | _ => none
/-- SluiceLogs.ask(I)I -/
def bk_143 : Nat → List Ins := fun t => match t with
  | 0 => [(.iconst 0, 0, 0, 0, 0), (.iload_n 1, 1, 0, 0, 0), (.aload_n 0, 0, 0, 0, 0), (.getfield 69, 8, 11, 2, 0), (.getfield 118, 4, 3, 0, 0), (.invokestatic 224, 103, 0, 3, 3), (.ifCond .ne 5, 17, 0, 0, 0), (.iconst (-1), 0, 0, 0, 0), (.ireturn, 0, 0, 0, 0)]
  | 17 => [(.aload_n 0, 0, 0, 0, 0), (.invokevirtual 273, 117, 108, 0, 4), (.aload_n 0, 0, 0, 0, 0), (.iload_n 1, 1, 0, 0, 0), (.invokevirtual 335, 142, 108, 1, 4), (.istore_n 2, 2, 0, 0, 0), (.iload_n 2, 2, 0, 0, 0), (.ifCond .ne 6, 34, 0, 0, 0), (.bipush (-2), 0, 0, 0, 0), (.ireturn, 0, 0, 0, 0)]
  | 34 => [(.bipush (-2), 0, 0, 0, 0), (.istore_n 3, 3, 0, 0, 0), (.bipush 25, 0, 0, 0, 0), (.istore 4, 4, 0, 0, 0), (.iconst 0, 0, 0, 0, 0), (.istore 5, 5, 0, 0, 0)]
  | 44 => [(.iload 5, 5, 0, 0, 0), (.aload_n 0, 0, 0, 0, 0), (.getfield 23, 8, 3, 2, 0), (.getfield 202, 1, 1, 0, 0), (.if_icmp .ge 32, 85, 0, 0, 0), (.aload_n 0, 0, 0, 0, 0), (.iload_n 2, 2, 0, 0, 0), (.iload 5, 5, 0, 0, 0), (.invokevirtual 342, 144, 108, 2, 7), (.istore 6, 6, 0, 0, 0), (.iload 6, 6, 0, 0, 0), (.iload 4, 4, 0, 0, 0), (.if_icmp .ge 10, 79, 0, 0, 0), (.iload 6, 6, 0, 0, 0), (.istore 4, 4, 0, 0, 0), (.iload 5, 5, 0, 0, 0), (.istore_n 3, 3, 0, 0, 0)]
  | 79 => [(.iinc 5 1, 5, 0, 0, 0), (.goto (-38), 44, 0, 0, 0)]
  | 85 => [(.iload_n 3, 3, 0, 0, 0), (.ireturn, 0, 0, 0, 0)]
  | _ => []
set_option maxRecDepth 20000 in
theorem ck_143 : ∀ t, chkL 143 t (bk_143 t) = true := by
  intro t
  unfold bk_143
  split <;> first | decide +kernel | rfl
def cu_143 : Nat → Option (List Nat) := fun t => match t with | 44 => some [0, 2, 3, 4, 5] | _ => none
/-- SluiceLogs.leftAtWorst(II)I -/
def bk_144 : Nat → List Ins := fun t => match t with
  | 0 => [(.iconst 0, 0, 0, 0, 0), (.istore_n 3, 3, 0, 0, 0), (.iconst 0, 0, 0, 0, 0), (.istore 4, 4, 0, 0, 0)]
  | 5 => [(.iload 4, 4, 0, 0, 0), (.iconst 2, 0, 0, 0, 0), (.if_icmp .gt 62, 70, 0, 0, 0), (.iconst 0, 0, 0, 0, 0), (.istore 5, 5, 0, 0, 0), (.iconst 0, 0, 0, 0, 0), (.istore 6, 6, 0, 0, 0)]
  | 17 => [(.iload 6, 6, 0, 0, 0), (.bipush 24, 0, 0, 0, 0), (.if_icmp .ge 36, 57, 0, 0, 0), (.iload_n 1, 1, 0, 0, 0), (.iload 6, 6, 0, 0, 0), (.ishr, 0, 0, 0, 0), (.iconst 1, 0, 0, 0, 0), (.iand, 0, 0, 0, 0), (.iconst 1, 0, 0, 0, 0), (.if_icmp .ne 20, 51, 0, 0, 0), (.aload_n 0, 0, 0, 0, 0), (.getfield 75, 8, 12, 2, 0), (.iload 6, 6, 0, 0, 0), (.aaload, 0, 0, 0, 0), (.iload_n 2, 2, 0, 0, 0), (.iaload, 0, 0, 0, 0), (.iload 4, 4, 0, 0, 0), (.if_icmp .ne 6, 51, 0, 0, 0), (.iinc 5 1, 5, 0, 0, 0)]
  | 51 => [(.iinc 6 1, 6, 0, 0, 0), (.goto (-37), 17, 0, 0, 0)]
  | 57 => [(.iload_n 3, 3, 0, 0, 0), (.iload 5, 5, 0, 0, 0), (.invokestatic 305, 285, 0, 2, 2), (.istore_n 3, 3, 0, 0, 0), (.iinc 4 1, 4, 0, 0, 0), (.goto (-62), 5, 0, 0, 0)]
  | 70 => [(.iload_n 3, 3, 0, 0, 0), (.ireturn, 0, 0, 0, 0)]
  | _ => []
set_option maxRecDepth 20000 in
theorem ck_144 : ∀ t, chkL 144 t (bk_144 t) = true := by
  intro t
  unfold bk_144
  split <;> first | decide +kernel | rfl
def cu_144 : Nat → Option (List Nat) := fun t => match t with | 5 => some [0, 1, 2, 3, 4] | 17 => some [0, 1, 2, 3, 4, 5, 6] | _ => none
/-- SluiceLogs.hold(I)Z -/
def bk_145 : Nat → List Ins := fun t => match t with
  | 0 => [(.iconst 0, 0, 0, 0, 0), (.iload_n 1, 1, 0, 0, 0), (.iconst 2, 0, 0, 0, 0), (.invokestatic 224, 103, 0, 3, 3), (.ifCond .ne 5, 11, 0, 0, 0), (.iconst 0, 0, 0, 0, 0), (.ireturn, 3, 0, 0, 0)]
  | 11 => [(.aload_n 0, 0, 0, 0, 0), (.getfield 58, 8, 9, 2, 0), (.iload_n 1, 1, 0, 0, 0), (.aaload, 0, 0, 0, 0), (.aload_n 0, 0, 0, 0, 0), (.getfield 42, 8, 6, 2, 0), (.getfield 101, 7, 1, 2, 0), (.invokevirtual 108, 38, 103, 1, 2), (.aload_n 0, 0, 0, 0, 0), (.getfield 62, 8, 10, 2, 0), (.iload_n 1, 1, 0, 0, 0), (.iconst 1, 0, 0, 0, 0), (.bastore, 0, 0, 0, 0), (.iconst 1, 0, 0, 0, 0), (.ireturn, 3, 0, 0, 0)]
  | _ => []
set_option maxRecDepth 20000 in
theorem ck_145 : ∀ t, chkL 145 t (bk_145 t) = true := by
  intro t
  unfold bk_145
  split <;> first | decide +kernel | rfl
def cu_145 : Nat → Option (List Nat) := fun _ => none
/-- SluiceLogs.restore(I)Z -/
def bk_146 : Nat → List Ins := fun t => match t with
  | 0 => [(.iconst 0, 0, 0, 0, 0), (.iload_n 1, 1, 0, 0, 0), (.iconst 2, 0, 0, 0, 0), (.invokestatic 224, 103, 0, 3, 3), (.ifCond .eq 12, 18, 0, 0, 0), (.aload_n 0, 0, 0, 0, 0), (.getfield 62, 8, 10, 2, 0), (.iload_n 1, 1, 0, 0, 0), (.baload, 0, 0, 0, 0), (.ifCond .ne 5, 20, 0, 0, 0)]
  | 18 => [(.iconst 0, 0, 0, 0, 0), (.ireturn, 3, 0, 0, 0)]
  | 20 => [(.aload_n 0, 0, 0, 0, 0), (.getfield 42, 8, 6, 2, 0), (.getfield 101, 7, 1, 2, 0), (.aload_n 0, 0, 0, 0, 0), (.getfield 58, 8, 9, 2, 0), (.iload_n 1, 1, 0, 0, 0), (.aaload, 0, 0, 0, 0), (.invokevirtual 108, 38, 103, 1, 2), (.aload_n 0, 0, 0, 0, 0), (.getfield 42, 8, 6, 2, 0), (.invokevirtual 112, 65, 107, 0, 1), (.aload_n 0, 0, 0, 0, 0), (.getfield 52, 8, 8, 2, 0), (.iconst 0, 0, 0, 0, 0), (.putfield 115, 0, 2, 0, 0), (.iconst 1, 0, 0, 0, 0), (.ireturn, 3, 0, 0, 0)]
  | _ => []
set_option maxRecDepth 20000 in
theorem ck_146 : ∀ t, chkL 146 t (bk_146 t) = true := by
  intro t
  unfold bk_146
  split <;> first | decide +kernel | rfl
def cu_146 : Nat → Option (List Nat) := fun _ => none
/-- SluiceLogs.count(I)I -/
def bk_147 : Nat → List Ins := fun t => match t with
  | 0 => [(.iload_n 1, 1, 0, 0, 0), (.tableswitch 191 0 13 #[71, 79, 87, 95, 106, 117, 128, 147, 152, 157, 165, 173, 178, 186], 0, 0, 0, 0)]
  | 72 => [(.aload_n 0, 0, 0, 0, 0), (.getfield 23, 8, 3, 2, 0), (.getfield 199, 1, 0, 0, 0), (.ireturn, 0, 0, 0, 0)]
  | 80 => [(.aload_n 0, 0, 0, 0, 0), (.getfield 23, 8, 3, 2, 0), (.getfield 202, 1, 1, 0, 0), (.ireturn, 0, 0, 0, 0)]
  | 88 => [(.aload_n 0, 0, 0, 0, 0), (.getfield 23, 8, 3, 2, 0), (.getfield 205, 1, 2, 0, 0), (.ireturn, 0, 0, 0, 0)]
  | 96 => [(.aload_n 0, 0, 0, 0, 0), (.getfield 42, 8, 6, 2, 0), (.getfield 101, 7, 1, 2, 0), (.getfield 238, 3, 5, 0, 0), (.ireturn, 0, 0, 0, 0)]
  | 107 => [(.aload_n 0, 0, 0, 0, 0), (.getfield 42, 8, 6, 2, 0), (.getfield 101, 7, 1, 2, 0), (.getfield 221, 3, 6, 0, 0), (.ireturn, 0, 0, 0, 0)]
  | 118 => [(.aload_n 0, 0, 0, 0, 0), (.getfield 42, 8, 6, 2, 0), (.getfield 101, 7, 1, 2, 0), (.getfield 228, 3, 4, 0, 0), (.ireturn, 0, 0, 0, 0)]
  | 129 => [(.aload_n 0, 0, 0, 0, 0), (.getfield 42, 8, 6, 2, 0), (.getfield 123, 7, 2, 2, 0), (.getfield 263, 6, 0, 0, 0), (.ifCond .eq 7, 146, 0, 0, 0), (.iconst 1, 0, 0, 0, 0), (.goto 4, 147, 0, 0, 0)]
  | 146 => [(.iconst 0, 0, 0, 0, 0)]
  | 147 => [(.ireturn, 0, 0, 0, 0)]
  | 148 => [(.aload_n 0, 0, 0, 0, 0), (.invokevirtual 345, 148, 108, 0, 3), (.ireturn, 0, 0, 0, 0)]
  | 153 => [(.aload_n 0, 0, 0, 0, 0), (.getfield 13, 8, 1, 0, 0), (.ireturn, 0, 0, 0, 0)]
  | 158 => [(.aload_n 0, 0, 0, 0, 0), (.getfield 52, 8, 8, 2, 0), (.getfield 115, 0, 2, 0, 0), (.ireturn, 0, 0, 0, 0)]
  | 166 => [(.aload_n 0, 0, 0, 0, 0), (.getfield 69, 8, 11, 2, 0), (.getfield 118, 4, 3, 0, 0), (.ireturn, 0, 0, 0, 0)]
  | 174 => [(.aload_n 0, 0, 0, 0, 0), (.invokevirtual 348, 149, 108, 0, 3), (.ireturn, 0, 0, 0, 0)]
  | 179 => [(.aload_n 0, 0, 0, 0, 0), (.getfield 42, 8, 6, 2, 0), (.invokevirtual 311, 84, 107, 0, 3), (.ireturn, 0, 0, 0, 0)]
  | 187 => [(.aload_n 0, 0, 0, 0, 0), (.invokevirtual 351, 150, 108, 0, 3), (.ireturn, 0, 0, 0, 0)]
  | 192 => [(.iconst (-1), 0, 0, 0, 0), (.ireturn, 0, 0, 0, 0)]
  | _ => []
set_option maxRecDepth 20000 in
theorem ck_147 : ∀ t, chkL 147 t (bk_147 t) = true := by
  intro t
  unfold bk_147
  split <;> first | decide +kernel | rfl
def cu_147 : Nat → Option (List Nat) := fun _ => none
/-- SluiceLogs.flowOfAll()I -/
def bk_148 : Nat → List Ins := fun t => match t with
  | 0 => [(.iconst 0, 0, 0, 0, 0), (.istore_n 1, 1, 0, 0, 0), (.iconst 0, 0, 0, 0, 0), (.istore_n 2, 2, 0, 0, 0)]
  | 4 => [(.iload_n 2, 2, 0, 0, 0), (.aload_n 0, 0, 0, 0, 0), (.getfield 23, 8, 3, 2, 0), (.getfield 202, 1, 1, 0, 0), (.if_icmp .ge 24, 36, 0, 0, 0), (.iload_n 1, 1, 0, 0, 0), (.aload_n 0, 0, 0, 0, 0), (.getfield 42, 8, 6, 2, 0), (.getfield 123, 7, 2, 2, 0), (.getfield 157, 6, 7, 2, 0), (.iload_n 2, 2, 0, 0, 0), (.iaload, 0, 0, 0, 0), (.iadd, 0, 0, 0, 0), (.istore_n 1, 1, 0, 0, 0), (.iinc 2 1, 2, 0, 0, 0), (.goto (-29), 4, 0, 0, 0)]
  | 36 => [(.iload_n 1, 1, 0, 0, 0), (.ireturn, 0, 0, 0, 0)]
  | _ => []
set_option maxRecDepth 20000 in
theorem ck_148 : ∀ t, chkL 148 t (bk_148 t) = true := by
  intro t
  unfold bk_148
  split <;> first | decide +kernel | rfl
def cu_148 : Nat → Option (List Nat) := fun t => match t with | 4 => some [0, 1, 2] | _ => none
/-- SluiceLogs.slotsThatHold()I -/
def bk_149 : Nat → List Ins := fun t => match t with
  | 0 => [(.iconst 0, 0, 0, 0, 0), (.istore_n 1, 1, 0, 0, 0), (.iconst 0, 0, 0, 0, 0), (.istore_n 2, 2, 0, 0, 0)]
  | 4 => [(.iload_n 2, 2, 0, 0, 0), (.iconst 3, 0, 0, 0, 0), (.if_icmp .ge 26, 32, 0, 0, 0), (.iload_n 1, 1, 0, 0, 0), (.aload_n 0, 0, 0, 0, 0), (.getfield 62, 8, 10, 2, 0), (.iload_n 2, 2, 0, 0, 0), (.baload, 0, 0, 0, 0), (.ifCond .eq 7, 23, 0, 0, 0), (.iconst 1, 0, 0, 0, 0), (.goto 4, 24, 0, 0, 0)]
  | 23 => [(.iconst 0, 0, 0, 0, 0)]
  | 24 => [(.iadd, 0, 0, 0, 0), (.istore_n 1, 1, 0, 0, 0), (.iinc 2 1, 2, 0, 0, 0), (.goto (-25), 4, 0, 0, 0)]
  | 32 => [(.iload_n 1, 1, 0, 0, 0), (.ireturn, 0, 0, 0, 0)]
  | _ => []
set_option maxRecDepth 20000 in
theorem ck_149 : ∀ t, chkL 149 t (bk_149 t) = true := by
  intro t
  unfold bk_149
  split <;> first | decide +kernel | rfl
def cu_149 : Nat → Option (List Nat) := fun t => match t with | 4 => some [0, 1, 2] | _ => none
/-- SluiceLogs.stepsThatCanBe()I -/
def bk_150 : Nat → List Ins := fun t => match t with
  | 0 => [(.iconst 0, 0, 0, 0, 0), (.istore_n 1, 1, 0, 0, 0), (.iconst 0, 0, 0, 0, 0), (.istore_n 2, 2, 0, 0, 0)]
  | 4 => [(.iload_n 2, 2, 0, 0, 0), (.bipush 24, 0, 0, 0, 0), (.if_icmp .ge 26, 33, 0, 0, 0), (.aload_n 0, 0, 0, 0, 0), (.getfield 42, 8, 6, 2, 0), (.iload_n 2, 2, 0, 0, 0), (.invokevirtual 212, 69, 107, 1, 3), (.ifCond .eq 9, 27, 0, 0, 0), (.iload_n 1, 1, 0, 0, 0), (.iconst 1, 0, 0, 0, 0), (.iload_n 2, 2, 0, 0, 0), (.ishl, 0, 0, 0, 0), (.ior, 0, 0, 0, 0), (.istore_n 1, 1, 0, 0, 0)]
  | 27 => [(.iinc 2 1, 2, 0, 0, 0), (.goto (-26), 4, 0, 0, 0)]
  | 33 => [(.iload_n 1, 1, 0, 0, 0), (.ireturn, 0, 0, 0, 0)]
  | _ => []
set_option maxRecDepth 20000 in
theorem ck_150 : ∀ t, chkL 150 t (bk_150 t) = true := by
  intro t
  unfold bk_150
  split <;> first | decide +kernel | rfl
def cu_150 : Nat → Option (List Nat) := fun t => match t with | 4 => some [0, 1, 2] | _ => none
/-- SluiceLogs.greatestDivisor(JJ)J -/
def bk_151 : Nat → List Ins := fun t => match t with
  | 0 => [(.lload_n 0, 0, 0, 0, 0), (.lstore 4, 4, 0, 0, 0), (.lload_n 2, 2, 0, 0, 0), (.lstore 6, 6, 0, 0, 0), (.iconst 0, 0, 0, 0, 0), (.istore 8, 8, 0, 0, 0)]
  | 9 => [(.iload 8, 8, 0, 0, 0), (.sipush 200, 0, 0, 0, 0), (.if_icmp .ge 31, 45, 0, 0, 0), (.lload 6, 6, 0, 0, 0), (.lconst 0, 0, 0, 0, 0), (.lcmp, 0, 0, 0, 0), (.ifCond .eq 24, 45, 0, 0, 0), (.lload 4, 4, 0, 0, 0), (.lload 6, 6, 0, 0, 0), (.lrem, 0, 0, 0, 0), (.lstore 9, 9, 0, 0, 0), (.lload 6, 6, 0, 0, 0), (.lstore 4, 4, 0, 0, 0), (.lload 9, 9, 0, 0, 0), (.lstore 6, 6, 0, 0, 0), (.iinc 8 1, 8, 0, 0, 0), (.goto (-33), 9, 0, 0, 0)]
  | 45 => [(.lload 4, 4, 0, 0, 0), (.lreturn, 0, 0, 0, 0)]
  | _ => []
set_option maxRecDepth 20000 in
theorem ck_151 : ∀ t, chkL 151 t (bk_151 t) = true := by
  intro t
  unfold bk_151
  split <;> first | decide +kernel | rfl
def cu_151 : Nat → Option (List Nat) := fun t => match t with | 9 => some [4, 6, 8] | _ => none
/-- SluiceLogs.overInLeast(JJ)I -/
def bk_152 : Nat → List Ins := fun t => match t with
  | 0 => [(.lload_n 0, 0, 0, 0, 0), (.lload_n 2, 2, 0, 0, 0), (.invokestatic 354, 151, 0, 2, 11), (.lstore 4, 4, 0, 0, 0), (.lload 4, 4, 0, 0, 0), (.lconst 0, 0, 0, 0, 0), (.lcmp, 0, 0, 0, 0), (.ifCond .ne 7, 18, 0, 0, 0), (.iconst 0, 0, 0, 0, 0), (.goto 8, 23, 0, 0, 0)]
  | 18 => [(.lload_n 0, 0, 0, 0, 0), (.lload 4, 4, 0, 0, 0), (.ldiv, 0, 0, 0, 0), (.l2i, 0, 0, 0, 0)]
  | 23 => [(.ireturn, 0, 0, 0, 0)]
  | _ => []
set_option maxRecDepth 20000 in
theorem ck_152 : ∀ t, chkL 152 t (bk_152 t) = true := by
  intro t
  unfold bk_152
  split <;> first | decide +kernel | rfl
def cu_152 : Nat → Option (List Nat) := fun _ => none
/-- SluiceLogs.underInLeast(JJ)I -/
def bk_153 : Nat → List Ins := fun t => match t with
  | 0 => [(.lload_n 0, 0, 0, 0, 0), (.lload_n 2, 2, 0, 0, 0), (.invokestatic 354, 151, 0, 2, 11), (.lstore 4, 4, 0, 0, 0), (.lload 4, 4, 0, 0, 0), (.lconst 0, 0, 0, 0, 0), (.lcmp, 0, 0, 0, 0), (.ifCond .ne 7, 18, 0, 0, 0), (.iconst 0, 0, 0, 0, 0), (.goto 8, 23, 0, 0, 0)]
  | 18 => [(.lload_n 2, 2, 0, 0, 0), (.lload 4, 4, 0, 0, 0), (.ldiv, 0, 0, 0, 0), (.l2i, 0, 0, 0, 0)]
  | 23 => [(.ireturn, 0, 0, 0, 0)]
  | _ => []
set_option maxRecDepth 20000 in
theorem ck_153 : ∀ t, chkL 153 t (bk_153 t) = true := by
  intro t
  unfold bk_153
  split <;> first | decide +kernel | rfl
def cu_153 : Nat → Option (List Nat) := fun _ => none

/-! a list of instructions as a condition on the state ahead of it -/
abbrev Ins : Type := Instr × Nat × Nat × Nat × Nat
abbrev Kont : Type := Nat → List (Nat × V) → List V → Mem → Nat → Nat → Prop
def popI (st : List V) (f : Int32 → List V → Prop) : Prop := match st with
  | .inl x :: t => f x t
  | _ => False
def popL (st : List V) (f : Int64 → List V → Prop) : Prop := match st with
  | .inr (.inl x) :: t => f x t
  | _ => False
def popR (st : List V) (f : Nat → Nat → List V → Prop) : Prop := match st with
  | .inr (.inr (r, i)) :: t => f r i t
  | _ => False
def pop1 (st : List V) (f : V → List V → Prop) : Prop := match st with
  | v :: t => f v t
  | _ => False
def popN : Nat → List V → List V → (List V → List V → Prop) → Prop
  | 0, acc, st, f => f acc st
  | _ + 1, _, [], _ => False
  | n + 1, acc, v :: t, f => popN n (v :: acc) t f
def ld (ls : List (Nat × V)) (i : Nat) (f : V → Prop) : Prop := match lget ls i with
  | some v => f v
  | none => False
/-- a switch's ways -/
def swC (pc : Nat) (x : Int32) (f : Nat → Prop) : Int → List Int → Prop
  | _, [] => True
  | v, o :: t => (x.toInt = v → f ((pc : Int) + o).toNat) ∧ swC pc x f (v + 1) t
theorem popI_of {st : List V} {f : Int32 → List V → Prop} (h : popI st f) : ∃ x t, st = vi x :: t ∧ f x t := by
  unfold popI at h
  split at h
  · exact ⟨_, _, rfl, h⟩
  · exact h.elim
theorem popL_of {st : List V} {f : Int64 → List V → Prop} (h : popL st f) : ∃ x t, st = vl x :: t ∧ f x t := by
  unfold popL at h
  split at h
  · exact ⟨_, _, rfl, h⟩
  · exact h.elim
theorem popR_of {st : List V} {f : Nat → Nat → List V → Prop} (h : popR st f) : ∃ r i t, st = vr r i :: t ∧ f r i t := by
  unfold popR at h
  split at h
  · exact ⟨_, _, _, rfl, h⟩
  · exact h.elim
theorem pop1_of {st : List V} {f : V → List V → Prop} (h : pop1 st f) : ∃ v t, st = v :: t ∧ f v t := by
  unfold pop1 at h
  split at h
  · exact ⟨_, _, rfl, h⟩
  · exact h.elim
theorem popN_of : ∀ (n : Nat) (acc st : List V) {f : List V → List V → Prop}, popN n acc st f → ∃ As t, As.length = n ∧ st = As.reverse ++ t ∧ f (As ++ acc) t
  | 0, acc, st, f, h => ⟨[], st, rfl, rfl, h⟩
  | n + 1, acc, [], f, h => h.elim
  | n + 1, acc, v :: t, f, h => by
    obtain ⟨As, t', h1, h2, h3⟩ := popN_of n (v :: acc) t h
    exact ⟨As ++ [v], t', by simp [h1], by simp [h2], by simpa using h3⟩
theorem ld_of {ls : List (Nat × V)} {i : Nat} {f : V → Prop} (h : ld ls i f) : ∃ v, lget ls i = some v ∧ f v := by
  unfold ld at h
  split at h
  · exact ⟨_, by assumption, h⟩
  · exact h.elim
theorem swC_of {pc : Nat} {x : Int32} {f : Nat → Prop} : ∀ (t : List Int) (v : Int) (j : Nat), swC pc x f v t → j < t.length → x.toInt = v + j → f ((pc : Int) + t.getD j 0).toNat
  | [], v, j, h, hj, e => absurd hj (Nat.not_lt_zero _)
  | o :: t, v, 0, h, hj, e => by
    have := h.1 (by omega)
    simpa using this
  | o :: t, v, j + 1, h, hj, e => by
    have := swC_of t (v + 1) j h.2 (by simpa using hj) (by omega)
    simpa using this
/-- how long an instruction is -/
def ilen : Instr → Nat
  | .iadd => 1
  | .isub => 1
  | .imul => 1
  | .iand => 1
  | .ior => 1
  | .ixor => 1
  | .ishl => 1
  | .ishr => 1
  | .iushr => 1
  | .idiv => 1
  | .irem => 1
  | .ladd => 1
  | .lsub => 1
  | .lmul => 1
  | .ldiv => 1
  | .lrem => 1
  | .lcmp => 1
  | .i2l => 1
  | .l2i => 1
  | .i2b => 1
  | .dup => 1
  | .dup2 => 1
  | .iaload => 1
  | .laload => 1
  | .baload => 1
  | .aaload => 1
  | .iastore => 1
  | .lastore => 1
  | .bastore => 1
  | .aastore => 1
  | .arraylength => 1
  | .ireturn => 1
  | .lreturn => 1
  | .return_ => 1
  | .iload_n _ => 1
  | .lload_n _ => 1
  | .aload_n _ => 1
  | .istore_n _ => 1
  | .lstore_n _ => 1
  | .astore_n _ => 1
  | .iconst _ => 1
  | .lconst _ => 1
  | .iload _ => 2
  | .lload _ => 2
  | .aload _ => 2
  | .istore _ => 2
  | .lstore _ => 2
  | .astore _ => 2
  | .bipush _ => 2
  | .newarray _ => 2
  | .ldc _ => 2
  | .sipush _ => 3
  | .ldc_w _ => 3
  | .ldc2_w _ => 3
  | .getfield _ => 3
  | .putfield _ => 3
  | .invokevirtual _ => 3
  | .invokestatic _ => 3
  | .invokespecial _ => 3
  | .new _ => 3
  | .anewarray _ => 3
  | .goto _ => 3
  | .iinc _ _ => 3
  | .if_icmp _ _ => 3
  | .ifCond _ _ => 3
  | .multianewarray _ _ => 4
  | _ => 0
/-- room on the stack below a call's arguments, and for them -/
abbrev stOK (st As : List V) (d : Nat) : Prop := (st.map catV).sum ≤ 8 ∧ (As.map catV).sum ≤ d
def step (md md' k : Nat) (F J : Kont) (Q : Option V → Mem → Prop) (i : Ins) (pc : Nat) (ls : List (Nat × V)) (st : List V) (μ : Mem) (nc ns : Nat) : Prop := match i with
  | (i, a, b, c, d) => match i with
  | .iadd => popI st fun y st => popI st fun x st => F (pc + 1) ls (vi (x + y) :: st) μ nc ns
  | .isub => popI st fun y st => popI st fun x st => F (pc + 1) ls (vi (x - y) :: st) μ nc ns
  | .imul => popI st fun y st => popI st fun x st => F (pc + 1) ls (vi (x * y) :: st) μ nc ns
  | .iand => popI st fun y st => popI st fun x st => F (pc + 1) ls (vi (x &&& y) :: st) μ nc ns
  | .ior => popI st fun y st => popI st fun x st => F (pc + 1) ls (vi (x ||| y) :: st) μ nc ns
  | .ixor => popI st fun y st => popI st fun x st => F (pc + 1) ls (vi (x ^^^ y) :: st) μ nc ns
  | .ishl => popI st fun y st => popI st fun x st => F (pc + 1) ls (vi (x <<< (y &&& 31)) :: st) μ nc ns
  | .ishr => popI st fun y st => popI st fun x st => F (pc + 1) ls (vi (x >>> (y &&& 31)) :: st) μ nc ns
  | .iushr => popI st fun y st => popI st fun x st => F (pc + 1) ls (vi ((x.toUInt32 >>> (y.toUInt32 &&& Int32.toUInt32 31)).toInt32) :: st) μ nc ns
  | .idiv => popI st fun y st => popI st fun x st => ¬ y = 0 ∧ F (pc + 1) ls (vi (x / y) :: st) μ nc ns
  | .irem => popI st fun y st => popI st fun x st => ¬ y = 0 ∧ F (pc + 1) ls (vi (x - x / y * y) :: st) μ nc ns
  | .ladd => popL st fun y st => popL st fun x st => F (pc + 1) ls (vl (x + y) :: st) μ nc ns
  | .lsub => popL st fun y st => popL st fun x st => F (pc + 1) ls (vl (x - y) :: st) μ nc ns
  | .lmul => popL st fun y st => popL st fun x st => F (pc + 1) ls (vl (x * y) :: st) μ nc ns
  | .ldiv => popL st fun y st => popL st fun x st => ¬ y = 0 ∧ F (pc + 1) ls (vl (x / y) :: st) μ nc ns
  | .lrem => popL st fun y st => popL st fun x st => ¬ y = 0 ∧ F (pc + 1) ls (vl (x - x / y * y) :: st) μ nc ns
  | .lcmp => popL st fun y st => popL st fun x st => F (pc + 1) ls (vi (lg_cmp x y) :: st) μ nc ns
  | .i2l => popI st fun x st => F (pc + 1) ls (vl x.toInt64 :: st) μ nc ns
  | .l2i => popL st fun x st => F (pc + 1) ls (vi x.toInt32 :: st) μ nc ns
  | .i2b => popI st fun x st => F (pc + 1) ls (vi x.toInt8.toInt32 :: st) μ nc ns
  | .iconst n => F (pc + 1) ls (vi (Int32.ofInt n) :: st) μ nc ns
  | .bipush n => F (pc + 2) ls (vi (Int32.ofInt n) :: st) μ nc ns
  | .sipush n => F (pc + 3) ls (vi (Int32.ofInt n) :: st) μ nc ns
  | .lconst n => F (pc + 1) ls (vl (Int64.ofNat (n : Nat)) :: st) μ nc ns
  | .ldc n => match b with | 0 => F (pc + 2) ls (vi (Int32.ofNat a) :: st) μ nc ns | _ => F (pc + 2) ls (vr 3 a :: st) μ nc ns
  | .ldc_w n => F (pc + 3) ls (vi (Int32.ofNat a) :: st) μ nc ns
  | .ldc2_w n => F (pc + 3) ls (vl (Int64.ofNat a) :: st) μ nc ns
  | .iload_n n => ld ls a fun v => popI [v] fun x _ => F (pc + 1) ls (vi x :: st) μ nc ns
  | .lload_n n => ld ls a fun v => popL [v] fun x _ => F (pc + 1) ls (vl x :: st) μ nc ns
  | .aload_n n => ld ls a fun v => popR [v] fun r j _ => F (pc + 1) ls (vr r j :: st) μ nc ns
  | .istore_n n => popI st fun x st => F (pc + 1) (lput1 ls a (vi x)) st μ nc ns
  | .lstore_n n => popL st fun x st => F (pc + 1) (lput2 ls a (vl x)) st μ nc ns
  | .astore_n n => popR st fun r j st => F (pc + 1) (lput1 ls a (vr r j)) st μ nc ns
  | .iload n => ld ls a fun v => popI [v] fun x _ => F (pc + 2) ls (vi x :: st) μ nc ns
  | .lload n => ld ls a fun v => popL [v] fun x _ => F (pc + 2) ls (vl x :: st) μ nc ns
  | .aload n => ld ls a fun v => popR [v] fun r j _ => F (pc + 2) ls (vr r j :: st) μ nc ns
  | .istore n => popI st fun x st => F (pc + 2) (lput1 ls a (vi x)) st μ nc ns
  | .lstore n => popL st fun x st => F (pc + 2) (lput2 ls a (vl x)) st μ nc ns
  | .astore n => popR st fun r j st => F (pc + 2) (lput1 ls a (vr r j)) st μ nc ns
  | .iinc n m => ld ls a fun v => popI [v] fun x _ => F (pc + 3) (lput1 ls a (vi (x + Int32.ofInt m))) st μ nc ns
  | .if_icmp n m => popI st fun y st => popI st fun x st => match n with | .eq => (x = y → J a ls st μ nc ns) ∧ (¬ x = y → F (pc + 3) ls st μ nc ns) | .ne => (¬ x = y → J a ls st μ nc ns) ∧ (x = y → F (pc + 3) ls st μ nc ns) | .lt => (x < y → J a ls st μ nc ns) ∧ (¬ x < y → F (pc + 3) ls st μ nc ns) | .ge => (y ≤ x → J a ls st μ nc ns) ∧ (¬ y ≤ x → F (pc + 3) ls st μ nc ns) | .gt => (y < x → J a ls st μ nc ns) ∧ (¬ y < x → F (pc + 3) ls st μ nc ns) | .le => (x ≤ y → J a ls st μ nc ns) ∧ (¬ x ≤ y → F (pc + 3) ls st μ nc ns)
  | .ifCond n m => popI st fun x st => match n with | .eq => (x = 0 → J a ls st μ nc ns) ∧ (¬ x = 0 → F (pc + 3) ls st μ nc ns) | .ne => (¬ x = 0 → J a ls st μ nc ns) ∧ (x = 0 → F (pc + 3) ls st μ nc ns) | .lt => (x < 0 → J a ls st μ nc ns) ∧ (¬ x < 0 → F (pc + 3) ls st μ nc ns) | .ge => (0 ≤ x → J a ls st μ nc ns) ∧ (¬ 0 ≤ x → F (pc + 3) ls st μ nc ns) | .gt => (0 < x → J a ls st μ nc ns) ∧ (¬ 0 < x → F (pc + 3) ls st μ nc ns) | .le => (x ≤ 0 → J a ls st μ nc ns) ∧ (¬ x ≤ 0 → F (pc + 3) ls st μ nc ns)
  | .goto n => J a ls st μ nc ns
  | .tableswitch dflt lo hi offs => popI st fun x st => (x.toInt < lo ∨ hi < x.toInt → J ((pc : Int) + dflt).toNat ls st μ nc ns) ∧ swC pc x (fun t => J t ls st μ nc ns) lo offs.toList
  | .getfield n => popR st fun r j st => rkd r = a ∧ j < mC μ r ∧ (match c with | 0 => F (pc + 3) ls (vi (mI μ r j b) :: st) μ nc ns | 1 => F (pc + 3) ls (vl (mL μ r j b) :: st) μ nc ns | _ => ∃ j2, refI md μ r j b = j2 ∧ F (pc + 3) ls (vr (rel r b) j2 :: st) μ nc ns)
  | .putfield n => match c with
    | 0 => popI st fun x st => popR st fun r j st => rkd r = a ∧ j < mC μ r ∧ F (pc + 3) ls st (rowI μ r j (up (mI μ r j) b x)) nc ns
    | 1 => popL st fun x st => popR st fun r j st => rkd r = a ∧ j < mC μ r ∧ F (pc + 3) ls st (rowL μ r j (up (mL μ r j) b x)) nc ns
    | 2 => popR st fun r' j' st => popR st fun r j st => rkd r = a ∧ j < mC μ r ∧ r' = rel r b ∧ (isS r b = 0 ∨ md < isS r b) ∧ j' < mC μ r' ∧ F (pc + 3) ls st (rowR μ r j (up (mR μ r j) b j')) nc ns
    | _ => popI st fun x st => popR st fun r j st => rkd r = a ∧ j < mC μ r ∧ (x = 0 ∨ x = 1) ∧ F (pc + 3) ls st (rowI μ r j (up (mI μ r j) b x)) nc ns
  | .iaload => popI st fun j st => popR st fun r i st => rkd r = 10 ∧ i < mC μ r ∧ vp_in j (rsz r) ∧ F (pc + 1) ls (vi (mI μ r i j.toNatClampNeg) :: st) μ nc ns
  | .laload => popI st fun j st => popR st fun r i st => rkd r = 11 ∧ i < mC μ r ∧ vp_in j (rsz r) ∧ F (pc + 1) ls (vl (mL μ r i j.toNatClampNeg) :: st) μ nc ns
  | .baload => popI st fun j st => popR st fun r i st => (rkd r = 12 ∨ rkd r = 13) ∧ i < mC μ r ∧ vp_in j (rsz r) ∧ F (pc + 1) ls (vi (mI μ r i j.toNatClampNeg) :: st) μ nc ns
  | .aaload => popI st fun j st => popR st fun r i st => (14 ≤ rkd r ∧ rkd r ≤ 16) ∧ i < mC μ r ∧ vp_in j (rsz r) ∧ ∃ j2, refI md μ r i j.toNatClampNeg = j2 ∧ F (pc + 1) ls (vr (rel r 0) j2 :: st) μ nc ns
  | .iastore => popI st fun x st => popI st fun j st => popR st fun r i st => rkd r = 10 ∧ i < mC μ r ∧ vp_in j (rsz r) ∧ F (pc + 1) ls st (rowI μ r i (up (mI μ r i) j.toNatClampNeg x)) nc ns
  | .lastore => popL st fun x st => popI st fun j st => popR st fun r i st => rkd r = 11 ∧ i < mC μ r ∧ vp_in j (rsz r) ∧ F (pc + 1) ls st (rowL μ r i (up (mL μ r i) j.toNatClampNeg x)) nc ns
  | .bastore => popI st fun x st => popI st fun j st => popR st fun r i st => (rkd r = 12 ∨ rkd r = 13) ∧ i < mC μ r ∧ vp_in j (rsz r) ∧ F (pc + 1) ls st (rowI μ r i (up (mI μ r i) j.toNatClampNeg (if rkd r = 12 then x &&& 1 else x.toInt8.toInt32))) nc ns
  | .aastore => popR st fun r' i' st => popI st fun j st => popR st fun r i st => rkd r = 14 ∧ i < mC μ r ∧ vp_in j (rsz r) ∧ rkd r' = 3 ∧ i' < mC μ r' ∧ rel r 0 = r' ∧ (isS r 0 = 0 ∨ md < isS r 0) ∧ F (pc + 1) ls st (rowR μ r i (up (mR μ r i) j.toNatClampNeg i')) nc ns
  | .arraylength => popR st fun r i st => (10 ≤ rkd r ∧ rkd r ≤ 16) ∧ i < mC μ r ∧ F (pc + 1) ls (vi (nI (rsz r)) :: st) μ nc ns
  | .dup => pop1 st fun v st => isL v = false ∧ F (pc + 1) ls (v :: v :: st) μ nc ns
  | .dup2 => pop1 st fun v st => pop1 st fun w st => isL v = false ∧ isL w = false ∧ F (pc + 1) ls (v :: w :: v :: w :: st) μ nc ns
  | .ireturn => popI st fun x st => st = [] ∧ md = md' ∧ (a = 0 ∨ x = 0 ∨ x = 1) ∧ nc ≤ mAc k ∧ ns ≤ mAs k ∧ Q (some (vi x)) μ
  | .lreturn => popL st fun x st => st = [] ∧ md = md' ∧ nc ≤ mAc k ∧ ns ≤ mAs k ∧ Q (some (vl x)) μ
  | .return_ => st = [] ∧ md = md' ∧ nc ≤ mAc k ∧ ns ≤ mAs k ∧ Q none μ
  | .invokestatic n => match b with
    | 0 => popN c [] st fun As st => stOK st As d ∧ Wp md md a 0 (largs 0 As) [] μ 0 0 (fun r μ' => F (pc + 3) ls (r.toList ++ st) μ' nc ns)
    | _ => popI st fun n st => popI st fun dp st => popR st fun r i st => popI st fun sp st => popR st fun r' i' st => (st.map catV).sum ≤ 8 ∧ rkd r = 10 ∧ rkd r' = 10 ∧ i < mC μ r ∧ i' < mC μ r' ∧ ¬ sp < 0 ∧ ¬ dp < 0 ∧ ¬ n < 0 ∧ sp.toNatClampNeg + n.toNatClampNeg ≤ rsz r' ∧ dp.toNatClampNeg + n.toNatClampNeg ≤ rsz r ∧ F (pc + 3) ls st (rowI μ r i (va_cpy (mI μ r' i') (mI μ r i) sp.toNatClampNeg dp.toNatClampNeg n.toNatClampNeg)) nc ns
  | .invokevirtual n => match b with
    | 6 => popR st fun r i st => r = 3 ∧ i < 2 ∧ (st.map catV).sum ≤ 8 ∧ F (pc + 3) ls (vi (nI (lenS.getD i 0)) :: st) μ nc ns
    | 7 => popI st fun j st => popR st fun r i st => r = 3 ∧ i < 2 ∧ (st.map catV).sum ≤ 8 ∧ vp_in j (lenS.getD i 0) ∧ F (pc + 3) ls (vi ((bytS.getD i []).getD j.toNatClampNeg 0) :: st) μ nc ns
    | _ => popN c [] st fun As st => popR st fun r j st => rkd r + 100 = b ∧ j < mC μ r ∧ stOK st (vr r j :: As) d ∧ Wp md md a 0 (largs 0 (vr r j :: As)) [] μ 0 0 (fun r μ' => F (pc + 3) ls (r.toList ++ st) μ' nc ns)
  | .invokespecial n => match b with
    | 4 => popR st fun r j st => 10 ≤ r ∧ j < mC μ r ∧ (st.map catV).sum ≤ 8 ∧ F (pc + 3) ls st μ nc ns
    | _ => popN c [] st fun As st => popR st fun r j st => 10 ≤ r ∧ j < mC μ r ∧ stOK st (vr r j :: As) d ∧ nc + mAc a ≤ mAc k ∧ ns + mAs a ≤ mAs k ∧ Wp md md a 0 (largs 0 (vr r j :: As)) [] μ 0 0 (fun r μ' => F (pc + 3) ls (r.toList ++ st) μ' (nc + mAc a) (ns + mAs a))
  | .new n => dueC md μ a ∧ nc + 1 ≤ mAc k ∧ ns + rsz a ≤ mAs k ∧ F (pc + 3) ls (vr a (mC μ a) :: st) (newC μ a) (nc + 1) (ns + rsz a)
  | .newarray n => popI st fun n st => ¬ n < 0 ∧ n.toNatClampNeg = rsz a ∧ dueC md μ a ∧ nc + 1 ≤ mAc k ∧ ns + rsz a ≤ mAs k ∧ F (pc + 2) ls (vr a (mC μ a) :: st) (newC μ a) (nc + 1) (ns + rsz a)
  | .anewarray n => popI st fun n st => ¬ n < 0 ∧ n.toNatClampNeg = rsz a ∧ dueC md μ a ∧ nc + 1 ≤ mAc k ∧ ns + rsz a ≤ mAs k ∧ F (pc + 3) ls (vr a (mC μ a) :: st) (newC μ a) (nc + 1) (ns + rsz a)
  | .multianewarray n m => popI st fun w st => popI st fun n st => ¬ n < 0 ∧ ¬ w < 0 ∧ n.toNatClampNeg = rsz a ∧ w.toNatClampNeg = rsz b ∧ dueC md μ a ∧ dueM md μ a b (rsz a) ∧ nc + (1 + rsz a) ≤ mAc k ∧ ns + (rsz a + rsz a * rsz b) ≤ mAs k ∧ F (pc + 4) ls (vr a (mC μ a) :: st) (multiC μ a b (rsz a)) (nc + 1 + rsz a) (ns + rsz a + rsz a * rsz b)
  | _ => False

/-! the machine's values and memory, as numbers: a region and a number name a cell -/
def lwG : List Cond := lw_tbl.filter goodWord
theorem lwG_mem {w : Cond} (h : w ∈ lw_tbl) (g : goodWord w = true) : w ∈ lwG := List.mem_filter.mpr ⟨h, g⟩
theorem lwG_good {w : Cond} (h : w ∈ lwG) : goodWord w = true := (List.mem_filter.mp h).2
theorem lwG_in {ws : List Cond} (h : ∀ w ∈ ws, w ∈ lwG) : GoodIn lwG ws := fun w hw => ⟨h w hw, good_of_word (lwG_good (h w hw))⟩
theorem inv_ok : ∀ r, r < 104 → ∀ i, i < cap r → invT[ord r i]? = some (r, i) := by decide +kernel
/-- values: an int, a long, a reference -/
abbrev V : Type := Int32 ⊕ (Int64 ⊕ (Nat × Nat))
def vi (x : Int32) : V := .inl x
def vl (x : Int64) : V := .inr (.inl x)
def vr (r i : Nat) : V := .inr (.inr (r, i))
def nul : Nat := 999999
abbrev Mem : Type := (Nat → Nat → Nat → Int32) × (Nat → Nat → Nat → Int64) × (Nat → Nat → Nat → Nat) × (Nat → Nat)
def mI (μ : Mem) (r i : Nat) : Nat → Int32 := μ.1 r i
def mL (μ : Mem) (r i : Nat) : Nat → Int64 := μ.2.1 r i
def mR (μ : Mem) (r i : Nat) : Nat → Nat := μ.2.2.1 r i
def mC (μ : Mem) (r : Nat) : Nat := μ.2.2.2 r
def rowI (μ : Mem) (r i : Nat) (f : Nat → Int32) : Mem := (fun r' i' => if r' = r ∧ i' = i then f else μ.1 r' i', μ.2)
def rowL (μ : Mem) (r i : Nat) (f : Nat → Int64) : Mem := (μ.1, fun r' i' => if r' = r ∧ i' = i then f else μ.2.1 r' i', μ.2.2)
def rowR (μ : Mem) (r i : Nat) (f : Nat → Nat) : Mem := (μ.1, μ.2.1, fun r' i' => if r' = r ∧ i' = i then f else μ.2.2.1 r' i', μ.2.2.2)
def cntC (μ : Mem) (r n : Nat) : Mem := (μ.1, μ.2.1, μ.2.2.1, fun r' => if r' = r then μ.2.2.2 r + n else if r' = 0 then μ.2.2.2 0 + n else μ.2.2.2 r')
def up {α : Type} (f : Nat → α) (k : Nat) (x : α) : Nat → α := fun j => if j = k then x else f j
/-- a new cell: its rows are 0 -/
def newC (μ : Mem) (r : Nat) : Mem := cntC (rowI (rowL (rowR μ r (mC μ r) (fun _ => nul)) r (mC μ r) (fun _ => 0)) r (mC μ r) (fun _ => 0)) r 1
/-- what is fixed over the whole run: where the world begins, the script, its length, class numbers, slots, array classes, texts -/
abbrev GC : Type := Nat × Nat × va_G × (Nat → ClassId) × (Nat → Nat) × (Nat → Nat)
def ad (G : GC) (r i : Nat) : Nat := if r = 1 then G.2.1 else if r = 3 then G.2.2.2.2.1 i else G.1 + ord r i
def rfv (G : GC) (r i : Nat) : Option Nat := if i = nul then none else some (ad G r i)
def cv (G : GC) : V → Value
  | .inl x => .int x
  | .inr (.inl x) => .long x
  | .inr (.inr (r, i)) => va_rf (rfv G r i)
def rszM (μ : Mem) (r : Nat) : Nat := if r = 1 then mC μ 2 else rsz r
def refI (md : Nat) (μ : Mem) (r i k : Nat) : Nat := if isS r k ≠ 0 ∧ isS r k ≤ md then chs r i k else mR μ r i k
def kty : FieldType → Nat
  | .long => 1
  | .object _ => 2
  | .array _ => 2
  | _ => 0
def slotV (G : GC) (md : Nat) (μ : Mem) (r i k : Nat) : Value := match kty (clTy (rkd r) k) with
  | 0 => .int (mI μ r i k)
  | 1 => .long (mL μ r i k)
  | _ => va_rf (rfv G (rel r k) (refI md μ r i k))
def arrE (G : GC) (md : Nat) (μ : Mem) (r i : Nat) : vp_A := (rsz r, if rkd r = 11 then .inr (.inl (mL μ r i)) else if rkd r < 14 then .inl (mI μ r i) else .inr (.inr (.inr (.inr (fun j => rfv G (rel r 0) (refI md μ r i j))))))
def ent (G : GC) (md : Nat) (μ : Mem) (r i : Nat) : va_E := if rkd r < 10 then .inr (rkd r, (List.range (rsz r)).map (slotV G md μ r i)) else .inl (G.2.2.2.1 (rkd r - 10), arrE G md μ r i)
def ety : Nat → FieldType := fun k => match k with
  | 0 => .int
  | 1 => .long
  | 2 => .boolean
  | 3 => .byte
  | 4 => .object "SluiceLogs$State"
  | 5 => .array .int
  | _ => .array .long
def tysG (G : GC) : List (ClassId × FieldType) := (List.range 7).map (fun j => (G.2.2.2.1 j, ety j))
def Rep (G : GC) (md : Nat) (μ : Mem) (H : Heap) : Prop :=
  H.size = G.1 + mC μ 0 ∧ ∀ r i, 10 ≤ r → i < mC μ r → r < 104 ∧ i < cap r ∧ ord r i < mC μ 0 ∧ va_at G.2.2.1 vwCl (ad G r i, ent G md μ r i) H
/-- an array of arrays of T may be made -/
def aov (ty : FieldType) (U : State) : Prop := (Cond.arrayOver ty).before #[] U = true
def nestW : List Cond := (tables_1.filter (fun w => match w with | .methodLinkNest .. => true | _ => false))
/-- the two texts of the class, byte by byte -/
def strT : Nat → String := fun i => match i with
  | 0 => "log     field   notch   drain   spring  needs   worth   costs   silts   seed    river   if      then    else    flow    area    wide    grown   day     which   store   logs    fields  "
  | _ => ";=+-*/<()"
def lenS : List Nat := [184, 9]
def bytS : List (List Int32) := [[108, 111, 103, 32, 32, 32, 32, 32, 102, 105, 101, 108, 100, 32, 32, 32, 110, 111, 116, 99, 104, 32, 32, 32, 100, 114, 97, 105, 110, 32, 32, 32, 115, 112, 114, 105, 110, 103, 32, 32, 110, 101, 101, 100, 115, 32, 32, 32, 119, 111, 114, 116, 104, 32, 32, 32, 99, 111, 115, 116, 115, 32, 32, 32, 115, 105, 108, 116, 115, 32, 32, 32, 115, 101, 101, 100, 32, 32, 32, 32, 114, 105, 118, 101, 114, 32, 32, 32, 105, 102, 32, 32, 32, 32, 32, 32, 116, 104, 101, 110, 32, 32, 32, 32, 101, 108, 115, 101, 32, 32, 32, 32, 102, 108, 111, 119, 32, 32, 32, 32, 97, 114, 101, 97, 32, 32, 32, 32, 119, 105, 100, 101, 32, 32, 32, 32, 103, 114, 111, 119, 110, 32, 32, 32, 100, 97, 121, 32, 32, 32, 32, 32, 119, 104, 105, 99, 104, 32, 32, 32, 115, 116, 111, 114, 101, 32, 32, 32, 108, 111, 103, 115, 32, 32, 32, 32, 102, 105, 101, 108, 100, 115, 32, 32], [59, 61, 43, 45, 42, 47, 60, 40, 41]]
def idxS : Nat → Nat := fun i => match i with
  | 0 => 72
  | _ => 56
/-- what is known of the texts and of two statics of the JDK's -/
def KS (G : GC) (s : State) (H : Heap) : Prop :=
  vk_S 2 lenS bytS G.2.2.2.2.1 G.2.2.2.2.2 (fun q => G.1 ≤ q) s H ∧ vk_R RX5 (idxS 0) (strT 0) (G.2.2.2.2.1 0) s ∧ vk_R RX5 (idxS 1) (strT 1) (G.2.2.2.2.1 1) s ∧
  va_Z "java/lang/String" "COMPACT_STRINGS" "Z" (.int 1) (fun q => G.1 ≤ q) s H ∧ va_Zq "jdk/internal/util/Preconditions" "SIOOBE_FORMATTER" "Ljava/util/function/BiFunction;" (fun q => G.1 ≤ q) s H
def KG (G : GC) (s : State) : Prop := va_K G.2.2.1 vwCl (tysG G) s ∧ (∀ w ∈ nestW, va_Nw w s) ∧ aov (ety 4) s ∧ aov (ety 5) s ∧ aov (ety 6) s
/-- what a method stands on -/
def Cx (G : GC) (k : Nat) (p : Program) (R : Room) (s : State) (m : MethodId) (args : Array Value) (meth : Method) (c : Code) : Prop :=
  p.tables.exec = Jvm.exec ∧ c.code = mB k ∧ c.maxLocals = mLoc k ∧ meth.sig.returnType = mRet k ∧ meth.locks = false ∧ s.vm.findClass (oNm (mOwn k)) = some m.cls ∧ (∀ w ∈ lwG, w.before args s = true) ∧ KG G s ∧
  (mFr k ≤ R.frames ∧ mLo k ≤ R.locals ∧ mAc k ≤ R.cells ∧ mAs k ≤ R.slots) ∧ meth.name = (mY k).name ∧ G.1 ≤ s.heap.size ∧ G.2.1 < G.1 ∧ KS G s s.heap
def RepH (G : GC) (md : Nat) (μ : Mem) (s : State) (H : Heap) (locs : List Loc) : Prop := Rep G md μ H ∧ va_S (fun q => G.1 ≤ q) s.heap H locs
def lsC (G : GC) (ls : List (Nat × V)) : List (Nat × Value) := ls.map (fun q => (q.1, cv G q.2))
def QcW (G : GC) (md : Nat) (Q : Option V → Mem → Prop) : Array Value → State → Outcome → State → Prop := fun _ st o t => ∃ (r : Option V) (μ : Mem), o = .returned (r.map (cv G)) ∧ Q r μ ∧ Rep G md μ t.heap ∧ va_F (fun q => G.1 ≤ q) st t
/-- from here (method k, at pc, locals, stack, memory) the method comes to an end that Q allows -/
def Wp (md md' k pc : Nat) (ls : List (Nat × V)) (st : List V) (μ : Mem) (nc ns : Nat) (Q : Option V → Mem → Prop) : Prop :=
  ∀ (G : GC) (p : Program) (l : Launch) (e : Env) (R : Room) (s : State) (m : MethodId) (args : Array Value) (below : List Frame) (meth : Method) (c : Code) (H : Heap) (locs : List Loc) (als : Array Slot),
    Cx G k p R s m args meth c → RepH G md μ s H locs → lv_has als (mLoc k) (lsC G ls) →
    W p l e R s m args below meth c H locs nc ns (MQ below (QcW G md' Q) args s (mAc k) (mAs k) (fun q => G.1 ≤ q)) (F0 m pc als (st.map (cv G)))
theorem Cx.own {G : GC} {k : Nat} {p : Program} {R : Room} {s : State} {m : MethodId} {args : Array Value} {meth : Method} {c : Code} (C : Cx G k p R s m args meth c) : s.vm.findClass (oNm (mOwn k)) = some m.cls := C.2.2.2.2.2.1
theorem Cx.hts {G : GC} {k : Nat} {p : Program} {R : Room} {s : State} {m : MethodId} {args : Array Value} {meth : Method} {c : Code} (C : Cx G k p R s m args meth c) : ∀ w ∈ lwG, w.before args s = true := C.2.2.2.2.2.2.1
theorem Cx.kg {G : GC} {k : Nat} {p : Program} {R : Room} {s : State} {m : MethodId} {args : Array Value} {meth : Method} {c : Code} (C : Cx G k p R s m args meth c) : KG G s := C.2.2.2.2.2.2.2.1
theorem Cx.nm {G : GC} {k : Nat} {p : Program} {R : Room} {s : State} {m : MethodId} {args : Array Value} {meth : Method} {c : Code} (C : Cx G k p R s m args meth c) : meth.name = (mY k).name := C.2.2.2.2.2.2.2.2.2.1
/-- locals -/
def lget : List (Nat × V) → Nat → Option V
  | [], _ => none
  | (j, v) :: t, i => if j = i then some v else lget t i
def isL : V → Bool
  | .inr (.inl _) => true
  | _ => false
def ldel1 : List (Nat × V) → Nat → List (Nat × V)
  | [], _ => []
  | (j, v) :: t, i => if j = i ∨ (j + 1 = i ∧ isL v = true) then ldel1 t i else (j, v) :: ldel1 t i
def ldel2 : List (Nat × V) → Nat → List (Nat × V)
  | [], _ => []
  | (j, v) :: t, i => if j = i ∨ j = i + 1 ∨ (j + 1 = i ∧ isL v = true) then ldel2 t i else (j, v) :: ldel2 t i
def lins : List (Nat × V) → Nat → V → List (Nat × V)
  | [], i, v => [(i, v)]
  | (j, w) :: t, i, v => if j < i then (j, w) :: lins t i v else (i, v) :: (j, w) :: t
def lput1 (ls : List (Nat × V)) (i : Nat) (v : V) : List (Nat × V) := lins (ldel1 ls i) i v
def lput2 (ls : List (Nat × V)) (i : Nat) (v : V) : List (Nat × V) := lins (ldel2 ls i) i v
/-- the live ones alone -/
def lmask : List Nat → List (Nat × V) → List (Nat × V)
  | [], _ => []
  | i :: t, ls => match lget ls i with
    | some v => (i, v) :: lmask t ls
    | none => lmask t ls
theorem lget_mem {ls : List (Nat × V)} {i : Nat} {v : V} (h : lget ls i = some v) : (i, v) ∈ ls := by
  induction ls with
  | nil => simp [lget] at h
  | cons q t ih =>
    obtain ⟨j, w⟩ := q
    simp only [lget] at h
    by_cases e : j = i
    · rw [if_pos e] at h; cases h; subst e; exact List.mem_cons_self
    · rw [if_neg e] at h; exact List.mem_cons_of_mem _ (ih h)
theorem lsC_mem {G : GC} {ls : List (Nat × V)} {i : Nat} {v : V} (h : (i, v) ∈ ls) : (i, cv G v) ∈ lsC G ls := List.mem_map.mpr ⟨(i, v), h, rfl⟩
theorem lget_ok {G : GC} {als : Array Slot} {n : Nat} {ls : List (Nat × V)} {i : Nat} {v : V} (hl : lv_has als n (lsC G ls)) (h : lget ls i = some v) : als[i]? = some (.val (cv G v)) := hl.2.2 (i, cv G v) (lsC_mem (lget_mem h))
theorem lget_at {G : GC} {ls : List (Nat × V)} {i : Nat} {v : V} (h : lget ls i = some v) : ∃ q : Nat, (lsC G ls)[q]? = some (i, cv G v) := by
  obtain ⟨q, hq, e⟩ := List.mem_iff_getElem.mp (lsC_mem (G := G) (lget_mem h))
  exact ⟨q, by rw [List.getElem?_eq_getElem hq, e]⟩
theorem lv_has_sub {als : Array Slot} {n : Nat} {l l' : List (Nat × Value)} (h : lv_has als n l) (hs : ∀ q ∈ l', q ∈ l) : lv_has als n l' := ⟨h.1, h.2.1, fun q hq => h.2.2 q (hs q hq)⟩
theorem lins_mem {ls : List (Nat × V)} {i : Nat} {v : V} {q : Nat × V} (h : q ∈ lins ls i v) : q = (i, v) ∨ q ∈ ls := by
  induction ls with
  | nil => simp [lins] at h; exact Or.inl h
  | cons a t ih =>
    obtain ⟨j, w⟩ := a
    simp only [lins] at h
    split at h
    · rcases List.mem_cons.mp h with e | e
      · exact Or.inr (e ▸ List.mem_cons_self)
      · rcases ih e with f | f
        · exact Or.inl f
        · exact Or.inr (List.mem_cons_of_mem _ f)
    · rcases List.mem_cons.mp h with e | e
      · exact Or.inl e
      · exact Or.inr e
theorem isL_cat (G : GC) (v : V) : ((cv G v).category == 2) = isL v := by
  match v with
  | .inl x => rfl
  | .inr (.inl x) => rfl
  | .inr (.inr (r, i)) =>
    show ((va_rf (rfv G r i)).category == 2) = false
    cases rfv G r i <;> rfl
theorem ldel1_mem {ls : List (Nat × V)} {i : Nat} {q : Nat × V} (h : q ∈ ldel1 ls i) : q ∈ ls ∧ ¬ q.1 = i ∧ ¬ (q.1 + 1 = i ∧ isL q.2 = true) := by
  induction ls with
  | nil => simp [ldel1] at h
  | cons a t ih =>
    obtain ⟨j, w⟩ := a
    simp only [ldel1] at h
    split at h
    · exact ⟨List.mem_cons_of_mem _ (ih h).1, (ih h).2⟩
    · rename_i hn
      rcases List.mem_cons.mp h with e | e
      · subst e; exact ⟨List.mem_cons_self, fun z => hn (Or.inl z), fun z => hn (Or.inr z)⟩
      · exact ⟨List.mem_cons_of_mem _ (ih e).1, (ih e).2⟩
theorem ldel2_mem {ls : List (Nat × V)} {i : Nat} {q : Nat × V} (h : q ∈ ldel2 ls i) : q ∈ ls ∧ ¬ q.1 = i ∧ ¬ q.1 = i + 1 ∧ ¬ (q.1 + 1 = i ∧ isL q.2 = true) := by
  induction ls with
  | nil => simp [ldel2] at h
  | cons a t ih =>
    obtain ⟨j, w⟩ := a
    simp only [ldel2] at h
    split at h
    · exact ⟨List.mem_cons_of_mem _ (ih h).1, (ih h).2⟩
    · rename_i hn
      rcases List.mem_cons.mp h with e | e
      · subst e; exact ⟨List.mem_cons_self, fun z => hn (Or.inl z), fun z => hn (Or.inr (Or.inl z)), fun z => hn (Or.inr (Or.inr z))⟩
      · exact ⟨List.mem_cons_of_mem _ (ih e).1, (ih e).2⟩
theorem lput1_ok {G : GC} {als : Array Slot} {n : Nat} {ls : List (Nat × V)} {i : Nat} {v : V} (h : lv_has als n ((i, cv G v) :: (lsC G ls).filter (fun q => !(q.1 == i) && !(q.1 + 1 == i && q.2.category == 2)))) : lv_has als n (lsC G (lput1 ls i v)) := by
  refine lv_has_sub h (fun q hq => ?_)
  obtain ⟨⟨j, w⟩, hm, rfl⟩ := List.mem_map.mp hq
  rcases lins_mem hm with e | e
  · cases e; exact List.mem_cons_self
  · obtain ⟨h1, h2, h3⟩ := ldel1_mem e
    refine List.mem_cons_of_mem _ (List.mem_filter.mpr ⟨lsC_mem h1, ?_⟩)
    simp only [isL_cat]
    simp only [Bool.and_eq_true, Bool.not_eq_true', beq_eq_false_iff_ne, ne_eq]
    exact ⟨h2, by by_cases z : j + 1 = i <;> simp_all⟩
theorem lput2_ok {G : GC} {als : Array Slot} {n : Nat} {ls : List (Nat × V)} {i : Nat} {v : V} (h : lv_has als n ((i, cv G v) :: (lsC G ls).filter (fun q => !(q.1 == i) && (!(q.1 == i + 1) && !(q.1 + 1 == i && q.2.category == 2))))) : lv_has als n (lsC G (lput2 ls i v)) := by
  refine lv_has_sub h (fun q hq => ?_)
  obtain ⟨⟨j, w⟩, hm, rfl⟩ := List.mem_map.mp hq
  rcases lins_mem hm with e | e
  · cases e; exact List.mem_cons_self
  · obtain ⟨h1, h2, h3, h4⟩ := ldel2_mem e
    refine List.mem_cons_of_mem _ (List.mem_filter.mpr ⟨lsC_mem h1, ?_⟩)
    simp only [isL_cat]
    simp only [Bool.and_eq_true, Bool.not_eq_true', beq_eq_false_iff_ne, ne_eq]
    exact ⟨h2, h3, by by_cases z : j + 1 = i <;> simp_all⟩
theorem lmask_mem {ls : List (Nat × V)} {is : List Nat} {q : Nat × V} (h : q ∈ lmask is ls) : q ∈ ls := by
  induction is with
  | nil => simp [lmask] at h
  | cons i t ih =>
    simp only [lmask] at h
    split at h
    · rename_i v hv
      rcases List.mem_cons.mp h with e | e
      · subst e; exact lget_mem hv
      · exact ih e
    · exact ih h

/-! the heap as the memory tells it -/
theorem rkd_in {r : Nat} (h : rkd r < 50) : 10 ≤ r ∧ r < 104 := by
  by_cases h1 : 10 ≤ r ∧ r < 104
  · exact h1
  · exfalso
    have e : rkd r = 99 := by
      unfold rkd
      split <;> first | omega | rfl
    omega
theorem ad_ge {G : GC} {r : Nat} (h : 10 ≤ r) (i : Nat) : ad G r i = G.1 + ord r i := by unfold ad; rw [if_neg (by omega), if_neg (by omega)]
theorem ord_inj {r i r' i' : Nat} (h1 : r < 104) (h2 : i < cap r) (h3 : r' < 104) (h4 : i' < cap r') (e : ord r i = ord r' i') : r' = r ∧ i' = i := by
  have a := inv_ok r h1 i h2
  have b := inv_ok r' h3 i' h4
  rw [e, b] at a
  have := Option.some.inj a
  exact ⟨congrArg Prod.fst this, congrArg Prod.snd this⟩
theorem Rep.at' {G : GC} {md : Nat} {μ : Mem} {H : Heap} (h : Rep G md μ H) {r i : Nat} (hr : 10 ≤ r) (hi : i < mC μ r) : va_P G.2.2.1 vwCl [(ad G r i, ent G md μ r i)] H := by
  intro k q hq
  match k, hq with
  | 0, hq => cases hq; exact (h.2 r i hr hi).2.2.2
  | k + 1, hq => simp at hq
theorem Rep.set {G : GC} {md : Nat} {μ μ' : Mem} {H H' : Heap} (h : Rep G md μ H) {r i : Nat} (hr : 10 ≤ r) (hi : i < mC μ r) (hC : ∀ q, mC μ' q = mC μ q) (he : ∀ r' i', ¬ (r' = r ∧ i' = i) → ent G md μ' r' i' = ent G md μ r' i')
    (hz : H'.size = H.size) (ho : ∀ q, q ≠ ad G r i → H'[q]? = H[q]?) (hn : va_at G.2.2.1 vwCl (ad G r i, ent G md μ' r i) H') : Rep G md μ' H' := by
  refine ⟨by rw [hz, hC]; exact h.1, fun r' i' hr' hi' => ?_⟩
  rw [hC] at hi' ⊢
  obtain ⟨a1, a2, a3, a4⟩ := h.2 r' i' hr' hi'
  refine ⟨a1, a2, a3, ?_⟩
  by_cases e : r' = r ∧ i' = i
  · rw [e.1, e.2]; exact hn
  · rw [he r' i' e]
    obtain ⟨b1, b2, b3, b4⟩ := h.2 r i hr hi
    refine va_at.kept a4 (ho _ fun z => ?_)
    rw [ad_ge hr, ad_ge hr'] at z
    exact e (ord_inj b1 b2 a1 a2 (by omega))
def getV (md : Nat) (μ : Mem) (r i k : Nat) : V := match kty (clTy (rkd r) k) with
  | 0 => vi (mI μ r i k)
  | 1 => vl (mL μ r i k)
  | _ => vr (rel r k) (refI md μ r i k)
theorem getV_cv (G : GC) (md : Nat) (μ : Mem) (r i k : Nat) : cv G (getV md μ r i k) = slotV G md μ r i k := by
  unfold getV slotV
  split <;> rfl
theorem ent_obj {G : GC} {md : Nat} {μ : Mem} {r i : Nat} (h : rkd r < 10) : ent G md μ r i = .inr (rkd r, (List.range (rsz r)).map (slotV G md μ r i)) := if_pos h
theorem ent_arr {G : GC} {md : Nat} {μ : Mem} {r i : Nat} (h : 10 ≤ rkd r) : ent G md μ r i = .inl (G.2.2.2.1 (rkd r - 10), arrE G md μ r i) := if_neg (by omega)
theorem rsz_cl : ∀ r, r < 104 → rkd r < 10 → rsz r = clN (rkd r) := by decide +kernel
theorem map_range_get {α : Type} (f : Nat → α) {n k : Nat} (h : k < n) : ((List.range n).map f)[k]? = some (f k) := by simp [h]
theorem lay_in {c : Nat} (hc : c < 10) : ∀ w ∈ u_ws (oNm c) (clT c) (clN c), w ∈ lwG := by
  intro w hw
  refine lwG_mem (List.mem_append_right _ ?_) (List.all_eq_true.mp (lay_g c hc) w hw)
  rcases (show c = 0 ∨ c = 1 ∨ c = 2 ∨ c = 3 ∨ c = 4 ∨ c = 5 ∨ c = 6 ∨ c = 7 ∨ c = 8 ∨ c = 9 by omega) with rfl | rfl | rfl | rfl | rfl | rfl | rfl | rfl | rfl | rfl
  · exact lay_0 w hw
  · exact lay_1 w hw
  · exact lay_2 w hw
  · exact lay_3 w hw
  · exact lay_4 w hw
  · exact lay_5 w hw
  · exact lay_6 w hw
  · exact lay_7 w hw
  · exact lay_8 w hw
  · exact lay_9 w hw
abbrev flW (k ix a b : Nat) : Prop := a < 10 ∧ b < clN a ∧ Cond.fieldLink (oNm (mOwn k)) ix (clT a b).1 (clT a b).2.1 (clT a b).2.2.1 ∈ lwG
/-- one slot of an object written -/
def putV (μ : Mem) (r i k : Nat) (v : V) : Mem := match v with
  | .inl x => rowI μ r i (up (mI μ r i) k x)
  | .inr (.inl x) => rowL μ r i (up (mL μ r i) k x)
  | .inr (.inr (_, j)) => rowR μ r i (up (mR μ r i) k j)
/-- a value that the slot may hold -/
def fitV (md r k : Nat) (μ : Mem) : V → Prop
  | .inl x => kty (clTy (rkd r) k) = 0 ∧ narrow (clTy (rkd r) k) (.int x) = .int x ∧ fits (clTy (rkd r) k) (.int x) = true
  | .inr (.inl _) => clTy (rkd r) k = .long
  | .inr (.inr (r', j)) => kty (clTy (rkd r) k) = 2 ∧ r' = rel r k ∧ (isS r k = 0 ∨ md < isS r k) ∧ j < mC μ r'
theorem mI_rowI (μ : Mem) (r i : Nat) (f : Nat → Int32) (r' i' : Nat) : mI (rowI μ r i f) r' i' = if r' = r ∧ i' = i then f else mI μ r' i' := rfl
theorem mL_rowL (μ : Mem) (r i : Nat) (f : Nat → Int64) (r' i' : Nat) : mL (rowL μ r i f) r' i' = if r' = r ∧ i' = i then f else mL μ r' i' := rfl
theorem mR_rowR (μ : Mem) (r i : Nat) (f : Nat → Nat) (r' i' : Nat) : mR (rowR μ r i f) r' i' = if r' = r ∧ i' = i then f else mR μ r' i' := rfl
theorem mI_rowL (μ : Mem) (r i : Nat) (f : Nat → Int64) (r' i' : Nat) : mI (rowL μ r i f) r' i' = mI μ r' i' := rfl
theorem mI_rowR (μ : Mem) (r i : Nat) (f : Nat → Nat) (r' i' : Nat) : mI (rowR μ r i f) r' i' = mI μ r' i' := rfl
theorem mL_rowI (μ : Mem) (r i : Nat) (f : Nat → Int32) (r' i' : Nat) : mL (rowI μ r i f) r' i' = mL μ r' i' := rfl
theorem mL_rowR (μ : Mem) (r i : Nat) (f : Nat → Nat) (r' i' : Nat) : mL (rowR μ r i f) r' i' = mL μ r' i' := rfl
theorem mR_rowI (μ : Mem) (r i : Nat) (f : Nat → Int32) (r' i' : Nat) : mR (rowI μ r i f) r' i' = mR μ r' i' := rfl
theorem mR_rowL (μ : Mem) (r i : Nat) (f : Nat → Int64) (r' i' : Nat) : mR (rowL μ r i f) r' i' = mR μ r' i' := rfl
theorem mC_rowI (μ : Mem) (r i : Nat) (f : Nat → Int32) (q : Nat) : mC (rowI μ r i f) q = mC μ q := rfl
theorem mC_rowL (μ : Mem) (r i : Nat) (f : Nat → Int64) (q : Nat) : mC (rowL μ r i f) q = mC μ q := rfl
theorem mC_rowR (μ : Mem) (r i : Nat) (f : Nat → Nat) (q : Nat) : mC (rowR μ r i f) q = mC μ q := rfl
/-- what another row's writing leaves -/
theorem ent_of_rows {G : GC} {md : Nat} {μ μ' : Mem} {r i : Nat} (h1 : mI μ' r i = mI μ r i) (h2 : mL μ' r i = mL μ r i) (h3 : mR μ' r i = mR μ r i) : ent G md μ' r i = ent G md μ r i := by
  have e3 : ∀ k, refI md μ' r i k = refI md μ r i k := fun k => by unfold refI; rw [h3]
  have e : slotV G md μ' r i = slotV G md μ r i := by
    funext k
    unfold slotV
    rw [h1, h2, e3]
  have e2 : arrE G md μ' r i = arrE G md μ r i := by
    unfold arrE
    rw [h1, h2]
    simp only [e3]
  unfold ent
  rw [e, e2]
theorem ent_putV {G : GC} {md : Nat} {μ : Mem} {r i k : Nat} {v : V} {r' i' : Nat} (h : ¬ (r' = r ∧ i' = i)) : ent G md (putV μ r i k v) r' i' = ent G md μ r' i' := by
  unfold putV
  split
  · exact ent_of_rows (by rw [mI_rowI, if_neg h]) rfl rfl
  · exact ent_of_rows rfl (by rw [mL_rowL, if_neg h]) rfl
  · exact ent_of_rows rfl rfl (by rw [mR_rowR, if_neg h])
theorem mC_putV (μ : Mem) (r i k : Nat) (v : V) (q : Nat) : mC (putV μ r i k v) q = mC μ q := by
  unfold putV
  split <;> rfl
theorem slot_putV {G : GC} {md : Nat} {μ : Mem} {r i k : Nat} {v : V} (h : fitV md r k μ v) (j : Nat) : slotV G md (putV μ r i k v) r i j = if j = k then cv G v else slotV G md μ r i j := by
  match v, h with
  | .inl x, h =>
    obtain ⟨h1, -, -⟩ := h
    by_cases e : j = k
    · subst e
      rw [if_pos rfl]
      unfold slotV putV
      simp [h1, mI_rowI, up, cv]
    · rw [if_neg e]
      unfold slotV putV
      simp [mI_rowI, up, e, mL_rowI, refI, mR_rowI]
  | .inr (.inl x), h =>
    by_cases e : j = k
    · subst e
      rw [if_pos rfl]
      unfold slotV putV
      have h' : clTy (rkd r) j = .long := h
      simp [h', kty, mL_rowL, up, cv]
    · rw [if_neg e]
      unfold slotV putV
      simp [mL_rowL, up, e, mI_rowL, refI, mR_rowL]
  | .inr (.inr (r', j')), h =>
    obtain ⟨h1, h2, h3, -⟩ := h
    by_cases e : j = k
    · subst e
      rw [if_pos rfl]
      unfold slotV putV
      have : ¬ (isS r j ≠ 0 ∧ isS r j ≤ md) := fun z => by rcases h3 with q | q <;> omega
      simp only [h1, refI, if_neg this, mR_rowR, up, cv, h2, and_self, if_true]
    · rw [if_neg e]
      unfold slotV putV
      simp [mR_rowR, up, e, mI_rowR, refI, mL_rowR]
theorem cap_le : ∀ r, r < 104 → cap r ≤ 1000 := by decide +kernel
theorem Rep.rf {G : GC} {md : Nat} {μ : Mem} {H : Heap} (h : Rep G md μ H) {r i : Nat} (hr : 10 ≤ r) (hi : i < mC μ r) : rfv G r i = some (ad G r i) := by
  obtain ⟨a1, a2, -, -⟩ := h.2 r i hr hi
  have := cap_le r a1
  exact if_neg (by unfold nul; omega)
theorem fit_cv {G : GC} {md r k : Nat} {μ : Mem} {v : V} {H : Heap} (hR : Rep G md μ H) (h : fitV md r k μ v) : narrow (clTy (rkd r) k) (cv G v) = cv G v ∧ fits (clTy (rkd r) k) (cv G v) = true := by
  match v, h with
  | .inl x, h => exact h.2
  | .inr (.inl x), h =>
    have h' : clTy (rkd r) k = .long := h
    rw [h']; exact ⟨rfl, rfl⟩
  | .inr (.inr (r', j)), h =>
    obtain ⟨h1, -, -, -⟩ := h
    show narrow _ (va_rf (rfv G r' j)) = va_rf (rfv G r' j) ∧ fits _ (va_rf (rfv G r' j)) = true
    generalize clTy (rkd r) k = ty at h1
    cases ty <;> simp [kty] at h1 <;> cases rfv G r' j <;> exact ⟨rfl, rfl⟩
theorem isS_lv {r k : Nat} : True := trivial
/-- what an array holds, by its kind -/
theorem tys_at (G : GC) {j : Nat} (h : j < 7) : (tysG G)[j]? = some (G.2.2.2.1 j, ety j) := map_range_get _ h
/-- an array's place is written -/
def putA (μ : Mem) (r i k : Nat) (v : V) : Mem := putV μ r i k v

section Rules
variable {md md' k pc : Nat} {ls : List (Nat × V)} {st : List V} {μ : Mem} {nc ns : Nat} {Q : Option V → Mem → Prop}
theorem w_iadd {x y : Int32} (hd : decode (mB k) pc = .ok (.iadd, 1)) (kk : Wp md md' k (pc + 1) ls (vi (x + y) :: st) μ nc ns Q) : Wp md md' k pc ls (vi y :: vi x :: st) μ nc ns Q := by
  intro G p l e R s m args below meth c H locs als C h hl
  exact lv_iadd C.1 C.2.1 hd (kk G p l e R s m args below meth c H locs als C h hl)
theorem w_isub {x y : Int32} (hd : decode (mB k) pc = .ok (.isub, 1)) (kk : Wp md md' k (pc + 1) ls (vi (x - y) :: st) μ nc ns Q) : Wp md md' k pc ls (vi y :: vi x :: st) μ nc ns Q := by
  intro G p l e R s m args below meth c H locs als C h hl
  exact lv_isub C.1 C.2.1 hd (kk G p l e R s m args below meth c H locs als C h hl)
theorem w_imul {x y : Int32} (hd : decode (mB k) pc = .ok (.imul, 1)) (kk : Wp md md' k (pc + 1) ls (vi (x * y) :: st) μ nc ns Q) : Wp md md' k pc ls (vi y :: vi x :: st) μ nc ns Q := by
  intro G p l e R s m args below meth c H locs als C h hl
  exact lv_imul C.1 C.2.1 hd (kk G p l e R s m args below meth c H locs als C h hl)
theorem w_iand {x y : Int32} (hd : decode (mB k) pc = .ok (.iand, 1)) (kk : Wp md md' k (pc + 1) ls (vi (x &&& y) :: st) μ nc ns Q) : Wp md md' k pc ls (vi y :: vi x :: st) μ nc ns Q := by
  intro G p l e R s m args below meth c H locs als C h hl
  exact lv_iand C.1 C.2.1 hd (kk G p l e R s m args below meth c H locs als C h hl)
theorem w_ior {x y : Int32} (hd : decode (mB k) pc = .ok (.ior, 1)) (kk : Wp md md' k (pc + 1) ls (vi (x ||| y) :: st) μ nc ns Q) : Wp md md' k pc ls (vi y :: vi x :: st) μ nc ns Q := by
  intro G p l e R s m args below meth c H locs als C h hl
  exact lv_ior C.1 C.2.1 hd (kk G p l e R s m args below meth c H locs als C h hl)
theorem w_ixor {x y : Int32} (hd : decode (mB k) pc = .ok (.ixor, 1)) (kk : Wp md md' k (pc + 1) ls (vi (x ^^^ y) :: st) μ nc ns Q) : Wp md md' k pc ls (vi y :: vi x :: st) μ nc ns Q := by
  intro G p l e R s m args below meth c H locs als C h hl
  exact lv_ixor C.1 C.2.1 hd (kk G p l e R s m args below meth c H locs als C h hl)
theorem w_ishl {x y : Int32} (hd : decode (mB k) pc = .ok (.ishl, 1)) (kk : Wp md md' k (pc + 1) ls (vi (x <<< (y &&& 31)) :: st) μ nc ns Q) : Wp md md' k pc ls (vi y :: vi x :: st) μ nc ns Q := by
  intro G p l e R s m args below meth c H locs als C h hl
  exact lv_ishl C.1 C.2.1 hd (kk G p l e R s m args below meth c H locs als C h hl)
theorem w_ishr {x y : Int32} (hd : decode (mB k) pc = .ok (.ishr, 1)) (kk : Wp md md' k (pc + 1) ls (vi (x >>> (y &&& 31)) :: st) μ nc ns Q) : Wp md md' k pc ls (vi y :: vi x :: st) μ nc ns Q := by
  intro G p l e R s m args below meth c H locs als C h hl
  exact lv_ishr C.1 C.2.1 hd (kk G p l e R s m args below meth c H locs als C h hl)
theorem w_ladd {x y : Int64} (hd : decode (mB k) pc = .ok (.ladd, 1)) (kk : Wp md md' k (pc + 1) ls (vl (x + y) :: st) μ nc ns Q) : Wp md md' k pc ls (vl y :: vl x :: st) μ nc ns Q := by
  intro G p l e R s m args below meth c H locs als C h hl
  exact lv_ladd C.1 C.2.1 hd (kk G p l e R s m args below meth c H locs als C h hl)
theorem w_lsub {x y : Int64} (hd : decode (mB k) pc = .ok (.lsub, 1)) (kk : Wp md md' k (pc + 1) ls (vl (x - y) :: st) μ nc ns Q) : Wp md md' k pc ls (vl y :: vl x :: st) μ nc ns Q := by
  intro G p l e R s m args below meth c H locs als C h hl
  exact lv_lsub C.1 C.2.1 hd (kk G p l e R s m args below meth c H locs als C h hl)
theorem w_lmul {x y : Int64} (hd : decode (mB k) pc = .ok (.lmul, 1)) (kk : Wp md md' k (pc + 1) ls (vl (x * y) :: st) μ nc ns Q) : Wp md md' k pc ls (vl y :: vl x :: st) μ nc ns Q := by
  intro G p l e R s m args below meth c H locs als C h hl
  exact lv_lmul C.1 C.2.1 hd (kk G p l e R s m args below meth c H locs als C h hl)
theorem w_idiv {x y : Int32} (hd : decode (mB k) pc = .ok (.idiv, 1)) (h0 : ¬ y = 0) (kk : Wp md md' k (pc + 1) ls (vi (x / y) :: st) μ nc ns Q) : Wp md md' k pc ls (vi y :: vi x :: st) μ nc ns Q := by
  intro G p l e R s m args below meth c H locs als C h hl
  exact lv_idiv C.1 C.2.1 hd h0 (kk G p l e R s m args below meth c H locs als C h hl)
theorem w_irem {x y : Int32} (hd : decode (mB k) pc = .ok (.irem, 1)) (h0 : ¬ y = 0) (kk : Wp md md' k (pc + 1) ls (vi (x - x / y * y) :: st) μ nc ns Q) : Wp md md' k pc ls (vi y :: vi x :: st) μ nc ns Q := by
  intro G p l e R s m args below meth c H locs als C h hl
  exact lv_irem C.1 C.2.1 hd h0 (kk G p l e R s m args below meth c H locs als C h hl)
theorem w_ldiv {x y : Int64} (hd : decode (mB k) pc = .ok (.ldiv, 1)) (h0 : ¬ y = 0) (kk : Wp md md' k (pc + 1) ls (vl (x / y) :: st) μ nc ns Q) : Wp md md' k pc ls (vl y :: vl x :: st) μ nc ns Q := by
  intro G p l e R s m args below meth c H locs als C h hl
  exact lv_ldiv C.1 C.2.1 hd h0 (kk G p l e R s m args below meth c H locs als C h hl)
theorem w_lrem {x y : Int64} (hd : decode (mB k) pc = .ok (.lrem, 1)) (h0 : ¬ y = 0) (kk : Wp md md' k (pc + 1) ls (vl (x - x / y * y) :: st) μ nc ns Q) : Wp md md' k pc ls (vl y :: vl x :: st) μ nc ns Q := by
  intro G p l e R s m args below meth c H locs als C h hl
  exact lv_lrem C.1 C.2.1 hd h0 (kk G p l e R s m args below meth c H locs als C h hl)
theorem w_iushr {x y : Int32} (hd : decode (mB k) pc = .ok (.iushr, 1)) (kk : Wp md md' k (pc + 1) ls (vi ((x.toUInt32 >>> (y.toUInt32 &&& Int32.toUInt32 31)).toInt32) :: st) μ nc ns Q) : Wp md md' k pc ls (vi y :: vi x :: st) μ nc ns Q := by
  intro G p l e R s m args below meth c H locs als C h hl
  exact lv_iushr C.1 C.2.1 hd rfl (kk G p l e R s m args below meth c H locs als C h hl)
theorem w_lcmp {x y : Int64} (hd : decode (mB k) pc = .ok (.lcmp, 1)) (kk : Wp md md' k (pc + 1) ls (vi (lg_cmp x y) :: st) μ nc ns Q) : Wp md md' k pc ls (vl y :: vl x :: st) μ nc ns Q := by
  intro G p l e R s m args below meth c H locs als C h hl
  exact W.lcmp C.1 C.2.1 hd (kk G p l e R s m args below meth c H locs als C h hl)
theorem w_i2l {x : Int32} (hd : decode (mB k) pc = .ok (.i2l, 1)) (kk : Wp md md' k (pc + 1) ls (vl x.toInt64 :: st) μ nc ns Q) : Wp md md' k pc ls (vi x :: st) μ nc ns Q := by
  intro G p l e R s m args below meth c H locs als C h hl
  exact lv_i2l C.1 C.2.1 hd rfl (kk G p l e R s m args below meth c H locs als C h hl)
theorem w_l2i {x : Int64} (hd : decode (mB k) pc = .ok (.l2i, 1)) (kk : Wp md md' k (pc + 1) ls (vi x.toInt32 :: st) μ nc ns Q) : Wp md md' k pc ls (vl x :: st) μ nc ns Q := by
  intro G p l e R s m args below meth c H locs als C h hl
  exact lv_l2i C.1 C.2.1 hd rfl (kk G p l e R s m args below meth c H locs als C h hl)
theorem w_i2b {x : Int32} (hd : decode (mB k) pc = .ok (.i2b, 1)) (kk : Wp md md' k (pc + 1) ls (vi x.toInt8.toInt32 :: st) μ nc ns Q) : Wp md md' k pc ls (vi x :: st) μ nc ns Q := by
  intro G p l e R s m args below meth c H locs als C h hl
  exact lv_i2b C.1 C.2.1 hd rfl (kk G p l e R s m args below meth c H locs als C h hl)
theorem w_iconst {n : Int} (hd : decode (mB k) pc = .ok (.iconst n, 1)) (kk : Wp md md' k (pc + 1) ls (vi (Int32.ofInt n) :: st) μ nc ns Q) : Wp md md' k pc ls (st) μ nc ns Q := by
  intro G p l e R s m args below meth c H locs als C h hl
  exact lv_iconst C.1 C.2.1 hd rfl (kk G p l e R s m args below meth c H locs als C h hl)
theorem w_bipush {n : Int} (hd : decode (mB k) pc = .ok (.bipush n, 2)) (kk : Wp md md' k (pc + 2) ls (vi (Int8.ofInt n).toInt32 :: st) μ nc ns Q) : Wp md md' k pc ls (st) μ nc ns Q := by
  intro G p l e R s m args below meth c H locs als C h hl
  exact lv_bipush C.1 C.2.1 hd rfl (kk G p l e R s m args below meth c H locs als C h hl)
theorem w_sipush {n : Int} (hd : decode (mB k) pc = .ok (.sipush n, 3)) (kk : Wp md md' k (pc + 3) ls (vi (Int16.ofInt n).toInt32 :: st) μ nc ns Q) : Wp md md' k pc ls (st) μ nc ns Q := by
  intro G p l e R s m args below meth c H locs als C h hl
  exact lv_sipush C.1 C.2.1 hd rfl (kk G p l e R s m args below meth c H locs als C h hl)
theorem w_lconst {n : Fin 2} (hd : decode (mB k) pc = .ok (.lconst n, 1)) (kk : Wp md md' k (pc + 1) ls (vl (Int64.ofNat (n : Nat)) :: st) μ nc ns Q) : Wp md md' k pc ls (st) μ nc ns Q := by
  intro G p l e R s m args below meth c H locs als C h hl
  exact lv_lconst C.1 C.2.1 hd rfl (kk G p l e R s m args below meth c H locs als C h hl)
theorem w_ldc {ix : Nat} {v : Int32} (hd : decode (mB k) pc = .ok (.ldc ix, 2)) (hw : Jvm.Cond.constant (oNm (mOwn k)) ix v ∈ lwG) (kk : Wp md md' k (pc + 2) ls (vi v :: st) μ nc ns Q) : Wp md md' k pc ls (st) μ nc ns Q := by
  intro G p l e R s m args below meth c H locs als C h hl
  exact lv_ldc C.1 C.2.1 C.own (C.hts _ hw) hd (kk G p l e R s m args below meth c H locs als C h hl)
theorem w_ldc_w {ix : Nat} {v : Int32} (hd : decode (mB k) pc = .ok (.ldc_w ix, 3)) (hw : Jvm.Cond.constant (oNm (mOwn k)) ix v ∈ lwG) (kk : Wp md md' k (pc + 3) ls (vi v :: st) μ nc ns Q) : Wp md md' k pc ls (st) μ nc ns Q := by
  intro G p l e R s m args below meth c H locs als C h hl
  exact lv_ldcw C.1 C.2.1 C.own (C.hts _ hw) hd (kk G p l e R s m args below meth c H locs als C h hl)
theorem w_ldc2_w {ix : Nat} {v : Int64} (hd : decode (mB k) pc = .ok (.ldc2_w ix, 3)) (hw : Jvm.Cond.constantLong (oNm (mOwn k)) ix v ∈ lwG) (kk : Wp md md' k (pc + 3) ls (vl v :: st) μ nc ns Q) : Wp md md' k pc ls (st) μ nc ns Q := by
  intro G p l e R s m args below meth c H locs als C h hl
  exact lv_ldc2 C.1 C.2.1 C.own (C.hts _ hw) hd (kk G p l e R s m args below meth c H locs als C h hl)
theorem w_iload_n {i : Fin 4} {x : Int32} (hd : decode (mB k) pc = .ok (.iload_n i, 1)) (hg : lget ls i = some (vi x)) (kk : Wp md md' k (pc + 1) ls (vi x :: st) μ nc ns Q) : Wp md md' k pc ls (st) μ nc ns Q := by
  intro G p l e R s m args below meth c H locs als C h hl
  exact lv_iload_n C.1 C.2.1 hd rfl (lget_ok hl hg) (kk G p l e R s m args below meth c H locs als C h hl)
theorem w_iload {i : Nat} {x : Int32} (hd : decode (mB k) pc = .ok (.iload i, 2)) (hg : lget ls i = some (vi x)) (kk : Wp md md' k (pc + 2) ls (vi x :: st) μ nc ns Q) : Wp md md' k pc ls (st) μ nc ns Q := by
  intro G p l e R s m args below meth c H locs als C h hl
  exact lv_iload C.1 C.2.1 hd (lget_ok hl hg) (kk G p l e R s m args below meth c H locs als C h hl)
theorem w_lload_n {i : Fin 4} {x : Int64} (hd : decode (mB k) pc = .ok (.lload_n i, 1)) (hg : lget ls i = some (vl x)) (kk : Wp md md' k (pc + 1) ls (vl x :: st) μ nc ns Q) : Wp md md' k pc ls (st) μ nc ns Q := by
  intro G p l e R s m args below meth c H locs als C h hl
  exact lv_lload_n C.1 C.2.1 hd rfl (lget_ok hl hg) (kk G p l e R s m args below meth c H locs als C h hl)
theorem w_lload {i : Nat} {x : Int64} (hd : decode (mB k) pc = .ok (.lload i, 2)) (hg : lget ls i = some (vl x)) (kk : Wp md md' k (pc + 2) ls (vl x :: st) μ nc ns Q) : Wp md md' k pc ls (st) μ nc ns Q := by
  intro G p l e R s m args below meth c H locs als C h hl
  exact lv_lload C.1 C.2.1 hd (lget_ok hl hg) (kk G p l e R s m args below meth c H locs als C h hl)
theorem w_aload_n {i : Fin 4} {r j : Nat} (hd : decode (mB k) pc = .ok (.aload_n i, 1)) (hg : lget ls i = some (vr r j)) (kk : Wp md md' k (pc + 1) ls (vr r j :: st) μ nc ns Q) : Wp md md' k pc ls st μ nc ns Q := by
  intro G p l e R s m args below meth c H locs als C h hl
  have h1 := lget_ok hl hg
  have h2 := (kk G p l e R s m args below meth c H locs als C h hl)
  simp only [List.map_cons, cv, vr] at h1 h2
  cases hq : rfv G r j with
  | none => rw [hq] at h1 h2; exact lv_aload_nN C.1 C.2.1 hd rfl h1 h2
  | some a => rw [hq] at h1 h2; exact lv_aload_n C.1 C.2.1 hd rfl h1 h2
theorem w_aload {i : Nat} {r j : Nat} (hd : decode (mB k) pc = .ok (.aload i, 2)) (hg : lget ls i = some (vr r j)) (kk : Wp md md' k (pc + 2) ls (vr r j :: st) μ nc ns Q) : Wp md md' k pc ls st μ nc ns Q := by
  intro G p l e R s m args below meth c H locs als C h hl
  have h1 := lget_ok hl hg
  have h2 := (kk G p l e R s m args below meth c H locs als C h hl)
  simp only [List.map_cons, cv, vr] at h1 h2
  cases hq : rfv G r j with
  | none => rw [hq] at h1 h2; exact lv_aloadN C.1 C.2.1 hd h1 h2
  | some a => rw [hq] at h1 h2; exact lv_aload C.1 C.2.1 hd h1 h2
theorem w_istore_n {i : Fin 4} {x : Int32} (hd : decode (mB k) pc = .ok (.istore_n i, 1)) (hi : (i : Nat) + 0 < mLoc k) (kk : Wp md md' k (pc + 1) (lput1 ls i (vi x)) st μ nc ns Q) : Wp md md' k pc ls (vi x :: st) μ nc ns Q := by
  intro G p l e R s m args below meth c H locs als C h hl
  refine lv_istore_n C.1 C.2.1 hd rfl hl hi rfl (fun als' hl' => ?_)
  exact kk G p l e R s m args below meth c H locs als' C h (lput1_ok (v := vi x) hl')
theorem w_istore {i : Nat} {x : Int32} (hd : decode (mB k) pc = .ok (.istore i, 2)) (hi : (i : Nat) + 0 < mLoc k) (kk : Wp md md' k (pc + 2) (lput1 ls i (vi x)) st μ nc ns Q) : Wp md md' k pc ls (vi x :: st) μ nc ns Q := by
  intro G p l e R s m args below meth c H locs als C h hl
  refine lv_istore C.1 C.2.1 hd hl hi rfl (fun als' hl' => ?_)
  exact kk G p l e R s m args below meth c H locs als' C h (lput1_ok (v := vi x) hl')
theorem w_lstore_n {i : Fin 4} {x : Int64} (hd : decode (mB k) pc = .ok (.lstore_n i, 1)) (hi : (i : Nat) + 1 < mLoc k) (kk : Wp md md' k (pc + 1) (lput2 ls i (vl x)) st μ nc ns Q) : Wp md md' k pc ls (vl x :: st) μ nc ns Q := by
  intro G p l e R s m args below meth c H locs als C h hl
  refine lv_lstore_n C.1 C.2.1 hd rfl hl hi rfl (fun als' hl' => ?_)
  exact kk G p l e R s m args below meth c H locs als' C h (lput2_ok (v := vl x) hl')
theorem w_lstore {i : Nat} {x : Int64} (hd : decode (mB k) pc = .ok (.lstore i, 2)) (hi : (i : Nat) + 1 < mLoc k) (kk : Wp md md' k (pc + 2) (lput2 ls i (vl x)) st μ nc ns Q) : Wp md md' k pc ls (vl x :: st) μ nc ns Q := by
  intro G p l e R s m args below meth c H locs als C h hl
  refine lv_lstore C.1 C.2.1 hd hl hi rfl (fun als' hl' => ?_)
  exact kk G p l e R s m args below meth c H locs als' C h (lput2_ok (v := vl x) hl')
theorem w_astore_n {i : Fin 4} {r j : Nat} (hd : decode (mB k) pc = .ok (.astore_n i, 1)) (hi : (i : Nat) + 0 < mLoc k) (kk : Wp md md' k (pc + 1) (lput1 ls i (vr r j)) st μ nc ns Q) : Wp md md' k pc ls (vr r j :: st) μ nc ns Q := by
  intro G p l e R s m args below meth c H locs als C h hl
  have kk2 : ∀ als', lv_has als' (mLoc k) (((i : Nat), cv G (vr r j)) :: (lsC G ls).filter (fun q => !(q.1 == (i : Nat)) && !(q.1 + 1 == (i : Nat) && q.2.category == 2))) → _ := fun als' hl' => kk G p l e R s m args below meth c H locs als' C h (lput1_ok (v := vr r j) hl')
  simp only [List.map_cons, cv, vr] at kk2 ⊢
  cases hq : rfv G r j with
  | none => rw [hq] at kk2; exact lv_astore_nN C.1 C.2.1 hd rfl hl hi rfl kk2
  | some a => rw [hq] at kk2; exact lv_astore_n C.1 C.2.1 hd rfl hl hi rfl kk2
theorem w_astore {i : Nat} {r j : Nat} (hd : decode (mB k) pc = .ok (.astore i, 2)) (hi : (i : Nat) + 0 < mLoc k) (kk : Wp md md' k (pc + 2) (lput1 ls i (vr r j)) st μ nc ns Q) : Wp md md' k pc ls (vr r j :: st) μ nc ns Q := by
  intro G p l e R s m args below meth c H locs als C h hl
  have kk2 : ∀ als', lv_has als' (mLoc k) (((i : Nat), cv G (vr r j)) :: (lsC G ls).filter (fun q => !(q.1 == (i : Nat)) && !(q.1 + 1 == (i : Nat) && q.2.category == 2))) → _ := fun als' hl' => kk G p l e R s m args below meth c H locs als' C h (lput1_ok (v := vr r j) hl')
  simp only [List.map_cons, cv, vr] at kk2 ⊢
  cases hq : rfv G r j with
  | none => rw [hq] at kk2; exact lv_astoreN C.1 C.2.1 hd hl hi rfl kk2
  | some a => rw [hq] at kk2; exact lv_astore C.1 C.2.1 hd hl hi rfl kk2
theorem w_iinc {i : Nat} {n : Int} {x : Int32} (hd : decode (mB k) pc = .ok (.iinc i n, 3)) (hg : lget ls i = some (vi x)) (hi : i < mLoc k) (kk : Wp md md' k (pc + 3) (lput1 ls i (vi (x + Int32.ofInt n))) st μ nc ns Q) : Wp md md' k pc ls st μ nc ns Q := by
  intro G p l e R s m args below meth c H locs als C h hl
  obtain ⟨q, hq⟩ := lget_at (G := G) hg
  refine lv_iinc C.1 C.2.1 hd hl hq rfl hi rfl (fun als' hl' => ?_)
  exact kk G p l e R s m args below meth c H locs als' C h (lput1_ok (v := vi _) hl')
theorem w_icmp_eq {x y : Int32} {off : Int} {t : Nat} (hd : decode (mB k) pc = .ok (.if_icmp .eq off, 3)) (ht : (pc : Int) + off = (t : Int)) (kt : x = y → Wp md md' k t ls st μ nc ns Q) (kf : ¬ x = y → Wp md md' k (pc + 3) ls st μ nc ns Q) : Wp md md' k pc ls (vi y :: vi x :: st) μ nc ns Q := by
  intro G p l e R s m args below meth c H locs als C h hl
  exact lv_icmp_eq C.1 C.2.1 hd ht (fun z => kt z G p l e R s m args below meth c H locs als C h hl) (fun z => kf z G p l e R s m args below meth c H locs als C h hl)
theorem w_if_eq {x : Int32} {off : Int} {t : Nat} (hd : decode (mB k) pc = .ok (.ifCond .eq off, 3)) (ht : (pc : Int) + off = (t : Int)) (kt : x = 0 → Wp md md' k t ls st μ nc ns Q) (kf : ¬ x = 0 → Wp md md' k (pc + 3) ls st μ nc ns Q) : Wp md md' k pc ls (vi x :: st) μ nc ns Q := by
  intro G p l e R s m args below meth c H locs als C h hl
  exact lv_if_eq C.1 C.2.1 hd ht (fun z => kt z G p l e R s m args below meth c H locs als C h hl) (fun z => kf z G p l e R s m args below meth c H locs als C h hl)
theorem w_icmp_ne {x y : Int32} {off : Int} {t : Nat} (hd : decode (mB k) pc = .ok (.if_icmp .ne off, 3)) (ht : (pc : Int) + off = (t : Int)) (kt : ¬ x = y → Wp md md' k t ls st μ nc ns Q) (kf : x = y → Wp md md' k (pc + 3) ls st μ nc ns Q) : Wp md md' k pc ls (vi y :: vi x :: st) μ nc ns Q := by
  intro G p l e R s m args below meth c H locs als C h hl
  exact lv_icmp_ne C.1 C.2.1 hd ht (fun z => kt z G p l e R s m args below meth c H locs als C h hl) (fun z => kf z G p l e R s m args below meth c H locs als C h hl)
theorem w_if_ne {x : Int32} {off : Int} {t : Nat} (hd : decode (mB k) pc = .ok (.ifCond .ne off, 3)) (ht : (pc : Int) + off = (t : Int)) (kt : ¬ x = 0 → Wp md md' k t ls st μ nc ns Q) (kf : x = 0 → Wp md md' k (pc + 3) ls st μ nc ns Q) : Wp md md' k pc ls (vi x :: st) μ nc ns Q := by
  intro G p l e R s m args below meth c H locs als C h hl
  exact lv_if_ne C.1 C.2.1 hd ht (fun z => kt z G p l e R s m args below meth c H locs als C h hl) (fun z => kf z G p l e R s m args below meth c H locs als C h hl)
theorem w_icmp_lt {x y : Int32} {off : Int} {t : Nat} (hd : decode (mB k) pc = .ok (.if_icmp .lt off, 3)) (ht : (pc : Int) + off = (t : Int)) (kt : x < y → Wp md md' k t ls st μ nc ns Q) (kf : ¬ x < y → Wp md md' k (pc + 3) ls st μ nc ns Q) : Wp md md' k pc ls (vi y :: vi x :: st) μ nc ns Q := by
  intro G p l e R s m args below meth c H locs als C h hl
  exact lv_icmp_lt C.1 C.2.1 hd ht (fun z => kt z G p l e R s m args below meth c H locs als C h hl) (fun z => kf z G p l e R s m args below meth c H locs als C h hl)
theorem w_if_lt {x : Int32} {off : Int} {t : Nat} (hd : decode (mB k) pc = .ok (.ifCond .lt off, 3)) (ht : (pc : Int) + off = (t : Int)) (kt : x < 0 → Wp md md' k t ls st μ nc ns Q) (kf : ¬ x < 0 → Wp md md' k (pc + 3) ls st μ nc ns Q) : Wp md md' k pc ls (vi x :: st) μ nc ns Q := by
  intro G p l e R s m args below meth c H locs als C h hl
  exact lv_if_lt C.1 C.2.1 hd ht (fun z => kt z G p l e R s m args below meth c H locs als C h hl) (fun z => kf z G p l e R s m args below meth c H locs als C h hl)
theorem w_icmp_ge {x y : Int32} {off : Int} {t : Nat} (hd : decode (mB k) pc = .ok (.if_icmp .ge off, 3)) (ht : (pc : Int) + off = (t : Int)) (kt : y ≤ x → Wp md md' k t ls st μ nc ns Q) (kf : ¬ y ≤ x → Wp md md' k (pc + 3) ls st μ nc ns Q) : Wp md md' k pc ls (vi y :: vi x :: st) μ nc ns Q := by
  intro G p l e R s m args below meth c H locs als C h hl
  exact lv_icmp_ge C.1 C.2.1 hd ht (fun z => kt z G p l e R s m args below meth c H locs als C h hl) (fun z => kf z G p l e R s m args below meth c H locs als C h hl)
theorem w_if_ge {x : Int32} {off : Int} {t : Nat} (hd : decode (mB k) pc = .ok (.ifCond .ge off, 3)) (ht : (pc : Int) + off = (t : Int)) (kt : 0 ≤ x → Wp md md' k t ls st μ nc ns Q) (kf : ¬ 0 ≤ x → Wp md md' k (pc + 3) ls st μ nc ns Q) : Wp md md' k pc ls (vi x :: st) μ nc ns Q := by
  intro G p l e R s m args below meth c H locs als C h hl
  exact lv_if_ge C.1 C.2.1 hd ht (fun z => kt z G p l e R s m args below meth c H locs als C h hl) (fun z => kf z G p l e R s m args below meth c H locs als C h hl)
theorem w_icmp_gt {x y : Int32} {off : Int} {t : Nat} (hd : decode (mB k) pc = .ok (.if_icmp .gt off, 3)) (ht : (pc : Int) + off = (t : Int)) (kt : y < x → Wp md md' k t ls st μ nc ns Q) (kf : ¬ y < x → Wp md md' k (pc + 3) ls st μ nc ns Q) : Wp md md' k pc ls (vi y :: vi x :: st) μ nc ns Q := by
  intro G p l e R s m args below meth c H locs als C h hl
  exact lv_icmp_gt C.1 C.2.1 hd ht (fun z => kt z G p l e R s m args below meth c H locs als C h hl) (fun z => kf z G p l e R s m args below meth c H locs als C h hl)
theorem w_if_gt {x : Int32} {off : Int} {t : Nat} (hd : decode (mB k) pc = .ok (.ifCond .gt off, 3)) (ht : (pc : Int) + off = (t : Int)) (kt : 0 < x → Wp md md' k t ls st μ nc ns Q) (kf : ¬ 0 < x → Wp md md' k (pc + 3) ls st μ nc ns Q) : Wp md md' k pc ls (vi x :: st) μ nc ns Q := by
  intro G p l e R s m args below meth c H locs als C h hl
  exact lv_if_gt C.1 C.2.1 hd ht (fun z => kt z G p l e R s m args below meth c H locs als C h hl) (fun z => kf z G p l e R s m args below meth c H locs als C h hl)
theorem w_icmp_le {x y : Int32} {off : Int} {t : Nat} (hd : decode (mB k) pc = .ok (.if_icmp .le off, 3)) (ht : (pc : Int) + off = (t : Int)) (kt : x ≤ y → Wp md md' k t ls st μ nc ns Q) (kf : ¬ x ≤ y → Wp md md' k (pc + 3) ls st μ nc ns Q) : Wp md md' k pc ls (vi y :: vi x :: st) μ nc ns Q := by
  intro G p l e R s m args below meth c H locs als C h hl
  exact lv_icmp_le C.1 C.2.1 hd ht (fun z => kt z G p l e R s m args below meth c H locs als C h hl) (fun z => kf z G p l e R s m args below meth c H locs als C h hl)
theorem w_if_le {x : Int32} {off : Int} {t : Nat} (hd : decode (mB k) pc = .ok (.ifCond .le off, 3)) (ht : (pc : Int) + off = (t : Int)) (kt : x ≤ 0 → Wp md md' k t ls st μ nc ns Q) (kf : ¬ x ≤ 0 → Wp md md' k (pc + 3) ls st μ nc ns Q) : Wp md md' k pc ls (vi x :: st) μ nc ns Q := by
  intro G p l e R s m args below meth c H locs als C h hl
  exact lv_if_le C.1 C.2.1 hd ht (fun z => kt z G p l e R s m args below meth c H locs als C h hl) (fun z => kf z G p l e R s m args below meth c H locs als C h hl)
theorem w_goto {off : Int} {t : Nat} (hd : decode (mB k) pc = .ok (.goto off, 3)) (ht : (pc : Int) + off = (t : Int)) (kk : Wp md md' k t ls st μ nc ns Q) : Wp md md' k pc ls st μ nc ns Q := by
  intro G p l e R s m args below meth c H locs als C h hl
  exact lv_goto C.1 C.2.1 hd ht (kk G p l e R s m args below meth c H locs als C h hl)

theorem w_mask {is : List Nat} (kk : Wp md md' k pc (lmask is ls) st μ nc ns Q) : Wp md md' k pc ls st μ nc ns Q := by
  intro G p l e R s m args below meth c H locs als C h hl
  refine kk G p l e R s m args below meth c H locs als C h (lv_has_sub hl fun q hq => ?_)
  obtain ⟨a, ha, rfl⟩ := List.mem_map.mp hq
  exact List.mem_map.mpr ⟨a, lmask_mem ha, rfl⟩
theorem w_post {Q' : Option V → Mem → Prop} (hq : ∀ r μ, Q' r μ → Q r μ) (kk : Wp md md' k pc ls st μ nc ns Q') : Wp md md' k pc ls st μ nc ns Q := by
  intro G p l e R s m args below meth c H locs als C h hl T hT X
  obtain ⟨t, a, o, b1, b2, ⟨r, μ1, c1, c2, c3⟩, b4⟩ := kk G p l e R s m args below meth c H locs als C h hl T hT X
  exact ⟨t, a, o, b1, b2, ⟨r, μ1, c1, hq _ _ c2, c3⟩, b4⟩
theorem w_getfield {ix a b r i : Nat} (hd : decode (mB k) pc = .ok (.getfield ix, 3)) (hw : flW k ix a b) (hr : rkd r = a) (hi : i < mC μ r) (kk : Wp md md' k (pc + 3) ls (getV md μ r i b :: st) μ nc ns Q) : Wp md md' k pc ls (vr r i :: st) μ nc ns Q := by
  intro G p l e R s m args below meth c H locs als C h hl
  subst hr
  obtain ⟨w1, w2, w3⟩ := hw
  have hr := rkd_in (show rkd r < 50 by omega)
  obtain ⟨a1, a2, a3, -⟩ := h.1.2 r i hr.1 hi
  have hP := h.1.at' hr.1 hi
  rw [ent_obj w1] at hP
  have hn : rfv G r i = some (ad G r i) := h.1.rf hr.1 hi
  simp only [List.map_cons, cv, vr, hn, va_rf]
  have hsz : b < rsz r := by rw [rsz_cl r hr.2 w1]; exact w2
  refine va_get C.1 C.2.1 (T := clT (rkd r)) C.hts (lay_in w1) C.own C.kg.1 hP 0 rfl (vw_at _ w1) b w2 (C.hts _ w3) (fun x q => q) (map_range_get _ hsz) hd ?_
  rw [← getV_cv]
  exact kk G p l e R s m args below meth c H locs als C h hl
/-- a field of an object is written: not final, or in its own constructor -/
theorem w_putfield {ix a b r i : Nat} {v : V} (hd : decode (mB k) pc = .ok (.putfield ix, 3)) (hw : flW k ix a b) (hf : (clT a b).2.2.2 = false ∨ ((mY k).name = "<init>" ∧ (clT a b).1 = oNm (mOwn k))) (hr : rkd r = a) (hi : i < mC μ r) (hv : fitV md r b μ v)
    (kk : Wp md md' k (pc + 3) ls st (putV μ r i b v) nc ns Q) : Wp md md' k pc ls (v :: vr r i :: st) μ nc ns Q := by
  intro G p l e R s m args below meth c H locs als C h hl
  subst hr
  obtain ⟨w1, w2, w3⟩ := hw
  have hr := rkd_in (show rkd r < 50 by omega)
  have hP := h.1.at' hr.1 hi
  have hn : rfv G r i = some (ad G r i) := h.1.rf hr.1 hi
  have hsz : b < rsz r := by rw [rsz_cl r hr.2 w1]; exact w2
  obtain ⟨f1, f2⟩ := fit_cv h.1 hv
  simp only [List.map_cons]
  rw [show cv G (vr r i) = .ref (ad G r i) by simp only [cv, vr, hn, va_rf]]
  have hap := va_apart (own := oNm (mOwn k)) C.hts (lay_in w1) (clTy (rkd r)) (ty_all _ w1) (nm_all _ w1) C.kg.1 (vw_at _ w1)
  have h0 := hP 0 _ rfl
  rw [ent_obj w1] at h0
  obtain ⟨rr, h1, cell, q1, q2, q3, q4⟩ := h0
  have hrr : rr = (oNm (rkd r), clT (rkd r), clN (rkd r)) := Option.some.inj (h1.symm.trans (vw_at _ w1))
  subst hrr
  obtain ⟨hS, hfc, kC, hkC, hkind⟩ := C.kg.1.1 (rkd r) _ (vw_at _ w1)
  obtain ⟨cf, kf, fi, f, hfi, hsl⟩ := hS b w2
  have hst := (u_facts hfc hkC (u_lays C.hts (lay_in w1) w2) hfi).1
  have goal : ∀ (H' : Heap), H'[ad G r i]? = some (cell.setSlot f.slot (cv G v)) → H'.size = H.size → (∀ q, q ≠ ad G r i → H'[q]? = H[q]?) → W p l e R s m args below meth c H' (locs ++ [⟨ad G r i, f.slot⟩]) nc ns (MQ below (QcW G md' Q) args s (mAc k) (mAs k) (fun q => G.1 ≤ q)) (F0 m (pc + 3) als (st.map (cv G))) := by
    intro H' e1 e2 e3
    rw [hsl] at e1
    refine kk G p l e R s m args below meth c H' _ als C ⟨h.1.set hr.1 hi (mC_putV μ r i b v) (fun r' i' z => ent_putV z) e2 e3 ?_, h.2.put e2 e3 (by rw [ad_ge hr.1]; omega)⟩ hl
    rw [ent_obj w1]
    refine ⟨_, h1, t_OB.to (V := updV (vp_V ((List.range (rsz r)).map (slotV G md μ r i))) b (cv G v)) ⟨_, e1, q2, q3, t_set q4 hap w2 (cv G v)⟩ (fun j hj => ?_)⟩
    have hj' : j < rsz r := by rw [rsz_cl r hr.2 w1]; exact hj
    unfold updV vp_V
    simp only [List.getD, map_range_get _ hj', Option.getD_some]
    rw [slot_putV hv]
  have hlay := C.hts _ (lay_in w1 _ (u_in_lay w2))
  unfold u_lay at hlay
  by_cases hfin : (clT (rkd r) b).2.2.2 = true
  · have hh := hf.resolve_left (by rw [hfin]; decide)
    rw [if_pos hfin] at hlay
    have hcf : m.cls = cf := by
      obtain ⟨_, _, c', _, _, _, -, -, hf', -, -, -, hown2, -⟩ := Cond.laysFinal_spec hlay
      have e1 : c' = cf := by have := hfi.symm.trans hf'; simp at this; exact this.1.symm
      rw [hh.2] at hown2
      rw [← e1]; exact Option.some.inj (C.own.symm.trans hown2)
    have h6 := u_fits hfc hkC hkind (Or.inr hlay) hfi (ty_all _ w1 b w2) f1 f2
    exact W.putFinK C.1 C.2.1 C.own (C.hts _ w3) hfi hst hcf (C.nm.trans hh.1) (by rw [q2]; exact h6) q1 q3 (by rw [hsl]; exact k2_hasslot (q4 b w2)) rfl rfl hd goal
  · rw [if_neg hfin] at hlay
    have h6 := u_store hfc hkC hkind hlay hfi (ty_all _ w1 b w2) f1 f2
    exact W.putK C.1 C.2.1 (f := f) ⟨C.own, C.hts _ w3, ⟨_, _, _, hfi⟩, hst⟩ (by rw [q2]; exact h6) q1 q3 (by rw [hsl]; exact k2_hasslot (q4 b w2)) rfl rfl hd goal
theorem w_iaload {r i : Nat} {j : Int32} (hd : decode (mB k) pc = .ok (.iaload, 1)) (hr : rkd r = 10) (hi : i < mC μ r) (hj : vp_in j (rsz r)) (kk : Wp md md' k (pc + 1) ls (vi (mI μ r i j.toNatClampNeg) :: st) μ nc ns Q) : Wp md md' k pc ls (vi j :: vr r i :: st) μ nc ns Q := by
  intro G p l e R s m args below meth c H locs als C h hl
  have hr1 := rkd_in (show rkd r < 50 by omega)
  have hP := h.1.at' hr1.1 hi
  rw [ent_arr (by omega), hr] at hP
  have hn : rfv G r i = some (ad G r i) := h.1.rf hr1.1 hi
  have ha : arrE G md μ r i = (rsz r, .inl (mI μ r i)) := by simp [arrE, hr]
  rw [ha] at hP
  simp only [List.map_cons, cv, vr, vi, hn, va_rf]
  refine va_iald C.1 C.2.1 C.kg.1 hP 0 0 rfl (tys_at G (by decide)) hj hd ?_
  exact kk G p l e R s m args below meth c H locs als C h hl
theorem w_laload {r i : Nat} {j : Int32} (hd : decode (mB k) pc = .ok (.laload, 1)) (hr : rkd r = 11) (hi : i < mC μ r) (hj : vp_in j (rsz r)) (kk : Wp md md' k (pc + 1) ls (vl (mL μ r i j.toNatClampNeg) :: st) μ nc ns Q) : Wp md md' k pc ls (vi j :: vr r i :: st) μ nc ns Q := by
  intro G p l e R s m args below meth c H locs als C h hl
  have hr1 := rkd_in (show rkd r < 50 by omega)
  have hP := h.1.at' hr1.1 hi
  rw [ent_arr (by omega), hr] at hP
  have hn : rfv G r i = some (ad G r i) := h.1.rf hr1.1 hi
  have ha : arrE G md μ r i = (rsz r, .inr (.inl (mL μ r i))) := by simp [arrE, hr]
  rw [ha] at hP
  simp only [List.map_cons, cv, vr, vi, hn, va_rf]
  refine va_lald C.1 C.2.1 C.kg.1 hP 0 1 rfl (tys_at G (by decide)) hj hd ?_
  exact kk G p l e R s m args below meth c H locs als C h hl
theorem w_baloadZ {r i : Nat} {j : Int32} (hd : decode (mB k) pc = .ok (.baload, 1)) (hr : rkd r = 12) (hi : i < mC μ r) (hj : vp_in j (rsz r)) (kk : Wp md md' k (pc + 1) ls (vi (mI μ r i j.toNatClampNeg) :: st) μ nc ns Q) : Wp md md' k pc ls (vi j :: vr r i :: st) μ nc ns Q := by
  intro G p l e R s m args below meth c H locs als C h hl
  have hr1 := rkd_in (show rkd r < 50 by omega)
  have hP := h.1.at' hr1.1 hi
  rw [ent_arr (by omega), hr] at hP
  have hn : rfv G r i = some (ad G r i) := h.1.rf hr1.1 hi
  have ha : arrE G md μ r i = (rsz r, .inl (mI μ r i)) := by simp [arrE, hr]
  rw [ha] at hP
  simp only [List.map_cons, cv, vr, vi, hn, va_rf]
  refine va_zald C.1 C.2.1 C.kg.1 hP 0 2 rfl (tys_at G (by decide)) hj hd ?_
  exact kk G p l e R s m args below meth c H locs als C h hl
theorem w_baloadB {r i : Nat} {j : Int32} (hd : decode (mB k) pc = .ok (.baload, 1)) (hr : rkd r = 13) (hi : i < mC μ r) (hj : vp_in j (rsz r)) (kk : Wp md md' k (pc + 1) ls (vi (mI μ r i j.toNatClampNeg) :: st) μ nc ns Q) : Wp md md' k pc ls (vi j :: vr r i :: st) μ nc ns Q := by
  intro G p l e R s m args below meth c H locs als C h hl
  have hr1 := rkd_in (show rkd r < 50 by omega)
  have hP := h.1.at' hr1.1 hi
  rw [ent_arr (by omega), hr] at hP
  have hn : rfv G r i = some (ad G r i) := h.1.rf hr1.1 hi
  have ha : arrE G md μ r i = (rsz r, .inl (mI μ r i)) := by simp [arrE, hr]
  rw [ha] at hP
  simp only [List.map_cons, cv, vr, vi, hn, va_rf]
  refine va_bald C.1 C.2.1 C.kg.1 hP 0 3 rfl (tys_at G (by decide)) hj hd ?_
  exact kk G p l e R s m args below meth c H locs als C h hl
theorem w_aaload {r i : Nat} {j : Int32} (hd : decode (mB k) pc = .ok (.aaload, 1)) (hr : 14 ≤ rkd r ∧ rkd r ≤ 16) (hi : i < mC μ r) (hj : vp_in j (rsz r)) (kk : Wp md md' k (pc + 1) ls (vr (rel r 0) (refI md μ r i j.toNatClampNeg) :: st) μ nc ns Q) : Wp md md' k pc ls (vi j :: vr r i :: st) μ nc ns Q := by
  intro G p l e R s m args below meth c H locs als C h hl
  have hr1 := rkd_in (show rkd r < 50 by omega)
  have hP := h.1.at' hr1.1 hi
  rw [ent_arr (by omega)] at hP
  have hn : rfv G r i = some (ad G r i) := h.1.rf hr1.1 hi
  have ha : arrE G md μ r i = (rsz r, .inr (.inr (.inr (.inr (fun j => rfv G (rel r 0) (refI md μ r i j)))))) := by simp [arrE, show rkd r ≠ 11 by omega, show ¬ rkd r < 14 by omega]
  rw [ha] at hP
  simp only [List.map_cons, cv, vr, vi, hn, va_rf]
  have hlt : j.toNatClampNeg < rsz r := Nat.not_le.mp fun q => hj (Or.inr q)
  have hq := hP 0 _ rfl
  have ht : (tysG G)[rkd r - 10]? = some (G.2.2.2.1 (rkd r - 10), ety (rkd r - 10)) := tys_at G (by omega)
  refine W.aald (v := va_rf (rfv G (rel r 0) (refI md μ r i j.toNatClampNeg))) (ty := ety (rkd r - 10)) C.1 C.2.1 hq ((C.kg.1.2 _ _ ht).1 (rsz r) (fun j => va_rf (rfv G (rel r 0) (refI md μ r i j)))) ?_ (fun q => by cases q) (by show ¬ (j < 0 ∨ (arrV _ _ _).slots.size ≤ _); rw [arrV_size]; exact hj) (by show (arrV _ _ _).slots[_]? = _; rw [arrV_read _ _ hlt]) rfl rfl hd ?_
  · rcases (show rkd r = 14 ∨ rkd r = 15 ∨ rkd r = 16 by omega) with z | z | z <;> rw [z] <;> rfl
  · exact kk G p l e R s m args below meth c H locs als C h hl
theorem w_arraylength {r i : Nat} (hd : decode (mB k) pc = .ok (.arraylength, 1)) (hr : 10 ≤ rkd r ∧ rkd r ≤ 16) (hi : i < mC μ r) (kk : Wp md md' k (pc + 1) ls (vi (nI (rsz r)) :: st) μ nc ns Q) : Wp md md' k pc ls (vr r i :: st) μ nc ns Q := by
  intro G p l e R s m args below meth c H locs als C h hl
  have hr1 := rkd_in (show rkd r < 50 by omega)
  have hP := h.1.at' hr1.1 hi
  rw [ent_arr (by omega)] at hP
  have hn : rfv G r i = some (ad G r i) := h.1.rf hr1.1 hi
  simp only [List.map_cons, cv, vr, hn, va_rf]
  refine va_alen C.1 C.2.1 C.kg.1 hP 0 (rkd r - 10) rfl (tys_at G (by omega)) rfl hd ?_
  exact kk G p l e R s m args below meth c H locs als C h hl
theorem w_iastore {r i : Nat} {j : Int32} {x : Int32} (hd : decode (mB k) pc = .ok (.iastore, 1)) (hr : rkd r = 10) (hi : i < mC μ r) (hj : vp_in j (rsz r)) (kk : Wp md md' k (pc + 1) ls st (rowI μ r i (up (mI μ r i) j.toNatClampNeg x)) nc ns Q) : Wp md md' k pc ls (vi x :: vi j :: vr r i :: st) μ nc ns Q := by
  intro G p l e R s m args below meth c H locs als C h hl
  have hr1 := rkd_in (show rkd r < 50 by omega)
  have hq := h.1.at' hr1.1 hi 0 _ rfl
  rw [ent_arr (by omega), hr] at hq
  have hn : rfv G r i = some (ad G r i) := h.1.rf hr1.1 hi
  have ha : arrE G md μ r i = (rsz r, .inl (mI μ r i)) := by simp [arrE, hr]
  rw [ha] at hq
  simp only [List.map_cons, cv, vr, vi, vl, hn, va_rf]
  refine W.iast C.1 C.2.1 hq ((C.kg.1.2 _ _ (tys_at G (show 0 < 7 by decide))).1 (rsz r) (fun j => .int (mI μ r i j))) (fun q => by cases q) (by show ¬ (j < 0 ∨ (arrV _ _ _).slots.size ≤ _); rw [arrV_size]; exact hj) rfl rfl hd fun H' e1 e2 e3 => ?_
  refine kk G p l e R s m args below meth c H' _ als C ⟨h.1.set hr1.1 hi (fun q => rfl) (fun r' i' z => ent_of_rows ?_ ?_ rfl) e2 e3 ?_, h.2.put e2 e3 (by rw [ad_ge hr1.1]; omega)⟩ hl
  · rw [mI_rowI, if_neg z]
  · rfl
  rw [ent_arr (by omega), hr]
  have ha' : arrE G md (rowI μ r i (up (mI μ r i) j.toNatClampNeg x)) r i = (rsz r, .inl (up (mI μ r i) j.toNatClampNeg x)) := by simp [arrE, hr, mI_rowI]
  rw [ha']
  show H'[ad G r i]? = some (vp_cell _ _)
  rw [e1]
  show some ((arrV _ _ _).setSlot _ _) = some (vp_cell _ (_, .inl _))
  rw [arrV_store, vp_cell_i]
  refine congrArg some (congrArg (arrV _ _) (funext fun q => ?_))
  unfold updV up
  by_cases z : q = j.toNatClampNeg
  · rw [if_pos z, if_pos z]
  · rw [if_neg z, if_neg z]
theorem w_lastore {r i : Nat} {j : Int32} {x : Int64} (hd : decode (mB k) pc = .ok (.lastore, 1)) (hr : rkd r = 11) (hi : i < mC μ r) (hj : vp_in j (rsz r)) (kk : Wp md md' k (pc + 1) ls st (rowL μ r i (up (mL μ r i) j.toNatClampNeg x)) nc ns Q) : Wp md md' k pc ls (vl x :: vi j :: vr r i :: st) μ nc ns Q := by
  intro G p l e R s m args below meth c H locs als C h hl
  have hr1 := rkd_in (show rkd r < 50 by omega)
  have hq := h.1.at' hr1.1 hi 0 _ rfl
  rw [ent_arr (by omega), hr] at hq
  have hn : rfv G r i = some (ad G r i) := h.1.rf hr1.1 hi
  have ha : arrE G md μ r i = (rsz r, .inr (.inl (mL μ r i))) := by simp [arrE, hr]
  rw [ha] at hq
  simp only [List.map_cons, cv, vr, vi, vl, hn, va_rf]
  refine W.last C.1 C.2.1 hq ((C.kg.1.2 _ _ (tys_at G (show 1 < 7 by decide))).1 (rsz r) (fun j => .long (mL μ r i j))) (fun q => by cases q) (by show ¬ (j < 0 ∨ (arrV _ _ _).slots.size ≤ _); rw [arrV_size]; exact hj) rfl rfl hd fun H' e1 e2 e3 => ?_
  refine kk G p l e R s m args below meth c H' _ als C ⟨h.1.set hr1.1 hi (fun q => rfl) (fun r' i' z => ent_of_rows ?_ ?_ rfl) e2 e3 ?_, h.2.put e2 e3 (by rw [ad_ge hr1.1]; omega)⟩ hl
  · rfl
  · rw [mL_rowL, if_neg z]
  rw [ent_arr (by omega), hr]
  have ha' : arrE G md (rowL μ r i (up (mL μ r i) j.toNatClampNeg x)) r i = (rsz r, .inr (.inl (up (mL μ r i) j.toNatClampNeg x))) := by simp [arrE, hr, mL_rowL]
  rw [ha']
  show H'[ad G r i]? = some (vp_cell _ _)
  rw [e1]
  show some ((arrV _ _ _).setSlot _ _) = some (vp_cell _ (_, .inr (.inl _)))
  rw [arrV_store, vp_cell_l]
  refine congrArg some (congrArg (arrV _ _) (funext fun q => ?_))
  unfold updV up
  by_cases z : q = j.toNatClampNeg
  · rw [if_pos z, if_pos z]
  · rw [if_neg z, if_neg z]
theorem w_bastoreZ {r i : Nat} {j : Int32} {x : Int32} (hd : decode (mB k) pc = .ok (.bastore, 1)) (hr : rkd r = 12) (hi : i < mC μ r) (hj : vp_in j (rsz r)) (kk : Wp md md' k (pc + 1) ls st (rowI μ r i (up (mI μ r i) j.toNatClampNeg (x &&& 1))) nc ns Q) : Wp md md' k pc ls (vi x :: vi j :: vr r i :: st) μ nc ns Q := by
  intro G p l e R s m args below meth c H locs als C h hl
  have hr1 := rkd_in (show rkd r < 50 by omega)
  have hq := h.1.at' hr1.1 hi 0 _ rfl
  rw [ent_arr (by omega), hr] at hq
  have hn : rfv G r i = some (ad G r i) := h.1.rf hr1.1 hi
  have ha : arrE G md μ r i = (rsz r, .inl (mI μ r i)) := by simp [arrE, hr]
  rw [ha] at hq
  simp only [List.map_cons, cv, vr, vi, vl, hn, va_rf]
  refine W.zast C.1 C.2.1 hq ((C.kg.1.2 _ _ (tys_at G (show 2 < 7 by decide))).1 (rsz r) (fun j => .int (mI μ r i j))) (fun q => by cases q) (by show ¬ (j < 0 ∨ (arrV _ _ _).slots.size ≤ _); rw [arrV_size]; exact hj) rfl rfl hd fun H' e1 e2 e3 => ?_
  refine kk G p l e R s m args below meth c H' _ als C ⟨h.1.set hr1.1 hi (fun q => rfl) (fun r' i' z => ent_of_rows ?_ ?_ rfl) e2 e3 ?_, h.2.put e2 e3 (by rw [ad_ge hr1.1]; omega)⟩ hl
  · rw [mI_rowI, if_neg z]
  · rfl
  rw [ent_arr (by omega), hr]
  have ha' : arrE G md (rowI μ r i (up (mI μ r i) j.toNatClampNeg (x &&& 1))) r i = (rsz r, .inl (up (mI μ r i) j.toNatClampNeg (x &&& 1))) := by simp [arrE, hr, mI_rowI]
  rw [ha']
  show H'[ad G r i]? = some (vp_cell _ _)
  rw [e1]
  show some ((arrV _ _ _).setSlot _ _) = some (vp_cell _ (_, .inl _))
  rw [arrV_store, vp_cell_i]
  refine congrArg some (congrArg (arrV _ _) (funext fun q => ?_))
  unfold updV up
  by_cases z : q = j.toNatClampNeg
  · rw [if_pos z, if_pos z]; rfl
  · rw [if_neg z, if_neg z]
theorem w_bastoreB {r i : Nat} {j : Int32} {x : Int32} (hd : decode (mB k) pc = .ok (.bastore, 1)) (hr : rkd r = 13) (hi : i < mC μ r) (hj : vp_in j (rsz r)) (kk : Wp md md' k (pc + 1) ls st (rowI μ r i (up (mI μ r i) j.toNatClampNeg x.toInt8.toInt32)) nc ns Q) : Wp md md' k pc ls (vi x :: vi j :: vr r i :: st) μ nc ns Q := by
  intro G p l e R s m args below meth c H locs als C h hl
  have hr1 := rkd_in (show rkd r < 50 by omega)
  have hq := h.1.at' hr1.1 hi 0 _ rfl
  rw [ent_arr (by omega), hr] at hq
  have hn : rfv G r i = some (ad G r i) := h.1.rf hr1.1 hi
  have ha : arrE G md μ r i = (rsz r, .inl (mI μ r i)) := by simp [arrE, hr]
  rw [ha] at hq
  simp only [List.map_cons, cv, vr, vi, vl, hn, va_rf]
  refine W.bast C.1 C.2.1 hq ((C.kg.1.2 _ _ (tys_at G (show 3 < 7 by decide))).1 (rsz r) (fun j => .int (mI μ r i j))) (fun q => by cases q) (by show ¬ (j < 0 ∨ (arrV _ _ _).slots.size ≤ _); rw [arrV_size]; exact hj) rfl rfl hd fun H' e1 e2 e3 => ?_
  refine kk G p l e R s m args below meth c H' _ als C ⟨h.1.set hr1.1 hi (fun q => rfl) (fun r' i' z => ent_of_rows ?_ ?_ rfl) e2 e3 ?_, h.2.put e2 e3 (by rw [ad_ge hr1.1]; omega)⟩ hl
  · rw [mI_rowI, if_neg z]
  · rfl
  rw [ent_arr (by omega), hr]
  have ha' : arrE G md (rowI μ r i (up (mI μ r i) j.toNatClampNeg x.toInt8.toInt32)) r i = (rsz r, .inl (up (mI μ r i) j.toNatClampNeg x.toInt8.toInt32)) := by simp [arrE, hr, mI_rowI]
  rw [ha']
  show H'[ad G r i]? = some (vp_cell _ _)
  rw [e1]
  show some ((arrV _ _ _).setSlot _ _) = some (vp_cell _ (_, .inl _))
  rw [arrV_store, vp_cell_i]
  refine congrArg some (congrArg (arrV _ _) (funext fun q => ?_))
  unfold updV up
  by_cases z : q = j.toNatClampNeg
  · rw [if_pos z, if_pos z]; rfl
  · rw [if_neg z, if_neg z]
/-- the ends -/
theorem w_ireturn {x : Int32} {ty : FieldType} (hd : decode (mB k) pc = .ok (.ireturn, 1)) (hm : md = md') (hr : mRet k = some ty) (hn : narrow ty (.int x) = .int x) (h1 : nc ≤ mAc k) (h2 : ns ≤ mAs k) (hq : Q (some (vi x)) μ) : Wp md md' k pc ls [vi x] μ nc ns Q := by
  intro G p l e R s m args below meth c H locs als C h hl
  subst hm
  refine W.widen h1 h2 ?_
  exact W.zret (hlocks := C.2.2.2.2.1) C.1 C.2.1 (C.2.2.2.1.trans hr) hn (fun t ht _ => ⟨some (vi x), μ, rfl, hq, by rw [ht]; exact h.1, h.2.F ht⟩) (fun q hq => h.2.2.2 q hq) hd
theorem w_lreturn {x : Int64} (hd : decode (mB k) pc = .ok (.lreturn, 1)) (hm : md = md') (hr : mRet k = some .long) (h1 : nc ≤ mAc k) (h2 : ns ≤ mAs k) (hq : Q (some (vl x)) μ) : Wp md md' k pc ls [vl x] μ nc ns Q := by
  intro G p l e R s m args below meth c H locs als C h hl
  subst hm
  refine W.widen h1 h2 ?_
  exact W.lret (hlocks := C.2.2.2.2.1) C.1 C.2.1 (C.2.2.2.1.trans hr) (fun t ht _ => ⟨some (vl x), μ, rfl, hq, by rw [ht]; exact h.1, h.2.F ht⟩) (fun q hq => h.2.2.2 q hq) hd
theorem w_return (hd : decode (mB k) pc = .ok (.return_, 1)) (hm : md = md') (hr : mRet k = none) (h1 : nc ≤ mAc k) (h2 : ns ≤ mAs k) (hq : Q none μ) : Wp md md' k pc ls [] μ nc ns Q := by
  intro G p l e R s m args below meth c H locs als C h hl
  subst hm
  refine W.widen h1 h2 ?_
  exact W.vret (hlocks := C.2.2.2.2.1) C.1 C.2.1 (C.2.2.2.1.trans hr) (fun t ht _ => ⟨none, μ, rfl, hq, by rw [ht]; exact h.1, h.2.F ht⟩) (fun q hq => h.2.2.2 q hq) hd
theorem w_dup {v : V} (hd : decode (mB k) pc = .ok (.dup, 1)) (hv : isL v = false) (kk : Wp md md' k (pc + 1) ls (v :: v :: st) μ nc ns Q) : Wp md md' k pc ls (v :: st) μ nc ns Q := by
  intro G p l e R s m args below meth c H locs als C h hl
  refine lv_dup C.1 C.2.1 hd ?_ (kk G p l e R s m args below meth c H locs als C h hl)
  have := isL_cat G v
  rw [hv] at this
  match v with
  | .inl x => rfl
  | .inr (.inl x) => cases hv
  | .inr (.inr (r, i)) =>
    show (va_rf (rfv G r i)).category = 1
    cases rfv G r i <;> rfl
theorem w_dup2 {v w : V} (hd : decode (mB k) pc = .ok (.dup2, 1)) (hv : isL v = false) (hw : isL w = false) (kk : Wp md md' k (pc + 1) ls (v :: w :: v :: w :: st) μ nc ns Q) : Wp md md' k pc ls (v :: w :: st) μ nc ns Q := by
  intro G p l e R s m args below meth c H locs als C h hl
  have cat : ∀ v : V, isL v = false → (cv G v).category = 1 := fun v hv => match v with
    | .inl x => rfl
    | .inr (.inl x) => by cases hv
    | .inr (.inr (r, i)) => by
      show (va_rf (rfv G r i)).category = 1
      cases rfv G r i <;> rfl
  exact lv_dup2_11 C.1 C.2.1 hd (cat v hv) (cat w hw) (kk G p l e R s m args below meth c H locs als C h hl)
/-- a switch -/
theorem w_switch {dflt lo hi : Int} {offs : Array Int} {len : Nat} {x : Int32} (hd : decode (mB k) pc = .ok (.tableswitch dflt lo hi offs, len)) (hlo : ∀ t ∈ dflt :: offs.toList, 0 ≤ (pc : Int) + t) (hsz : (offs.size : Int) = hi - lo + 1)
    (kk : Wp md md' k ((pc : Int) + (if x.toInt < lo ∨ hi < x.toInt then dflt else offs.toList.getD (x.toInt - lo).toNat 0)).toNat ls st μ nc ns Q) : Wp md md' k pc ls (vi x :: st) μ nc ns Q := by
  intro G p l e R s m args below meth c H locs als C h hl
  have k1 := kk G p l e R s m args below meth c H locs als C h hl
  by_cases ho : x.toInt < lo ∨ hi < x.toInt
  · rw [if_pos ho] at k1
    refine lv_tableOut C.1 C.2.1 hd ho ?_ k1
    have := hlo dflt List.mem_cons_self
    omega
  · rw [if_neg ho] at k1
    have hlt : (x.toInt - lo).toNat < offs.size := by omega
    have e : offs[(x.toInt - lo).toNat]? = some (offs.toList.getD (x.toInt - lo).toNat 0) := by
      have e0 := Array.getElem?_eq_getElem hlt
      rw [List.getD_eq_getElem?_getD, Array.getElem?_toList, e0]
      rfl
    refine lv_tableIn C.1 C.2.1 hd (fun z => ho (Or.inl z)) (fun z => ho (Or.inr z)) e ?_ k1
    have hm : offs.toList.getD (x.toInt - lo).toNat 0 ∈ dflt :: offs.toList := by
      refine List.mem_cons_of_mem _ (List.mem_of_getElem? (i := (x.toInt - lo).toNat) ?_)
      rw [Array.getElem?_toList]; exact e
    have := hlo _ hm
    omega
end Rules


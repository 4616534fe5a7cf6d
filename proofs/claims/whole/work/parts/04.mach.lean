/-! the machine's values and memory, as numbers: a region and a number name a cell -/
def lwG : List Cond := lw_tbl.filter goodWord
theorem lwG_mem {w : Cond} (h : w ∈ lw_tbl) (g : goodWord w = true) : w ∈ lwG := List.mem_filter.mpr ⟨h, g⟩
theorem lwG_good {w : Cond} (h : w ∈ lwG) : goodWord w = true := (List.mem_filter.mp h).2
theorem lwG_in {ws : List Cond} (h : ∀ w ∈ ws, w ∈ lwG) : GoodIn lwG ws := fun w hw => ⟨h w hw, good_of_word (lwG_good (h w hw))⟩
theorem inv_ok : ∀ r, r < 104 → ∀ i, i < cap r → invT[ord r i]? = some (r, i) := by decide +kernel
/-- values: an int, a long, a reference -/
abbrev V : Type := Int32 ⊕ (Int64 ⊕ (Nat × Nat))
def vi (x : Int32) : V := .inl x
def vl (x : Int64) : V := .inr (.inl x)
def vr (r i : Nat) : V := .inr (.inr (r, i))
def nul : Nat := 999999
abbrev Mem : Type := (Nat → Nat → Nat → Int32) × (Nat → Nat → Nat → Int64) × (Nat → Nat → Nat → Nat) × (Nat → Nat)
def mI (μ : Mem) (r i : Nat) : Nat → Int32 := μ.1 r i
def mL (μ : Mem) (r i : Nat) : Nat → Int64 := μ.2.1 r i
def mR (μ : Mem) (r i : Nat) : Nat → Nat := μ.2.2.1 r i
def mC (μ : Mem) (r : Nat) : Nat := μ.2.2.2 r
def rowI (μ : Mem) (r i : Nat) (f : Nat → Int32) : Mem := (fun r' i' => if r' = r ∧ i' = i then f else μ.1 r' i', μ.2)
def rowL (μ : Mem) (r i : Nat) (f : Nat → Int64) : Mem := (μ.1, fun r' i' => if r' = r ∧ i' = i then f else μ.2.1 r' i', μ.2.2)
def rowR (μ : Mem) (r i : Nat) (f : Nat → Nat) : Mem := (μ.1, μ.2.1, fun r' i' => if r' = r ∧ i' = i then f else μ.2.2.1 r' i', μ.2.2.2)
def cntC (μ : Mem) (r n : Nat) : Mem := (μ.1, μ.2.1, μ.2.2.1, fun r' => if r' = r then μ.2.2.2 r + n else if r' = 0 then μ.2.2.2 0 + n else μ.2.2.2 r')
def up {α : Type} (f : Nat → α) (k : Nat) (x : α) : Nat → α := fun j => if j = k then x else f j
/-- a new cell: its rows are 0 -/
def newC (μ : Mem) (r : Nat) : Mem := cntC (rowI (rowL (rowR μ r (mC μ r) (fun _ => nul)) r (mC μ r) (fun _ => 0)) r (mC μ r) (fun _ => 0)) r 1
/-- what is fixed over the whole run: where the world begins, the script, its length, class numbers, slots, array classes, texts -/
abbrev GC : Type := Nat × Nat × va_G × (Nat → ClassId) × (Nat → Nat) × (Nat → Nat)
def ad (G : GC) (r i : Nat) : Nat := if r = 1 then G.2.1 else if r = 3 then G.2.2.2.2.1 i else G.1 + ord r i
def rfv (G : GC) (r i : Nat) : Option Nat := if i = nul then none else some (ad G r i)
def cv (G : GC) : V → Value
  | .inl x => .int x
  | .inr (.inl x) => .long x
  | .inr (.inr (r, i)) => va_rf (rfv G r i)
def rszM (μ : Mem) (r : Nat) : Nat := if r = 1 then mC μ 2 else rsz r
def refI (md : Nat) (μ : Mem) (r i k : Nat) : Nat := if isS r k ≠ 0 ∧ isS r k ≤ md then chs r i k else mR μ r i k
def kty : FieldType → Nat
  | .long => 1
  | .object _ => 2
  | .array _ => 2
  | _ => 0
def slotV (G : GC) (md : Nat) (μ : Mem) (r i k : Nat) : Value := match kty (clTy (rkd r) k) with
  | 0 => .int (mI μ r i k)
  | 1 => .long (mL μ r i k)
  | _ => va_rf (rfv G (rel r k) (refI md μ r i k))
def arrE (G : GC) (md : Nat) (μ : Mem) (r i : Nat) : vp_A := (rsz r, if rkd r = 11 then .inr (.inl (mL μ r i)) else if rkd r < 14 then .inl (mI μ r i) else .inr (.inr (.inr (.inr (fun j => rfv G (rel r 0) (refI md μ r i j))))))
def ent (G : GC) (md : Nat) (μ : Mem) (r i : Nat) : va_E := if rkd r < 10 then .inr (rkd r, (List.range (rsz r)).map (slotV G md μ r i)) else .inl (G.2.2.2.1 (rkd r - 10), arrE G md μ r i)
def ety : Nat → FieldType := fun k => match k with
  | 0 => .int
  | 1 => .long
  | 2 => .boolean
  | 3 => .byte
  | 4 => .object "SluiceLogs$State"
  | 5 => .array .int
  | _ => .array .long
def tysG (G : GC) : List (ClassId × FieldType) := (List.range 7).map (fun j => (G.2.2.2.1 j, ety j))
def Rep (G : GC) (md : Nat) (μ : Mem) (H : Heap) : Prop :=
  H.size = G.1 + mC μ 0 ∧ ∀ r i, 10 ≤ r → i < mC μ r → r < 104 ∧ i < cap r ∧ ord r i < mC μ 0 ∧ va_at G.2.2.1 vwCl (ad G r i, ent G md μ r i) H
/-- an array of arrays of T may be made -/
def aov (ty : FieldType) (U : State) : Prop := (Cond.arrayOver ty).before #[] U = true
def nestW : List Cond := (tables_1.filter (fun w => match w with | .methodLinkNest .. => true | _ => false))
def bJS (i : Nat) : List Int32 := []
def KS (G : GC) (s : State) (H : Heap) : Prop := True
def KG (G : GC) (s : State) : Prop := va_K G.2.2.1 vwCl (tysG G) s ∧ (∀ w ∈ nestW, va_Nw w s) ∧ aov (ety 4) s ∧ aov (ety 5) s ∧ aov (ety 6) s
/-- what a method stands on -/
def Cx (G : GC) (k : Nat) (p : Program) (R : Room) (s : State) (m : MethodId) (args : Array Value) (meth : Method) (c : Code) : Prop :=
  p.tables.exec = Jvm.exec ∧ c.code = mB k ∧ c.maxLocals = mLoc k ∧ meth.sig.returnType = mRet k ∧ meth.locks = false ∧ s.vm.findClass (oNm (mOwn k)) = some m.cls ∧ (∀ w ∈ lwG, w.before args s = true) ∧ KG G s ∧
  (mFr k ≤ R.frames ∧ mLo k ≤ R.locals ∧ mAc k ≤ R.cells ∧ mAs k ≤ R.slots) ∧ meth.name = (mY k).name ∧ G.1 ≤ s.heap.size ∧ G.2.1 < G.1 ∧ KS G s s.heap
def RepH (G : GC) (md : Nat) (μ : Mem) (s : State) (H : Heap) (locs : List Loc) : Prop := Rep G md μ H ∧ va_S (fun q => G.1 ≤ q) s.heap H locs
def lsC (G : GC) (ls : List (Nat × V)) : List (Nat × Value) := ls.map (fun q => (q.1, cv G q.2))
def QcW (G : GC) (md : Nat) (Q : Option V → Mem → Prop) : Array Value → State → Outcome → State → Prop := fun _ _ o t => ∃ (r : Option V) (μ : Mem), o = .returned (r.map (cv G)) ∧ Q r μ ∧ Rep G md μ t.heap
/-- from here (method k, at pc, locals, stack, memory) the method comes to an end that Q allows -/
def Wp (md md' k pc : Nat) (ls : List (Nat × V)) (st : List V) (μ : Mem) (nc ns : Nat) (Q : Option V → Mem → Prop) : Prop :=
  ∀ (G : GC) (p : Program) (l : Launch) (e : Env) (R : Room) (s : State) (m : MethodId) (args : Array Value) (below : List Frame) (meth : Method) (c : Code) (H : Heap) (locs : List Loc) (als : Array Slot),
    Cx G k p R s m args meth c → RepH G md μ s H locs → lv_has als (mLoc k) (lsC G ls) →
    W p l e R s m args below meth c H locs nc ns (MQ below (QcW G md' Q) args s (mAc k) (mAs k) (fun q => G.1 ≤ q)) (F0 m pc als (st.map (cv G)))
theorem Cx.own {G : GC} {k : Nat} {p : Program} {R : Room} {s : State} {m : MethodId} {args : Array Value} {meth : Method} {c : Code} (C : Cx G k p R s m args meth c) : s.vm.findClass (oNm (mOwn k)) = some m.cls := C.2.2.2.2.2.1
theorem Cx.hts {G : GC} {k : Nat} {p : Program} {R : Room} {s : State} {m : MethodId} {args : Array Value} {meth : Method} {c : Code} (C : Cx G k p R s m args meth c) : ∀ w ∈ lwG, w.before args s = true := C.2.2.2.2.2.2.1
theorem Cx.kg {G : GC} {k : Nat} {p : Program} {R : Room} {s : State} {m : MethodId} {args : Array Value} {meth : Method} {c : Code} (C : Cx G k p R s m args meth c) : KG G s := C.2.2.2.2.2.2.2.1
/-- locals -/
def lget : List (Nat × V) → Nat → Option V
  | [], _ => none
  | (j, v) :: t, i => if j = i then some v else lget t i
def isL : V → Bool
  | .inr (.inl _) => true
  | _ => false
def ldel1 : List (Nat × V) → Nat → List (Nat × V)
  | [], _ => []
  | (j, v) :: t, i => if j = i ∨ (j + 1 = i ∧ isL v = true) then ldel1 t i else (j, v) :: ldel1 t i
def ldel2 : List (Nat × V) → Nat → List (Nat × V)
  | [], _ => []
  | (j, v) :: t, i => if j = i ∨ j = i + 1 ∨ (j + 1 = i ∧ isL v = true) then ldel2 t i else (j, v) :: ldel2 t i
def lins : List (Nat × V) → Nat → V → List (Nat × V)
  | [], i, v => [(i, v)]
  | (j, w) :: t, i, v => if j < i then (j, w) :: lins t i v else (i, v) :: (j, w) :: t
def lput1 (ls : List (Nat × V)) (i : Nat) (v : V) : List (Nat × V) := lins (ldel1 ls i) i v
def lput2 (ls : List (Nat × V)) (i : Nat) (v : V) : List (Nat × V) := lins (ldel2 ls i) i v
/-- the live ones alone -/
def lmask : List Nat → List (Nat × V) → List (Nat × V)
  | [], _ => []
  | i :: t, ls => match lget ls i with
    | some v => (i, v) :: lmask t ls
    | none => lmask t ls
theorem lget_mem {ls : List (Nat × V)} {i : Nat} {v : V} (h : lget ls i = some v) : (i, v) ∈ ls := by
  induction ls with
  | nil => simp [lget] at h
  | cons q t ih =>
    obtain ⟨j, w⟩ := q
    simp only [lget] at h
    by_cases e : j = i
    · rw [if_pos e] at h; cases h; subst e; exact List.mem_cons_self
    · rw [if_neg e] at h; exact List.mem_cons_of_mem _ (ih h)
theorem lsC_mem {G : GC} {ls : List (Nat × V)} {i : Nat} {v : V} (h : (i, v) ∈ ls) : (i, cv G v) ∈ lsC G ls := List.mem_map.mpr ⟨(i, v), h, rfl⟩
theorem lget_ok {G : GC} {als : Array Slot} {n : Nat} {ls : List (Nat × V)} {i : Nat} {v : V} (hl : lv_has als n (lsC G ls)) (h : lget ls i = some v) : als[i]? = some (.val (cv G v)) := hl.2.2 (i, cv G v) (lsC_mem (lget_mem h))
theorem lget_at {G : GC} {ls : List (Nat × V)} {i : Nat} {v : V} (h : lget ls i = some v) : ∃ q : Nat, (lsC G ls)[q]? = some (i, cv G v) := by
  obtain ⟨q, hq, e⟩ := List.mem_iff_getElem.mp (lsC_mem (G := G) (lget_mem h))
  exact ⟨q, by rw [List.getElem?_eq_getElem hq, e]⟩
theorem lv_has_sub {als : Array Slot} {n : Nat} {l l' : List (Nat × Value)} (h : lv_has als n l) (hs : ∀ q ∈ l', q ∈ l) : lv_has als n l' := ⟨h.1, h.2.1, fun q hq => h.2.2 q (hs q hq)⟩
theorem lins_mem {ls : List (Nat × V)} {i : Nat} {v : V} {q : Nat × V} (h : q ∈ lins ls i v) : q = (i, v) ∨ q ∈ ls := by
  induction ls with
  | nil => simp [lins] at h; exact Or.inl h
  | cons a t ih =>
    obtain ⟨j, w⟩ := a
    simp only [lins] at h
    split at h
    · rcases List.mem_cons.mp h with e | e
      · exact Or.inr (e ▸ List.mem_cons_self)
      · rcases ih e with f | f
        · exact Or.inl f
        · exact Or.inr (List.mem_cons_of_mem _ f)
    · rcases List.mem_cons.mp h with e | e
      · exact Or.inl e
      · exact Or.inr e
theorem isL_cat (G : GC) (v : V) : ((cv G v).category == 2) = isL v := by
  match v with
  | .inl x => rfl
  | .inr (.inl x) => rfl
  | .inr (.inr (r, i)) =>
    show ((va_rf (rfv G r i)).category == 2) = false
    cases rfv G r i <;> rfl
theorem ldel1_mem {ls : List (Nat × V)} {i : Nat} {q : Nat × V} (h : q ∈ ldel1 ls i) : q ∈ ls ∧ ¬ q.1 = i ∧ ¬ (q.1 + 1 = i ∧ isL q.2 = true) := by
  induction ls with
  | nil => simp [ldel1] at h
  | cons a t ih =>
    obtain ⟨j, w⟩ := a
    simp only [ldel1] at h
    split at h
    · exact ⟨List.mem_cons_of_mem _ (ih h).1, (ih h).2⟩
    · rename_i hn
      rcases List.mem_cons.mp h with e | e
      · subst e; exact ⟨List.mem_cons_self, fun z => hn (Or.inl z), fun z => hn (Or.inr z)⟩
      · exact ⟨List.mem_cons_of_mem _ (ih e).1, (ih e).2⟩
theorem ldel2_mem {ls : List (Nat × V)} {i : Nat} {q : Nat × V} (h : q ∈ ldel2 ls i) : q ∈ ls ∧ ¬ q.1 = i ∧ ¬ q.1 = i + 1 ∧ ¬ (q.1 + 1 = i ∧ isL q.2 = true) := by
  induction ls with
  | nil => simp [ldel2] at h
  | cons a t ih =>
    obtain ⟨j, w⟩ := a
    simp only [ldel2] at h
    split at h
    · exact ⟨List.mem_cons_of_mem _ (ih h).1, (ih h).2⟩
    · rename_i hn
      rcases List.mem_cons.mp h with e | e
      · subst e; exact ⟨List.mem_cons_self, fun z => hn (Or.inl z), fun z => hn (Or.inr (Or.inl z)), fun z => hn (Or.inr (Or.inr z))⟩
      · exact ⟨List.mem_cons_of_mem _ (ih e).1, (ih e).2⟩
theorem lput1_ok {G : GC} {als : Array Slot} {n : Nat} {ls : List (Nat × V)} {i : Nat} {v : V} (h : lv_has als n ((i, cv G v) :: (lsC G ls).filter (fun q => !(q.1 == i) && !(q.1 + 1 == i && q.2.category == 2)))) : lv_has als n (lsC G (lput1 ls i v)) := by
  refine lv_has_sub h (fun q hq => ?_)
  obtain ⟨⟨j, w⟩, hm, rfl⟩ := List.mem_map.mp hq
  rcases lins_mem hm with e | e
  · cases e; exact List.mem_cons_self
  · obtain ⟨h1, h2, h3⟩ := ldel1_mem e
    refine List.mem_cons_of_mem _ (List.mem_filter.mpr ⟨lsC_mem h1, ?_⟩)
    simp only [isL_cat]
    simp only [Bool.and_eq_true, Bool.not_eq_true', beq_eq_false_iff_ne, ne_eq]
    exact ⟨h2, by by_cases z : j + 1 = i <;> simp_all⟩
theorem lput2_ok {G : GC} {als : Array Slot} {n : Nat} {ls : List (Nat × V)} {i : Nat} {v : V} (h : lv_has als n ((i, cv G v) :: (lsC G ls).filter (fun q => !(q.1 == i) && (!(q.1 == i + 1) && !(q.1 + 1 == i && q.2.category == 2))))) : lv_has als n (lsC G (lput2 ls i v)) := by
  refine lv_has_sub h (fun q hq => ?_)
  obtain ⟨⟨j, w⟩, hm, rfl⟩ := List.mem_map.mp hq
  rcases lins_mem hm with e | e
  · cases e; exact List.mem_cons_self
  · obtain ⟨h1, h2, h3, h4⟩ := ldel2_mem e
    refine List.mem_cons_of_mem _ (List.mem_filter.mpr ⟨lsC_mem h1, ?_⟩)
    simp only [isL_cat]
    simp only [Bool.and_eq_true, Bool.not_eq_true', beq_eq_false_iff_ne, ne_eq]
    exact ⟨h2, h3, by by_cases z : j + 1 = i <;> simp_all⟩
theorem lmask_mem {ls : List (Nat × V)} {is : List Nat} {q : Nat × V} (h : q ∈ lmask is ls) : q ∈ ls := by
  induction is with
  | nil => simp [lmask] at h
  | cons i t ih =>
    simp only [lmask] at h
    split at h
    · rename_i v hv
      rcases List.mem_cons.mp h with e | e
      · subst e; exact lget_mem hv
      · exact ih e
    · exact ih h

section Rules
variable {md md' k pc : Nat} {ls : List (Nat × V)} {st : List V} {μ : Mem} {nc ns : Nat} {Q : Option V → Mem → Prop}
theorem w_iadd {x y : Int32} (hd : decode (mB k) pc = .ok (.iadd, 1)) (kk : Wp md md' k (pc + 1) ls (vi (x + y) :: st) μ nc ns Q) : Wp md md' k pc ls (vi y :: vi x :: st) μ nc ns Q := by
  intro G p l e R s m args below meth c H locs als C h hl
  exact lv_iadd C.1 C.2.1 hd (kk G p l e R s m args below meth c H locs als C h hl)
theorem w_isub {x y : Int32} (hd : decode (mB k) pc = .ok (.isub, 1)) (kk : Wp md md' k (pc + 1) ls (vi (x - y) :: st) μ nc ns Q) : Wp md md' k pc ls (vi y :: vi x :: st) μ nc ns Q := by
  intro G p l e R s m args below meth c H locs als C h hl
  exact lv_isub C.1 C.2.1 hd (kk G p l e R s m args below meth c H locs als C h hl)
theorem w_imul {x y : Int32} (hd : decode (mB k) pc = .ok (.imul, 1)) (kk : Wp md md' k (pc + 1) ls (vi (x * y) :: st) μ nc ns Q) : Wp md md' k pc ls (vi y :: vi x :: st) μ nc ns Q := by
  intro G p l e R s m args below meth c H locs als C h hl
  exact lv_imul C.1 C.2.1 hd (kk G p l e R s m args below meth c H locs als C h hl)
theorem w_iand {x y : Int32} (hd : decode (mB k) pc = .ok (.iand, 1)) (kk : Wp md md' k (pc + 1) ls (vi (x &&& y) :: st) μ nc ns Q) : Wp md md' k pc ls (vi y :: vi x :: st) μ nc ns Q := by
  intro G p l e R s m args below meth c H locs als C h hl
  exact lv_iand C.1 C.2.1 hd (kk G p l e R s m args below meth c H locs als C h hl)
theorem w_ior {x y : Int32} (hd : decode (mB k) pc = .ok (.ior, 1)) (kk : Wp md md' k (pc + 1) ls (vi (x ||| y) :: st) μ nc ns Q) : Wp md md' k pc ls (vi y :: vi x :: st) μ nc ns Q := by
  intro G p l e R s m args below meth c H locs als C h hl
  exact lv_ior C.1 C.2.1 hd (kk G p l e R s m args below meth c H locs als C h hl)
theorem w_ixor {x y : Int32} (hd : decode (mB k) pc = .ok (.ixor, 1)) (kk : Wp md md' k (pc + 1) ls (vi (x ^^^ y) :: st) μ nc ns Q) : Wp md md' k pc ls (vi y :: vi x :: st) μ nc ns Q := by
  intro G p l e R s m args below meth c H locs als C h hl
  exact lv_ixor C.1 C.2.1 hd (kk G p l e R s m args below meth c H locs als C h hl)
theorem w_ishl {x y : Int32} (hd : decode (mB k) pc = .ok (.ishl, 1)) (kk : Wp md md' k (pc + 1) ls (vi (x <<< (y &&& 31)) :: st) μ nc ns Q) : Wp md md' k pc ls (vi y :: vi x :: st) μ nc ns Q := by
  intro G p l e R s m args below meth c H locs als C h hl
  exact lv_ishl C.1 C.2.1 hd (kk G p l e R s m args below meth c H locs als C h hl)
theorem w_ishr {x y : Int32} (hd : decode (mB k) pc = .ok (.ishr, 1)) (kk : Wp md md' k (pc + 1) ls (vi (x >>> (y &&& 31)) :: st) μ nc ns Q) : Wp md md' k pc ls (vi y :: vi x :: st) μ nc ns Q := by
  intro G p l e R s m args below meth c H locs als C h hl
  exact lv_ishr C.1 C.2.1 hd (kk G p l e R s m args below meth c H locs als C h hl)
theorem w_ladd {x y : Int64} (hd : decode (mB k) pc = .ok (.ladd, 1)) (kk : Wp md md' k (pc + 1) ls (vl (x + y) :: st) μ nc ns Q) : Wp md md' k pc ls (vl y :: vl x :: st) μ nc ns Q := by
  intro G p l e R s m args below meth c H locs als C h hl
  exact lv_ladd C.1 C.2.1 hd (kk G p l e R s m args below meth c H locs als C h hl)
theorem w_lsub {x y : Int64} (hd : decode (mB k) pc = .ok (.lsub, 1)) (kk : Wp md md' k (pc + 1) ls (vl (x - y) :: st) μ nc ns Q) : Wp md md' k pc ls (vl y :: vl x :: st) μ nc ns Q := by
  intro G p l e R s m args below meth c H locs als C h hl
  exact lv_lsub C.1 C.2.1 hd (kk G p l e R s m args below meth c H locs als C h hl)
theorem w_lmul {x y : Int64} (hd : decode (mB k) pc = .ok (.lmul, 1)) (kk : Wp md md' k (pc + 1) ls (vl (x * y) :: st) μ nc ns Q) : Wp md md' k pc ls (vl y :: vl x :: st) μ nc ns Q := by
  intro G p l e R s m args below meth c H locs als C h hl
  exact lv_lmul C.1 C.2.1 hd (kk G p l e R s m args below meth c H locs als C h hl)
theorem w_idiv {x y : Int32} (hd : decode (mB k) pc = .ok (.idiv, 1)) (h0 : ¬ y = 0) (kk : Wp md md' k (pc + 1) ls (vi (x / y) :: st) μ nc ns Q) : Wp md md' k pc ls (vi y :: vi x :: st) μ nc ns Q := by
  intro G p l e R s m args below meth c H locs als C h hl
  exact lv_idiv C.1 C.2.1 hd h0 (kk G p l e R s m args below meth c H locs als C h hl)
theorem w_irem {x y : Int32} (hd : decode (mB k) pc = .ok (.irem, 1)) (h0 : ¬ y = 0) (kk : Wp md md' k (pc + 1) ls (vi (x - x / y * y) :: st) μ nc ns Q) : Wp md md' k pc ls (vi y :: vi x :: st) μ nc ns Q := by
  intro G p l e R s m args below meth c H locs als C h hl
  exact lv_irem C.1 C.2.1 hd h0 (kk G p l e R s m args below meth c H locs als C h hl)
theorem w_ldiv {x y : Int64} (hd : decode (mB k) pc = .ok (.ldiv, 1)) (h0 : ¬ y = 0) (kk : Wp md md' k (pc + 1) ls (vl (x / y) :: st) μ nc ns Q) : Wp md md' k pc ls (vl y :: vl x :: st) μ nc ns Q := by
  intro G p l e R s m args below meth c H locs als C h hl
  exact lv_ldiv C.1 C.2.1 hd h0 (kk G p l e R s m args below meth c H locs als C h hl)
theorem w_lrem {x y : Int64} (hd : decode (mB k) pc = .ok (.lrem, 1)) (h0 : ¬ y = 0) (kk : Wp md md' k (pc + 1) ls (vl (x - x / y * y) :: st) μ nc ns Q) : Wp md md' k pc ls (vl y :: vl x :: st) μ nc ns Q := by
  intro G p l e R s m args below meth c H locs als C h hl
  exact lv_lrem C.1 C.2.1 hd h0 (kk G p l e R s m args below meth c H locs als C h hl)
theorem w_iushr {x y : Int32} (hd : decode (mB k) pc = .ok (.iushr, 1)) (kk : Wp md md' k (pc + 1) ls (vi ((x.toUInt32 >>> (y.toUInt32 &&& Int32.toUInt32 31)).toInt32) :: st) μ nc ns Q) : Wp md md' k pc ls (vi y :: vi x :: st) μ nc ns Q := by
  intro G p l e R s m args below meth c H locs als C h hl
  exact lv_iushr C.1 C.2.1 hd rfl (kk G p l e R s m args below meth c H locs als C h hl)
theorem w_lcmp {x y : Int64} (hd : decode (mB k) pc = .ok (.lcmp, 1)) (kk : Wp md md' k (pc + 1) ls (vi (lg_cmp x y) :: st) μ nc ns Q) : Wp md md' k pc ls (vl y :: vl x :: st) μ nc ns Q := by
  intro G p l e R s m args below meth c H locs als C h hl
  exact W.lcmp C.1 C.2.1 hd (kk G p l e R s m args below meth c H locs als C h hl)
theorem w_i2l {x : Int32} (hd : decode (mB k) pc = .ok (.i2l, 1)) (kk : Wp md md' k (pc + 1) ls (vl x.toInt64 :: st) μ nc ns Q) : Wp md md' k pc ls (vi x :: st) μ nc ns Q := by
  intro G p l e R s m args below meth c H locs als C h hl
  exact lv_i2l C.1 C.2.1 hd rfl (kk G p l e R s m args below meth c H locs als C h hl)
theorem w_l2i {x : Int64} (hd : decode (mB k) pc = .ok (.l2i, 1)) (kk : Wp md md' k (pc + 1) ls (vi x.toInt32 :: st) μ nc ns Q) : Wp md md' k pc ls (vl x :: st) μ nc ns Q := by
  intro G p l e R s m args below meth c H locs als C h hl
  exact lv_l2i C.1 C.2.1 hd rfl (kk G p l e R s m args below meth c H locs als C h hl)
theorem w_i2b {x : Int32} (hd : decode (mB k) pc = .ok (.i2b, 1)) (kk : Wp md md' k (pc + 1) ls (vi x.toInt8.toInt32 :: st) μ nc ns Q) : Wp md md' k pc ls (vi x :: st) μ nc ns Q := by
  intro G p l e R s m args below meth c H locs als C h hl
  exact lv_i2b C.1 C.2.1 hd rfl (kk G p l e R s m args below meth c H locs als C h hl)
theorem w_iconst {n : Int} (hd : decode (mB k) pc = .ok (.iconst n, 1)) (kk : Wp md md' k (pc + 1) ls (vi (Int32.ofInt n) :: st) μ nc ns Q) : Wp md md' k pc ls (st) μ nc ns Q := by
  intro G p l e R s m args below meth c H locs als C h hl
  exact lv_iconst C.1 C.2.1 hd rfl (kk G p l e R s m args below meth c H locs als C h hl)
theorem w_bipush {n : Int} (hd : decode (mB k) pc = .ok (.bipush n, 2)) (kk : Wp md md' k (pc + 2) ls (vi (Int8.ofInt n).toInt32 :: st) μ nc ns Q) : Wp md md' k pc ls (st) μ nc ns Q := by
  intro G p l e R s m args below meth c H locs als C h hl
  exact lv_bipush C.1 C.2.1 hd rfl (kk G p l e R s m args below meth c H locs als C h hl)
theorem w_sipush {n : Int} (hd : decode (mB k) pc = .ok (.sipush n, 3)) (kk : Wp md md' k (pc + 3) ls (vi (Int16.ofInt n).toInt32 :: st) μ nc ns Q) : Wp md md' k pc ls (st) μ nc ns Q := by
  intro G p l e R s m args below meth c H locs als C h hl
  exact lv_sipush C.1 C.2.1 hd rfl (kk G p l e R s m args below meth c H locs als C h hl)
theorem w_lconst {n : Fin 2} (hd : decode (mB k) pc = .ok (.lconst n, 1)) (kk : Wp md md' k (pc + 1) ls (vl (Int64.ofNat (n : Nat)) :: st) μ nc ns Q) : Wp md md' k pc ls (st) μ nc ns Q := by
  intro G p l e R s m args below meth c H locs als C h hl
  exact lv_lconst C.1 C.2.1 hd rfl (kk G p l e R s m args below meth c H locs als C h hl)
theorem w_ldc {ix : Nat} {v : Int32} (hd : decode (mB k) pc = .ok (.ldc ix, 2)) (hw : Jvm.Cond.constant (oNm (mOwn k)) ix v ∈ lwG) (kk : Wp md md' k (pc + 2) ls (vi v :: st) μ nc ns Q) : Wp md md' k pc ls (st) μ nc ns Q := by
  intro G p l e R s m args below meth c H locs als C h hl
  exact lv_ldc C.1 C.2.1 C.own (C.hts _ hw) hd (kk G p l e R s m args below meth c H locs als C h hl)
theorem w_ldc_w {ix : Nat} {v : Int32} (hd : decode (mB k) pc = .ok (.ldc_w ix, 3)) (hw : Jvm.Cond.constant (oNm (mOwn k)) ix v ∈ lwG) (kk : Wp md md' k (pc + 3) ls (vi v :: st) μ nc ns Q) : Wp md md' k pc ls (st) μ nc ns Q := by
  intro G p l e R s m args below meth c H locs als C h hl
  exact lv_ldcw C.1 C.2.1 C.own (C.hts _ hw) hd (kk G p l e R s m args below meth c H locs als C h hl)
theorem w_ldc2_w {ix : Nat} {v : Int64} (hd : decode (mB k) pc = .ok (.ldc2_w ix, 3)) (hw : Jvm.Cond.constantLong (oNm (mOwn k)) ix v ∈ lwG) (kk : Wp md md' k (pc + 3) ls (vl v :: st) μ nc ns Q) : Wp md md' k pc ls (st) μ nc ns Q := by
  intro G p l e R s m args below meth c H locs als C h hl
  exact lv_ldc2 C.1 C.2.1 C.own (C.hts _ hw) hd (kk G p l e R s m args below meth c H locs als C h hl)
theorem w_iload_n {i : Fin 4} {x : Int32} (hd : decode (mB k) pc = .ok (.iload_n i, 1)) (hg : lget ls i = some (vi x)) (kk : Wp md md' k (pc + 1) ls (vi x :: st) μ nc ns Q) : Wp md md' k pc ls (st) μ nc ns Q := by
  intro G p l e R s m args below meth c H locs als C h hl
  exact lv_iload_n C.1 C.2.1 hd rfl (lget_ok hl hg) (kk G p l e R s m args below meth c H locs als C h hl)
theorem w_iload {i : Nat} {x : Int32} (hd : decode (mB k) pc = .ok (.iload i, 2)) (hg : lget ls i = some (vi x)) (kk : Wp md md' k (pc + 2) ls (vi x :: st) μ nc ns Q) : Wp md md' k pc ls (st) μ nc ns Q := by
  intro G p l e R s m args below meth c H locs als C h hl
  exact lv_iload C.1 C.2.1 hd (lget_ok hl hg) (kk G p l e R s m args below meth c H locs als C h hl)
theorem w_lload_n {i : Fin 4} {x : Int64} (hd : decode (mB k) pc = .ok (.lload_n i, 1)) (hg : lget ls i = some (vl x)) (kk : Wp md md' k (pc + 1) ls (vl x :: st) μ nc ns Q) : Wp md md' k pc ls (st) μ nc ns Q := by
  intro G p l e R s m args below meth c H locs als C h hl
  exact lv_lload_n C.1 C.2.1 hd rfl (lget_ok hl hg) (kk G p l e R s m args below meth c H locs als C h hl)
theorem w_lload {i : Nat} {x : Int64} (hd : decode (mB k) pc = .ok (.lload i, 2)) (hg : lget ls i = some (vl x)) (kk : Wp md md' k (pc + 2) ls (vl x :: st) μ nc ns Q) : Wp md md' k pc ls (st) μ nc ns Q := by
  intro G p l e R s m args below meth c H locs als C h hl
  exact lv_lload C.1 C.2.1 hd (lget_ok hl hg) (kk G p l e R s m args below meth c H locs als C h hl)
theorem w_aload_n {i : Fin 4} {r j : Nat} (hd : decode (mB k) pc = .ok (.aload_n i, 1)) (hg : lget ls i = some (vr r j)) (kk : Wp md md' k (pc + 1) ls (vr r j :: st) μ nc ns Q) : Wp md md' k pc ls st μ nc ns Q := by
  intro G p l e R s m args below meth c H locs als C h hl
  have h1 := lget_ok hl hg
  have h2 := (kk G p l e R s m args below meth c H locs als C h hl)
  simp only [List.map_cons, cv, vr] at h1 h2
  cases hq : rfv G r j with
  | none => rw [hq] at h1 h2; exact lv_aload_nN C.1 C.2.1 hd rfl h1 h2
  | some a => rw [hq] at h1 h2; exact lv_aload_n C.1 C.2.1 hd rfl h1 h2
theorem w_aload {i : Nat} {r j : Nat} (hd : decode (mB k) pc = .ok (.aload i, 2)) (hg : lget ls i = some (vr r j)) (kk : Wp md md' k (pc + 2) ls (vr r j :: st) μ nc ns Q) : Wp md md' k pc ls st μ nc ns Q := by
  intro G p l e R s m args below meth c H locs als C h hl
  have h1 := lget_ok hl hg
  have h2 := (kk G p l e R s m args below meth c H locs als C h hl)
  simp only [List.map_cons, cv, vr] at h1 h2
  cases hq : rfv G r j with
  | none => rw [hq] at h1 h2; exact lv_aloadN C.1 C.2.1 hd h1 h2
  | some a => rw [hq] at h1 h2; exact lv_aload C.1 C.2.1 hd h1 h2
theorem w_istore_n {i : Fin 4} {x : Int32} (hd : decode (mB k) pc = .ok (.istore_n i, 1)) (hi : (i : Nat) + 0 < mLoc k) (kk : Wp md md' k (pc + 1) (lput1 ls i (vi x)) st μ nc ns Q) : Wp md md' k pc ls (vi x :: st) μ nc ns Q := by
  intro G p l e R s m args below meth c H locs als C h hl
  refine lv_istore_n C.1 C.2.1 hd rfl hl hi rfl (fun als' hl' => ?_)
  exact kk G p l e R s m args below meth c H locs als' C h (lput1_ok (v := vi x) hl')
theorem w_istore {i : Nat} {x : Int32} (hd : decode (mB k) pc = .ok (.istore i, 2)) (hi : (i : Nat) + 0 < mLoc k) (kk : Wp md md' k (pc + 2) (lput1 ls i (vi x)) st μ nc ns Q) : Wp md md' k pc ls (vi x :: st) μ nc ns Q := by
  intro G p l e R s m args below meth c H locs als C h hl
  refine lv_istore C.1 C.2.1 hd hl hi rfl (fun als' hl' => ?_)
  exact kk G p l e R s m args below meth c H locs als' C h (lput1_ok (v := vi x) hl')
theorem w_lstore_n {i : Fin 4} {x : Int64} (hd : decode (mB k) pc = .ok (.lstore_n i, 1)) (hi : (i : Nat) + 1 < mLoc k) (kk : Wp md md' k (pc + 1) (lput2 ls i (vl x)) st μ nc ns Q) : Wp md md' k pc ls (vl x :: st) μ nc ns Q := by
  intro G p l e R s m args below meth c H locs als C h hl
  refine lv_lstore_n C.1 C.2.1 hd rfl hl hi rfl (fun als' hl' => ?_)
  exact kk G p l e R s m args below meth c H locs als' C h (lput2_ok (v := vl x) hl')
theorem w_lstore {i : Nat} {x : Int64} (hd : decode (mB k) pc = .ok (.lstore i, 2)) (hi : (i : Nat) + 1 < mLoc k) (kk : Wp md md' k (pc + 2) (lput2 ls i (vl x)) st μ nc ns Q) : Wp md md' k pc ls (vl x :: st) μ nc ns Q := by
  intro G p l e R s m args below meth c H locs als C h hl
  refine lv_lstore C.1 C.2.1 hd hl hi rfl (fun als' hl' => ?_)
  exact kk G p l e R s m args below meth c H locs als' C h (lput2_ok (v := vl x) hl')
theorem w_astore_n {i : Fin 4} {r j : Nat} (hd : decode (mB k) pc = .ok (.astore_n i, 1)) (hi : (i : Nat) + 0 < mLoc k) (kk : Wp md md' k (pc + 1) (lput1 ls i (vr r j)) st μ nc ns Q) : Wp md md' k pc ls (vr r j :: st) μ nc ns Q := by
  intro G p l e R s m args below meth c H locs als C h hl
  have kk2 : ∀ als', lv_has als' (mLoc k) (((i : Nat), cv G (vr r j)) :: (lsC G ls).filter (fun q => !(q.1 == (i : Nat)) && !(q.1 + 1 == (i : Nat) && q.2.category == 2))) → _ := fun als' hl' => kk G p l e R s m args below meth c H locs als' C h (lput1_ok (v := vr r j) hl')
  simp only [List.map_cons, cv, vr] at kk2 ⊢
  cases hq : rfv G r j with
  | none => rw [hq] at kk2; exact lv_astore_nN C.1 C.2.1 hd rfl hl hi rfl kk2
  | some a => rw [hq] at kk2; exact lv_astore_n C.1 C.2.1 hd rfl hl hi rfl kk2
theorem w_astore {i : Nat} {r j : Nat} (hd : decode (mB k) pc = .ok (.astore i, 2)) (hi : (i : Nat) + 0 < mLoc k) (kk : Wp md md' k (pc + 2) (lput1 ls i (vr r j)) st μ nc ns Q) : Wp md md' k pc ls (vr r j :: st) μ nc ns Q := by
  intro G p l e R s m args below meth c H locs als C h hl
  have kk2 : ∀ als', lv_has als' (mLoc k) (((i : Nat), cv G (vr r j)) :: (lsC G ls).filter (fun q => !(q.1 == (i : Nat)) && !(q.1 + 1 == (i : Nat) && q.2.category == 2))) → _ := fun als' hl' => kk G p l e R s m args below meth c H locs als' C h (lput1_ok (v := vr r j) hl')
  simp only [List.map_cons, cv, vr] at kk2 ⊢
  cases hq : rfv G r j with
  | none => rw [hq] at kk2; exact lv_astoreN C.1 C.2.1 hd hl hi rfl kk2
  | some a => rw [hq] at kk2; exact lv_astore C.1 C.2.1 hd hl hi rfl kk2
theorem w_iinc {i : Nat} {n : Int} {x : Int32} (hd : decode (mB k) pc = .ok (.iinc i n, 3)) (hg : lget ls i = some (vi x)) (hi : i < mLoc k) (kk : Wp md md' k (pc + 3) (lput1 ls i (vi (x + Int32.ofInt n))) st μ nc ns Q) : Wp md md' k pc ls st μ nc ns Q := by
  intro G p l e R s m args below meth c H locs als C h hl
  obtain ⟨q, hq⟩ := lget_at (G := G) hg
  refine lv_iinc C.1 C.2.1 hd hl hq rfl hi rfl (fun als' hl' => ?_)
  exact kk G p l e R s m args below meth c H locs als' C h (lput1_ok (v := vi _) hl')
theorem w_icmp_eq {x y : Int32} {off : Int} {t : Nat} (hd : decode (mB k) pc = .ok (.if_icmp .eq off, 3)) (ht : (pc : Int) + off = (t : Int)) (kt : x = y → Wp md md' k t ls st μ nc ns Q) (kf : ¬ x = y → Wp md md' k (pc + 3) ls st μ nc ns Q) : Wp md md' k pc ls (vi y :: vi x :: st) μ nc ns Q := by
  intro G p l e R s m args below meth c H locs als C h hl
  exact lv_icmp_eq C.1 C.2.1 hd ht (fun z => kt z G p l e R s m args below meth c H locs als C h hl) (fun z => kf z G p l e R s m args below meth c H locs als C h hl)
theorem w_if_eq {x : Int32} {off : Int} {t : Nat} (hd : decode (mB k) pc = .ok (.ifCond .eq off, 3)) (ht : (pc : Int) + off = (t : Int)) (kt : x = 0 → Wp md md' k t ls st μ nc ns Q) (kf : ¬ x = 0 → Wp md md' k (pc + 3) ls st μ nc ns Q) : Wp md md' k pc ls (vi x :: st) μ nc ns Q := by
  intro G p l e R s m args below meth c H locs als C h hl
  exact lv_if_eq C.1 C.2.1 hd ht (fun z => kt z G p l e R s m args below meth c H locs als C h hl) (fun z => kf z G p l e R s m args below meth c H locs als C h hl)
theorem w_icmp_ne {x y : Int32} {off : Int} {t : Nat} (hd : decode (mB k) pc = .ok (.if_icmp .ne off, 3)) (ht : (pc : Int) + off = (t : Int)) (kt : ¬ x = y → Wp md md' k t ls st μ nc ns Q) (kf : x = y → Wp md md' k (pc + 3) ls st μ nc ns Q) : Wp md md' k pc ls (vi y :: vi x :: st) μ nc ns Q := by
  intro G p l e R s m args below meth c H locs als C h hl
  exact lv_icmp_ne C.1 C.2.1 hd ht (fun z => kt z G p l e R s m args below meth c H locs als C h hl) (fun z => kf z G p l e R s m args below meth c H locs als C h hl)
theorem w_if_ne {x : Int32} {off : Int} {t : Nat} (hd : decode (mB k) pc = .ok (.ifCond .ne off, 3)) (ht : (pc : Int) + off = (t : Int)) (kt : ¬ x = 0 → Wp md md' k t ls st μ nc ns Q) (kf : x = 0 → Wp md md' k (pc + 3) ls st μ nc ns Q) : Wp md md' k pc ls (vi x :: st) μ nc ns Q := by
  intro G p l e R s m args below meth c H locs als C h hl
  exact lv_if_ne C.1 C.2.1 hd ht (fun z => kt z G p l e R s m args below meth c H locs als C h hl) (fun z => kf z G p l e R s m args below meth c H locs als C h hl)
theorem w_icmp_lt {x y : Int32} {off : Int} {t : Nat} (hd : decode (mB k) pc = .ok (.if_icmp .lt off, 3)) (ht : (pc : Int) + off = (t : Int)) (kt : x < y → Wp md md' k t ls st μ nc ns Q) (kf : ¬ x < y → Wp md md' k (pc + 3) ls st μ nc ns Q) : Wp md md' k pc ls (vi y :: vi x :: st) μ nc ns Q := by
  intro G p l e R s m args below meth c H locs als C h hl
  exact lv_icmp_lt C.1 C.2.1 hd ht (fun z => kt z G p l e R s m args below meth c H locs als C h hl) (fun z => kf z G p l e R s m args below meth c H locs als C h hl)
theorem w_if_lt {x : Int32} {off : Int} {t : Nat} (hd : decode (mB k) pc = .ok (.ifCond .lt off, 3)) (ht : (pc : Int) + off = (t : Int)) (kt : x < 0 → Wp md md' k t ls st μ nc ns Q) (kf : ¬ x < 0 → Wp md md' k (pc + 3) ls st μ nc ns Q) : Wp md md' k pc ls (vi x :: st) μ nc ns Q := by
  intro G p l e R s m args below meth c H locs als C h hl
  exact lv_if_lt C.1 C.2.1 hd ht (fun z => kt z G p l e R s m args below meth c H locs als C h hl) (fun z => kf z G p l e R s m args below meth c H locs als C h hl)
theorem w_icmp_ge {x y : Int32} {off : Int} {t : Nat} (hd : decode (mB k) pc = .ok (.if_icmp .ge off, 3)) (ht : (pc : Int) + off = (t : Int)) (kt : y ≤ x → Wp md md' k t ls st μ nc ns Q) (kf : ¬ y ≤ x → Wp md md' k (pc + 3) ls st μ nc ns Q) : Wp md md' k pc ls (vi y :: vi x :: st) μ nc ns Q := by
  intro G p l e R s m args below meth c H locs als C h hl
  exact lv_icmp_ge C.1 C.2.1 hd ht (fun z => kt z G p l e R s m args below meth c H locs als C h hl) (fun z => kf z G p l e R s m args below meth c H locs als C h hl)
theorem w_if_ge {x : Int32} {off : Int} {t : Nat} (hd : decode (mB k) pc = .ok (.ifCond .ge off, 3)) (ht : (pc : Int) + off = (t : Int)) (kt : 0 ≤ x → Wp md md' k t ls st μ nc ns Q) (kf : ¬ 0 ≤ x → Wp md md' k (pc + 3) ls st μ nc ns Q) : Wp md md' k pc ls (vi x :: st) μ nc ns Q := by
  intro G p l e R s m args below meth c H locs als C h hl
  exact lv_if_ge C.1 C.2.1 hd ht (fun z => kt z G p l e R s m args below meth c H locs als C h hl) (fun z => kf z G p l e R s m args below meth c H locs als C h hl)
theorem w_icmp_gt {x y : Int32} {off : Int} {t : Nat} (hd : decode (mB k) pc = .ok (.if_icmp .gt off, 3)) (ht : (pc : Int) + off = (t : Int)) (kt : y < x → Wp md md' k t ls st μ nc ns Q) (kf : ¬ y < x → Wp md md' k (pc + 3) ls st μ nc ns Q) : Wp md md' k pc ls (vi y :: vi x :: st) μ nc ns Q := by
  intro G p l e R s m args below meth c H locs als C h hl
  exact lv_icmp_gt C.1 C.2.1 hd ht (fun z => kt z G p l e R s m args below meth c H locs als C h hl) (fun z => kf z G p l e R s m args below meth c H locs als C h hl)
theorem w_if_gt {x : Int32} {off : Int} {t : Nat} (hd : decode (mB k) pc = .ok (.ifCond .gt off, 3)) (ht : (pc : Int) + off = (t : Int)) (kt : 0 < x → Wp md md' k t ls st μ nc ns Q) (kf : ¬ 0 < x → Wp md md' k (pc + 3) ls st μ nc ns Q) : Wp md md' k pc ls (vi x :: st) μ nc ns Q := by
  intro G p l e R s m args below meth c H locs als C h hl
  exact lv_if_gt C.1 C.2.1 hd ht (fun z => kt z G p l e R s m args below meth c H locs als C h hl) (fun z => kf z G p l e R s m args below meth c H locs als C h hl)
theorem w_icmp_le {x y : Int32} {off : Int} {t : Nat} (hd : decode (mB k) pc = .ok (.if_icmp .le off, 3)) (ht : (pc : Int) + off = (t : Int)) (kt : x ≤ y → Wp md md' k t ls st μ nc ns Q) (kf : ¬ x ≤ y → Wp md md' k (pc + 3) ls st μ nc ns Q) : Wp md md' k pc ls (vi y :: vi x :: st) μ nc ns Q := by
  intro G p l e R s m args below meth c H locs als C h hl
  exact lv_icmp_le C.1 C.2.1 hd ht (fun z => kt z G p l e R s m args below meth c H locs als C h hl) (fun z => kf z G p l e R s m args below meth c H locs als C h hl)
theorem w_if_le {x : Int32} {off : Int} {t : Nat} (hd : decode (mB k) pc = .ok (.ifCond .le off, 3)) (ht : (pc : Int) + off = (t : Int)) (kt : x ≤ 0 → Wp md md' k t ls st μ nc ns Q) (kf : ¬ x ≤ 0 → Wp md md' k (pc + 3) ls st μ nc ns Q) : Wp md md' k pc ls (vi x :: st) μ nc ns Q := by
  intro G p l e R s m args below meth c H locs als C h hl
  exact lv_if_le C.1 C.2.1 hd ht (fun z => kt z G p l e R s m args below meth c H locs als C h hl) (fun z => kf z G p l e R s m args below meth c H locs als C h hl)
theorem w_goto {off : Int} {t : Nat} (hd : decode (mB k) pc = .ok (.goto off, 3)) (ht : (pc : Int) + off = (t : Int)) (kk : Wp md md' k t ls st μ nc ns Q) : Wp md md' k pc ls st μ nc ns Q := by
  intro G p l e R s m args below meth c H locs als C h hl
  exact lv_goto C.1 C.2.1 hd ht (kk G p l e R s m args below meth c H locs als C h hl)
end Rules


/-! which places of the memory are written: words -/
abbrev At : Type := Nat × Option Nat × Option Nat
def inA (a : At) (r i k : Nat) : Bool := a.1 == r && ((match a.2.1 with | none => true | some j => j == i) && (match a.2.2 with | none => true | some s => s == k))
def inT (T : List At) (r i k : Nat) : Bool := T.any (fun a => inA a r i k)
/-- nothing but what T tells differs -/
def Fr (T : List At) (μ μ' : Mem) : Prop := (∀ r i k, inT T r i k = false → mI μ' r i k = mI μ r i k ∧ mL μ' r i k = mL μ r i k ∧ mR μ' r i k = mR μ r i k) ∧ mC μ' = mC μ
def Sb (L T : List At) : Prop := ∀ r i k, inT L r i k = true → inT T r i k = true
def Sa (a : At) (T : List At) : Prop := ∀ r i k, inA a r i k = true → inT T r i k = true
theorem inA_nn {r i k : Nat} : inA (r, none, none) r i k = true := by simp [inA]
theorem inA_en {r i k : Nat} : inA (r, some i, none) r i k = true := by simp [inA]
theorem inA_ns {r i k : Nat} : inA (r, none, some k) r i k = true := by simp [inA]
theorem inA_es {r i k : Nat} : inA (r, some i, some k) r i k = true := by simp [inA]
theorem inA_qn {r i j k : Nat} (e : i = j) : inA (r, some j, none) r i k = true := by simp [inA, e]
theorem inA_qs {r i j k : Nat} (e : i = j) : inA (r, some j, some k) r i k = true := by simp [inA, e]
theorem iT {T : List At} {a : At} (n : Nat) (h : T[n]? = some a) {r i k : Nat} (ha : inA a r i k = true) : inT T r i k = true := List.any_eq_true.mpr ⟨a, List.mem_of_getElem? h, ha⟩
theorem sa_m {T : List At} {a : At} (n : Nat) (h : T[n]? = some a) : Sa a T := fun _ _ _ ha => iT n h ha
theorem sa_r {T : List At} {r j : Nat} {s : Option Nat} (n : Nat) (h : T[n]? = some (r, none, s)) : Sa (r, some j, s) T := fun r' i' k' ha => by
  refine iT n h ?_
  unfold inA at ha ⊢
  simp only [Bool.and_eq_true] at ha ⊢
  exact ⟨ha.1, trivial, ha.2.2⟩
theorem sa_q {T : List At} {r i j : Nat} {s : Option Nat} (n : Nat) (h : T[n]? = some (r, some j, s)) (e : i = j) : Sa (r, some i, s) T := by subst e; exact sa_m n h
theorem sbn {T : List At} : Sb [] T := fun _ _ _ h => by cases h
theorem sbc {a : At} {L T : List At} (h : Sa a T) (t : Sb L T) : Sb (a :: L) T := fun r i k z => by
  unfold inT at z
  rw [List.any_cons, Bool.or_eq_true] at z
  exact z.elim (h r i k) (t r i k)
theorem sbt {L T U : List At} (h : Sb L T) (g : Sb T U) : Sb L U := fun r i k z => g _ _ _ (h _ _ _ z)
theorem Fr.rf (T : List At) (μ : Mem) : Fr T μ μ := ⟨fun _ _ _ _ => ⟨rfl, rfl, rfl⟩, rfl⟩
theorem Fr.tr {T : List At} {a b c : Mem} (g : Fr T b c) (h : Fr T a b) : Fr T a c := ⟨fun r i k z => ⟨(g.1 r i k z).1.trans (h.1 r i k z).1, (g.1 r i k z).2.1.trans (h.1 r i k z).2.1, (g.1 r i k z).2.2.trans (h.1 r i k z).2.2⟩, g.2.trans h.2⟩
theorem Fr.mono {T U : List At} {a b : Mem} (h : Fr T a b) (s : Sb T U) : Fr U a b := ⟨fun r i k z => h.1 r i k (by
  cases e : inT T r i k
  · rfl
  · rw [s r i k e] at z; cases z), h.2⟩
theorem Fr.C {T : List At} {a b : Mem} (h : Fr T a b) : mC b = mC a := h.2
theorem Fr.I {T : List At} {a b : Mem} (h : Fr T a b) {r i k : Nat} (z : inT T r i k = false) : mI b r i k = mI a r i k := (h.1 r i k z).1
theorem Fr.L {T : List At} {a b : Mem} (h : Fr T a b) {r i k : Nat} (z : inT T r i k = false) : mL b r i k = mL a r i k := (h.1 r i k z).2.1
theorem Fr.R {T : List At} {a b : Mem} (h : Fr T a b) {r i k : Nat} (z : inT T r i k = false) : mR b r i k = mR a r i k := (h.1 r i k z).2.2
theorem Fr.ip {T : List At} {a b : Mem} (h : Fr T a b) (z : inT T 12 0 3 = false) {ip : Nat} (e : mR a 12 0 3 = ip) : mR b 12 0 3 = ip := (h.R z).trans e
theorem mI_stI (μ : Mem) (r i k : Nat) (v : Int32) (r' i' k' : Nat) : mI (stI μ r i k v) r' i' k' = if r' = r ∧ i' = i ∧ k' = k then v else mI μ r' i' k' := by
  unfold stI
  rw [mI_rowI]
  by_cases h : r' = r ∧ i' = i
  · rw [if_pos h]
    unfold up
    by_cases e : k' = k
    · rw [if_pos e, if_pos ⟨h.1, h.2, e⟩]
    · rw [if_neg e, if_neg (fun z => e z.2.2), h.1, h.2]
  · rw [if_neg h, if_neg (fun z => h ⟨z.1, z.2.1⟩)]
theorem mL_stL (μ : Mem) (r i k : Nat) (v : Int64) (r' i' k' : Nat) : mL (stL μ r i k v) r' i' k' = if r' = r ∧ i' = i ∧ k' = k then v else mL μ r' i' k' := by
  unfold stL
  rw [mL_rowL]
  by_cases h : r' = r ∧ i' = i
  · rw [if_pos h]
    unfold up
    by_cases e : k' = k
    · rw [if_pos e, if_pos ⟨h.1, h.2, e⟩]
    · rw [if_neg e, if_neg (fun z => e z.2.2), h.1, h.2]
  · rw [if_neg h, if_neg (fun z => h ⟨z.1, z.2.1⟩)]
theorem mR_stR (μ : Mem) (r i k : Nat) (v : Nat) (r' i' k' : Nat) : mR (stR μ r i k v) r' i' k' = if r' = r ∧ i' = i ∧ k' = k then v else mR μ r' i' k' := by
  unfold stR
  rw [mR_rowR]
  by_cases h : r' = r ∧ i' = i
  · rw [if_pos h]
    unfold up
    by_cases e : k' = k
    · rw [if_pos e, if_pos ⟨h.1, h.2, e⟩]
    · rw [if_neg e, if_neg (fun z => e z.2.2), h.1, h.2]
  · rw [if_neg h, if_neg (fun z => h ⟨z.1, z.2.1⟩)]
theorem mI_stL (μ : Mem) (r i k : Nat) (v : Int64) (r' i' : Nat) : mI (stL μ r i k v) r' i' = mI μ r' i' := rfl
theorem mI_stR (μ : Mem) (r i k v : Nat) (r' i' : Nat) : mI (stR μ r i k v) r' i' = mI μ r' i' := rfl
theorem mL_stI (μ : Mem) (r i k : Nat) (v : Int32) (r' i' : Nat) : mL (stI μ r i k v) r' i' = mL μ r' i' := rfl
theorem mL_stR (μ : Mem) (r i k v : Nat) (r' i' : Nat) : mL (stR μ r i k v) r' i' = mL μ r' i' := rfl
theorem mR_stI (μ : Mem) (r i k : Nat) (v : Int32) (r' i' : Nat) : mR (stI μ r i k v) r' i' = mR μ r' i' := rfl
theorem mR_stL (μ : Mem) (r i k : Nat) (v : Int64) (r' i' : Nat) : mR (stL μ r i k v) r' i' = mR μ r' i' := rfl
theorem mI_cpI (μ : Mem) (r i r2 i2 sp dp n : Nat) (r' i' k' : Nat) : mI (cpI μ r i r2 i2 sp dp n) r' i' k' = if r' = r ∧ i' = i then (if dp ≤ k' ∧ k' < dp + n then mI μ r2 i2 (sp + (k' - dp)) else mI μ r i k') else mI μ r' i' k' := by
  unfold cpI
  rw [mI_rowI]
  by_cases h : r' = r ∧ i' = i
  · rw [if_pos h, if_pos h]
    by_cases e : dp ≤ k' ∧ k' < dp + n
    · rw [if_pos e, pk_cpy_in e.1 e.2]
    · rw [if_neg e, pk_cpy_out (by omega)]
  · rw [if_neg h, if_neg h]
theorem mL_cpI (μ : Mem) (r i r2 i2 sp dp n : Nat) (r' i' : Nat) : mL (cpI μ r i r2 i2 sp dp n) r' i' = mL μ r' i' := rfl
theorem mR_cpI (μ : Mem) (r i r2 i2 sp dp n : Nat) (r' i' : Nat) : mR (cpI μ r i r2 i2 sp dp n) r' i' = mR μ r' i' := rfl
theorem Fr.ne {T : List At} {r i k r' i' k' : Nat} (hm : inT T r i k = true) (z : inT T r' i' k' = false) : ¬ (r' = r ∧ i' = i ∧ k' = k) := fun h => by
  obtain ⟨rfl, rfl, rfl⟩ := h
  rw [hm] at z; cases z
theorem Fr.stI {T : List At} {a b : Mem} {r i k : Nat} {v : Int32} (h : Fr T a b) (hm : inT T r i k = true) : Fr T a (stI b r i k v) := ⟨fun r' i' k' z => ⟨by rw [mI_stI, if_neg (Fr.ne hm z)]; exact (h.1 r' i' k' z).1, (h.1 r' i' k' z).2.1, (h.1 r' i' k' z).2.2⟩, h.2⟩
theorem Fr.stL {T : List At} {a b : Mem} {r i k : Nat} {v : Int64} (h : Fr T a b) (hm : inT T r i k = true) : Fr T a (stL b r i k v) := ⟨fun r' i' k' z => ⟨(h.1 r' i' k' z).1, by rw [mL_stL, if_neg (Fr.ne hm z)]; exact (h.1 r' i' k' z).2.1, (h.1 r' i' k' z).2.2⟩, h.2⟩
theorem Fr.stR {T : List At} {a b : Mem} {r i k : Nat} {v : Nat} (h : Fr T a b) (hm : inT T r i k = true) : Fr T a (stR b r i k v) := ⟨fun r' i' k' z => ⟨(h.1 r' i' k' z).1, (h.1 r' i' k' z).2.1, by rw [mR_stR, if_neg (Fr.ne hm z)]; exact (h.1 r' i' k' z).2.2⟩, h.2⟩
theorem Fr.cpI {T : List At} {a b : Mem} {r i r2 i2 sp dp n : Nat} (h : Fr T a b) (hm : ∀ k, inT T r i k = true) : Fr T a (cpI b r i r2 i2 sp dp n) := ⟨fun r' i' k' z => ⟨by
  rw [mI_cpI, if_neg (fun e => Fr.ne (hm k') z ⟨e.1, e.2, rfl⟩)]; exact (h.1 r' i' k' z).1, (h.1 r' i' k' z).2.1, (h.1 r' i' k' z).2.2⟩, h.2⟩
theorem fi {β : Type} {c : Prop} {d : Decidable c} {A B : Option β} {z : β} {P : Prop} (h : @ite _ c d A B = some z) (a : A = some z → P) (b : B = some z → P) : P := by
  by_cases e : c
  · rw [if_pos e] at h; exact a h
  · rw [if_neg e] at h; exact b h
theorem fgv {β : Type} {c : Prop} {d : Decidable c} {A : Option β} {z : β} (h : @ite _ c d A none = some z) : A = some z := by
  by_cases e : c
  · rw [if_pos e] at h; exact h
  · rw [if_neg e] at h; cases h
theorem fo {α β : Type} {o : Option (α × Mem)} {f : α → Mem → Option β} {z : β} {P : Prop} (h : ob o f = some z) (k : ∀ x μ2, o = some (x, μ2) → f x μ2 = some z → P) : P := by
  match o, h, k with
  | some (x, μ2), h, k => exact k x μ2 rfl h
theorem fr_ret {α : Type} {T : List At} {a b : Mem} {x : α} {z : α × Mem} (h : some (x, b) = some z) (fr : Fr T a b) : Fr T a z.2 := by cases h; exact fr
theorem fixN_ind {F : Type} {bot : F} {b : F → F} (P : F → Prop) (h0 : P bot) (hs : ∀ f, P f → P (b f)) : ∀ n, P (fixN bot b n)
  | 0 => h0
  | n + 1 => hs _ (fixN_ind P h0 hs n)
theorem mb_o {β : Type} {M : Mem} {f : Mem → Option β} {z : β} (h : mb M f = some z) : f M = some z := h
theorem vb_o {α β : Type} {x : α} {f : α → Option β} {z : β} (h : vb x f = some z) : f x = some z := h
def T_st_become (i0 : Nat) (i1 : Nat) : List At := [(27, some i0, none), (28, some i0, none), (29, some i0, none), (30, some i0, none), (26, some i0, some 4), (26, some i0, some 5), (26, some i0, some 6)]
theorem f_st_become {μ : Mem} {i0 : Nat} {i1 : Nat}  {z : Unit × Mem} (h : st_become i0 i1 μ = some z) : Fr (T_st_become i0 i1) μ z.2 := by
  unfold st_become at h
  exact (let μ1 : Mem := cpI (cpI μ 27 i0 27 i1 0 0 12) 28 i0 28 i1 0 0 6; have fr2 : Fr (T_st_become i0 i1) μ μ1 := Fr.cpI (Fr.cpI (Fr.rf (T_st_become i0 i1) μ) (fun _ => (iT 0 rfl inA_en))) (fun _ => (iT 1 rfl inA_en)); have h3 := mb_o h; (let μ4 : Mem := cpI (cpI μ1 29 i0 29 i1 0 0 6) 30 i0 30 i1 0 0 6; have fr5 : Fr (T_st_become i0 i1) μ μ4 := Fr.cpI (Fr.cpI fr2 (fun _ => (iT 2 rfl inA_en))) (fun _ => (iT 3 rfl inA_en)); have h6 := mb_o h3; (let μ7 : Mem := stI (stI μ4 26 i0 4 (mI μ4 26 i1 4)) 26 i0 5 (mI (stI μ4 26 i0 4 (mI μ4 26 i1 4)) 26 i1 5); have fr8 : Fr (T_st_become i0 i1) μ μ7 := Fr.stI (Fr.stI fr5 (iT 4 rfl inA_es)) (iT 5 rfl inA_es); have h9 := mb_o h6; fr_ret h9 (Fr.stI fr8 (iT 6 rfl inA_es)))))
def T_j_min : List At := []
theorem f_j_min {μ : Mem} {x0 : Int32} {x1 : Int32}  {z : Int32 × Mem} (h : j_min x0 x1 μ = some z) : Fr (T_j_min) μ z.2 := by
  unfold j_min at h
  exact fi h (fun h2 => fr_ret h2 (Fr.rf (T_j_min) μ)) (fun h3 => fr_ret h3 (Fr.rf (T_j_min) μ))
def T_pa_push (i1 : Nat) : List At := [(44, none, some 1), (44, none, some 2), (27, none, none), (28, none, none), (29, none, none), (30, none, none), (26, none, some 4), (26, none, some 5), (26, none, some 6)]
theorem f_pa_push {μ : Mem} {i1 : Nat}  {z : Unit × Mem} (h : pa_push i1 μ = some z) : Fr (T_pa_push i1) μ z.2 := by
  unfold pa_push at h
  exact fi h (fun h2 => (have h5 := fgv h2; fo h5 (fun _ μ6 e17 h8 => have fr10 : Fr (T_pa_push i1) μ μ6 := Fr.tr (Fr.mono (f_st_become  e17) (sbc (sa_r 2 rfl) (sbc (sa_r 3 rfl) (sbc (sa_r 4 rfl) (sbc (sa_r 5 rfl) (sbc (sa_r 6 rfl) (sbc (sa_r 7 rfl) (sbc (sa_r 8 rfl) sbn)))))))) (Fr.stI (Fr.rf (T_pa_push i1) μ) (iT 0 rfl inA_ns)); fo h8 (fun r14 μ11 e16 h13 => have fr15 : Fr (T_pa_push i1) μ μ11 := Fr.tr (Fr.mono (f_j_min  e16) sbn) fr10; fr_ret h13 (Fr.stI fr15 (iT 1 rfl inA_ns)))))) (fun h3 => (have h19 := fgv h3; fo h19 (fun _ μ20 e31 h22 => have fr24 : Fr (T_pa_push i1) μ μ20 := Fr.tr (Fr.mono (f_st_become  e31) (sbc (sa_r 2 rfl) (sbc (sa_r 3 rfl) (sbc (sa_r 4 rfl) (sbc (sa_r 5 rfl) (sbc (sa_r 6 rfl) (sbc (sa_r 7 rfl) (sbc (sa_r 8 rfl) sbn)))))))) (Fr.stI (Fr.rf (T_pa_push i1) μ) (iT 0 rfl inA_ns)); fo h22 (fun r28 μ25 e30 h27 => have fr29 : Fr (T_pa_push i1) μ μ25 := Fr.tr (Fr.mono (f_j_min  e30) sbn) fr24; fr_ret h27 (Fr.stI fr29 (iT 1 rfl inA_ns))))))
def T_pa_pop (i1 : Nat) : List At := [(44, none, some 1), (44, none, some 2), (27, some i1, none), (28, some i1, none), (29, some i1, none), (30, some i1, none), (26, some i1, some 4), (26, some i1, some 5), (26, some i1, some 6)]
theorem f_pa_pop {μ : Mem} {i1 : Nat}  {z : Int32 × Mem} (h : pa_pop i1 μ = some z) : Fr (T_pa_pop i1) μ z.2 := by
  unfold pa_pop at h
  exact fi h (fun h3 => fr_ret h3 (Fr.rf (T_pa_pop i1) μ)) (fun h2 => (have h5 := fgv h2; fo h5 (fun _ μ6 e20 h8 => have fr10 : Fr (T_pa_pop i1) μ μ6 := Fr.tr (Fr.mono (f_st_become  e20) (sbc (sa_m 2 rfl) (sbc (sa_m 3 rfl) (sbc (sa_m 4 rfl) (sbc (sa_m 5 rfl) (sbc (sa_m 6 rfl) (sbc (sa_m 7 rfl) (sbc (sa_m 8 rfl) sbn)))))))) (Fr.rf (T_pa_pop i1) μ); fi h8 (fun h12 => (let μ14 : Mem := stI (stI μ6 44 0 1 (nI 39)) 44 0 2 ((mI (stI μ6 44 0 1 (nI 39)) 44 0 2) - (nI 1)); have fr15 : Fr (T_pa_pop i1) μ μ14 := Fr.stI (Fr.stI fr10 (iT 0 rfl inA_ns)) (iT 1 rfl inA_ns); have h16 := mb_o h12; fr_ret h16 fr15)) (fun h13 => (let μ17 : Mem := stI (stI μ6 44 0 1 ((mI μ6 44 0 1) - (nI 1))) 44 0 2 ((mI (stI μ6 44 0 1 ((mI μ6 44 0 1) - (nI 1))) 44 0 2) - (nI 1)); have fr18 : Fr (T_pa_pop i1) μ μ17 := Fr.stI (Fr.stI fr10 (iT 0 rfl inA_ns)) (iT 1 rfl inA_ns); have h19 := mb_o h13; fr_ret h19 fr18)))))
def T_j_fillI_r27_L5 (i0 : Nat) : List At := [(27, some i0, none)]
theorem f_j_fillI_r27_L5 {μ0 : Mem} {T : List At} {i0 : Nat} {x1 : Int32} {x3 : Int32}   {x2 : Int32} {μ : Mem} {z : Unit × Mem} (h : j_fillI_r27_L5 i0 x1 x3 x2 μ = some z) (fr : Fr T μ0 μ) (hT : Sb (T_j_fillI_r27_L5 i0) T)   : Fr T μ0 z.2 := by
  have key : ∀ (n : Nat), (∀ (x2 : Int32) (μ : Mem) z, fixN (fun _ _ => none) (j_fillI_r27_B5 i0 x1 x3) n x2 μ = some z → Fr T μ0 μ → Fr T μ0 z.2) := by
    intro n
    refine fixN_ind (fun (f : Int32 → Mem → Option (Unit × Mem)) => ∀ (x2 : Int32) (μ : Mem) z, f x2 μ = some z → Fr T μ0 μ → Fr T μ0 z.2) ?_ ?_ n
    · intro x2 μ z h; cases h
    · intro self hself x2 μ z h fr
      unfold j_fillI_r27_B5 at h
      exact fi h (fun h2 => fr_ret h2 fr) (fun h3 => (have h5 := fgv h3; hself _ _ _ h5 (Fr.stI fr (hT _ _ _ (iT 0 rfl inA_en)))))
  exact key 60000 _ _ _ h fr
def T_j_fillI_r27 (i0 : Nat) : List At := [(27, some i0, none)]
theorem f_j_fillI_r27 {μ : Mem} {i0 : Nat} {x1 : Int32}  {z : Unit × Mem} (h : j_fillI_r27 i0 x1 μ = some z) : Fr (T_j_fillI_r27 i0) μ z.2 := by
  unfold j_fillI_r27 at h
  exact f_j_fillI_r27_L5 h (Fr.rf (T_j_fillI_r27 i0) μ) (sbc (sa_m 0 rfl) sbn)  
def T_j_fillI_r28_L5 (i0 : Nat) : List At := [(28, some i0, none)]
theorem f_j_fillI_r28_L5 {μ0 : Mem} {T : List At} {i0 : Nat} {x1 : Int32} {x3 : Int32}   {x2 : Int32} {μ : Mem} {z : Unit × Mem} (h : j_fillI_r28_L5 i0 x1 x3 x2 μ = some z) (fr : Fr T μ0 μ) (hT : Sb (T_j_fillI_r28_L5 i0) T)   : Fr T μ0 z.2 := by
  have key : ∀ (n : Nat), (∀ (x2 : Int32) (μ : Mem) z, fixN (fun _ _ => none) (j_fillI_r28_B5 i0 x1 x3) n x2 μ = some z → Fr T μ0 μ → Fr T μ0 z.2) := by
    intro n
    refine fixN_ind (fun (f : Int32 → Mem → Option (Unit × Mem)) => ∀ (x2 : Int32) (μ : Mem) z, f x2 μ = some z → Fr T μ0 μ → Fr T μ0 z.2) ?_ ?_ n
    · intro x2 μ z h; cases h
    · intro self hself x2 μ z h fr
      unfold j_fillI_r28_B5 at h
      exact fi h (fun h2 => fr_ret h2 fr) (fun h3 => (have h5 := fgv h3; hself _ _ _ h5 (Fr.stI fr (hT _ _ _ (iT 0 rfl inA_en)))))
  exact key 60000 _ _ _ h fr
def T_j_fillI_r28 (i0 : Nat) : List At := [(28, some i0, none)]
theorem f_j_fillI_r28 {μ : Mem} {i0 : Nat} {x1 : Int32}  {z : Unit × Mem} (h : j_fillI_r28 i0 x1 μ = some z) : Fr (T_j_fillI_r28 i0) μ z.2 := by
  unfold j_fillI_r28 at h
  exact f_j_fillI_r28_L5 h (Fr.rf (T_j_fillI_r28 i0) μ) (sbc (sa_m 0 rfl) sbn)  
def T_j_fillI_r29_L5 (i0 : Nat) : List At := [(29, some i0, none)]
theorem f_j_fillI_r29_L5 {μ0 : Mem} {T : List At} {i0 : Nat} {x1 : Int32} {x3 : Int32}   {x2 : Int32} {μ : Mem} {z : Unit × Mem} (h : j_fillI_r29_L5 i0 x1 x3 x2 μ = some z) (fr : Fr T μ0 μ) (hT : Sb (T_j_fillI_r29_L5 i0) T)   : Fr T μ0 z.2 := by
  have key : ∀ (n : Nat), (∀ (x2 : Int32) (μ : Mem) z, fixN (fun _ _ => none) (j_fillI_r29_B5 i0 x1 x3) n x2 μ = some z → Fr T μ0 μ → Fr T μ0 z.2) := by
    intro n
    refine fixN_ind (fun (f : Int32 → Mem → Option (Unit × Mem)) => ∀ (x2 : Int32) (μ : Mem) z, f x2 μ = some z → Fr T μ0 μ → Fr T μ0 z.2) ?_ ?_ n
    · intro x2 μ z h; cases h
    · intro self hself x2 μ z h fr
      unfold j_fillI_r29_B5 at h
      exact fi h (fun h2 => fr_ret h2 fr) (fun h3 => (have h5 := fgv h3; hself _ _ _ h5 (Fr.stI fr (hT _ _ _ (iT 0 rfl inA_en)))))
  exact key 60000 _ _ _ h fr
def T_j_fillI_r29 (i0 : Nat) : List At := [(29, some i0, none)]
theorem f_j_fillI_r29 {μ : Mem} {i0 : Nat} {x1 : Int32}  {z : Unit × Mem} (h : j_fillI_r29 i0 x1 μ = some z) : Fr (T_j_fillI_r29 i0) μ z.2 := by
  unfold j_fillI_r29 at h
  exact f_j_fillI_r29_L5 h (Fr.rf (T_j_fillI_r29 i0) μ) (sbc (sa_m 0 rfl) sbn)  
def T_j_fillI_r30_L5 (i0 : Nat) : List At := [(30, some i0, none)]
theorem f_j_fillI_r30_L5 {μ0 : Mem} {T : List At} {i0 : Nat} {x1 : Int32} {x3 : Int32}   {x2 : Int32} {μ : Mem} {z : Unit × Mem} (h : j_fillI_r30_L5 i0 x1 x3 x2 μ = some z) (fr : Fr T μ0 μ) (hT : Sb (T_j_fillI_r30_L5 i0) T)   : Fr T μ0 z.2 := by
  have key : ∀ (n : Nat), (∀ (x2 : Int32) (μ : Mem) z, fixN (fun _ _ => none) (j_fillI_r30_B5 i0 x1 x3) n x2 μ = some z → Fr T μ0 μ → Fr T μ0 z.2) := by
    intro n
    refine fixN_ind (fun (f : Int32 → Mem → Option (Unit × Mem)) => ∀ (x2 : Int32) (μ : Mem) z, f x2 μ = some z → Fr T μ0 μ → Fr T μ0 z.2) ?_ ?_ n
    · intro x2 μ z h; cases h
    · intro self hself x2 μ z h fr
      unfold j_fillI_r30_B5 at h
      exact fi h (fun h2 => fr_ret h2 fr) (fun h3 => (have h5 := fgv h3; hself _ _ _ h5 (Fr.stI fr (hT _ _ _ (iT 0 rfl inA_en)))))
  exact key 60000 _ _ _ h fr
def T_j_fillI_r30 (i0 : Nat) : List At := [(30, some i0, none)]
theorem f_j_fillI_r30 {μ : Mem} {i0 : Nat} {x1 : Int32}  {z : Unit × Mem} (h : j_fillI_r30 i0 x1 μ = some z) : Fr (T_j_fillI_r30 i0) μ z.2 := by
  unfold j_fillI_r30 at h
  exact f_j_fillI_r30_L5 h (Fr.rf (T_j_fillI_r30 i0) μ) (sbc (sa_m 0 rfl) sbn)  
def T_st_empty (i0 : Nat) : List At := [(26, some i0, some 4), (26, some i0, some 5), (26, some i0, some 6), (30, some i0, none), (29, some i0, none), (28, some i0, none), (27, some i0, none)]
theorem f_st_empty {μ : Mem} {i0 : Nat}  {z : Unit × Mem} (h : st_empty i0 μ = some z) : Fr (T_st_empty i0) μ z.2 := by
  unfold st_empty at h
  exact fo h (fun _ μ1 e27 h3 => have fr5 : Fr (T_st_empty i0) μ μ1 := Fr.tr (Fr.mono (f_j_fillI_r27  e27) (sbc (sa_m 6 rfl) sbn)) (Fr.rf (T_st_empty i0) μ); fo h3 (fun _ μ6 e26 h8 => have fr10 : Fr (T_st_empty i0) μ μ6 := Fr.tr (Fr.mono (f_j_fillI_r28  e26) (sbc (sa_m 5 rfl) sbn)) fr5; fo h8 (fun _ μ11 e25 h13 => have fr15 : Fr (T_st_empty i0) μ μ11 := Fr.tr (Fr.mono (f_j_fillI_r29  e25) (sbc (sa_m 4 rfl) sbn)) fr10; fo h13 (fun _ μ16 e24 h18 => have fr20 : Fr (T_st_empty i0) μ μ16 := Fr.tr (Fr.mono (f_j_fillI_r30  e24) (sbc (sa_m 3 rfl) sbn)) fr15; (let μ21 : Mem := stI (stI μ16 26 i0 4 (nI 8)) 26 i0 5 (nI 0); have fr22 : Fr (T_st_empty i0) μ μ21 := Fr.stI (Fr.stI fr20 (iT 0 rfl inA_es)) (iT 1 rfl inA_es); have h23 := mb_o h18; fr_ret h23 (Fr.stI fr22 (iT 2 rfl inA_es)))))))
def T_pl_addCode (i0 : Nat) : List At := [(25, some i0, none), (18, some i0, some 11)]
theorem f_pl_addCode {μ : Mem} {i0 : Nat} {x1 : Int32}  {z : Unit × Mem} (h : pl_addCode i0 x1 μ = some z) : Fr (T_pl_addCode i0) μ z.2 := by
  unfold pl_addCode at h
  exact fi h (fun h2 => fr_ret h2 (Fr.rf (T_pl_addCode i0) μ)) (fun h3 => (have h5 := fgv h3; (let μ6 : Mem := stI (stI μ 25 i0 (cl (mI μ 18 i0 11)) x1) 18 i0 11 ((mI (stI μ 25 i0 (cl (mI μ 18 i0 11)) x1) 18 i0 11) + (nI 1)); have fr7 : Fr (T_pl_addCode i0) μ μ6 := Fr.stI (Fr.stI (Fr.rf (T_pl_addCode i0) μ) (iT 0 rfl inA_en)) (iT 1 rfl inA_es); have h8 := mb_o h5; fr_ret h8 fr7)))
def T_pl_addUntoldLaw (i0 : Nat) : List At := [(24, some i0, none), (25, some i0, none), (18, some i0, some 11)]
theorem f_pl_addUntoldLaw {μ : Mem} {i0 : Nat} {x1 : Int32} {x2 : Int32}  {z : Unit × Mem} (h : pl_addUntoldLaw i0 x1 x2 μ = some z) : Fr (T_pl_addUntoldLaw i0) μ z.2 := by
  unfold pl_addUntoldLaw at h
  exact (have h2 := fgv h; fo h2 (fun _ μ3 e14 h5 => have fr7 : Fr (T_pl_addUntoldLaw i0) μ μ3 := Fr.tr (Fr.mono (f_pl_addCode  e14) (sbc (sa_m 1 rfl) (sbc (sa_m 2 rfl) sbn))) (Fr.stI (Fr.rf (T_pl_addUntoldLaw i0) μ) (iT 0 rfl inA_en)); fo h5 (fun _ μ8 e13 h10 => have fr12 : Fr (T_pl_addUntoldLaw i0) μ μ8 := Fr.tr (Fr.mono (f_pl_addCode  e13) (sbc (sa_m 1 rfl) (sbc (sa_m 2 rfl) sbn))) fr7; fr_ret h10 fr12)))
def T_pl_empty (i0 : Nat) : List At := [(18, some i0, some 0), (18, some i0, some 1), (18, some i0, some 2), (18, some i0, some 3), (18, some i0, some 11), (24, some i0, none), (25, some i0, none), (26, some i0, some 4), (26, some i0, some 5), (26, some i0, some 6), (30, some i0, none), (29, some i0, none), (28, some i0, none), (27, some i0, none)]
theorem f_pl_empty {μ : Mem} {i0 : Nat}  {z : Unit × Mem} (h : pl_empty i0 μ = some z) : Fr (T_pl_empty i0) μ z.2 := by
  unfold pl_empty at h
  exact (let μ1 : Mem := stI (stI μ 18 i0 0 (nI 0)) 18 i0 1 (nI 0); have fr2 : Fr (T_pl_empty i0) μ μ1 := Fr.stI (Fr.stI (Fr.rf (T_pl_empty i0) μ) (iT 0 rfl inA_es)) (iT 1 rfl inA_es); have h3 := mb_o h; (let μ4 : Mem := stI (stI μ1 18 i0 2 (nI 0)) 18 i0 3 (nI 0); have fr5 : Fr (T_pl_empty i0) μ μ4 := Fr.stI (Fr.stI fr2 (iT 2 rfl inA_es)) (iT 3 rfl inA_es); have h6 := mb_o h3; fo h6 (fun _ μ7 e36 h9 => have fr11 : Fr (T_pl_empty i0) μ μ7 := Fr.tr (Fr.mono (f_st_empty  e36) (sbc (sa_m 7 rfl) (sbc (sa_m 8 rfl) (sbc (sa_m 9 rfl) (sbc (sa_m 10 rfl) (sbc (sa_m 11 rfl) (sbc (sa_m 12 rfl) (sbc (sa_m 13 rfl) sbn)))))))) fr5; fo h9 (fun _ μ12 e35 h14 => have fr16 : Fr (T_pl_empty i0) μ μ12 := Fr.tr (Fr.mono (f_pl_addUntoldLaw  e35) (sbc (sa_m 5 rfl) (sbc (sa_m 6 rfl) (sbc (sa_m 4 rfl) sbn)))) (Fr.stI fr11 (iT 4 rfl inA_es)); fo h14 (fun _ μ17 e34 h19 => have fr21 : Fr (T_pl_empty i0) μ μ17 := Fr.tr (Fr.mono (f_pl_addUntoldLaw  e34) (sbc (sa_m 5 rfl) (sbc (sa_m 6 rfl) (sbc (sa_m 4 rfl) sbn)))) fr16; fo h19 (fun _ μ22 e33 h24 => have fr26 : Fr (T_pl_empty i0) μ μ22 := Fr.tr (Fr.mono (f_pl_addUntoldLaw  e33) (sbc (sa_m 5 rfl) (sbc (sa_m 6 rfl) (sbc (sa_m 4 rfl) sbn)))) fr21; fo h24 (fun _ μ27 e32 h29 => have fr31 : Fr (T_pl_empty i0) μ μ27 := Fr.tr (Fr.mono (f_pl_addUntoldLaw  e32) (sbc (sa_m 5 rfl) (sbc (sa_m 6 rfl) (sbc (sa_m 4 rfl) sbn)))) fr26; fr_ret h29 fr31)))))))
def T_pl_elseBehind_L2 (i0 : Nat) : List At := []
theorem f_pl_elseBehind_L2 {μ0 : Mem} {T : List At} {i0 : Nat}   {x2 : Int32} {μ : Mem} {z : Int32 × Mem} (h : pl_elseBehind_L2 i0 x2 μ = some z) (fr : Fr T μ0 μ) (hT : Sb (T_pl_elseBehind_L2 i0) T)   : Fr T μ0 z.2 := by
  have key : ∀ (n : Nat), (∀ (x2 : Int32) (μ : Mem) z, fixN (fun _ _ => none) (pl_elseBehind_B2 i0) n x2 μ = some z → Fr T μ0 μ → Fr T μ0 z.2) := by
    intro n
    refine fixN_ind (fun (f : Int32 → Mem → Option (Int32 × Mem)) => ∀ (x2 : Int32) (μ : Mem) z, f x2 μ = some z → Fr T μ0 μ → Fr T μ0 z.2) ?_ ?_ n
    · intro x2 μ z h; cases h
    · intro self hself x2 μ z h fr
      unfold pl_elseBehind_B2 at h
      exact fi h (fun h2 => fr_ret h2 fr) (fun h3 => (have h5 := fgv h3; fi h5 (fun h8 => fr_ret h8 fr) (fun h7 => hself _ _ _ h7 fr)))
  exact key 60000 _ _ _ h fr
def T_pl_elseBehind (i0 : Nat) : List At := []
theorem f_pl_elseBehind {μ : Mem} {i0 : Nat} {x1 : Int32}  {z : Int32 × Mem} (h : pl_elseBehind i0 x1 μ = some z) : Fr (T_pl_elseBehind i0) μ z.2 := by
  unfold pl_elseBehind at h
  exact f_pl_elseBehind_L2 h (Fr.rf (T_pl_elseBehind i0) μ) sbn  
def T_pl_notchesOf_L4 (i0 : Nat) : List At := []
theorem f_pl_notchesOf_L4 {μ0 : Mem} {T : List At} {i0 : Nat} {x1 : Int32}   {x2 : Int32} {x3 : Int32} {μ : Mem} {z : Int32 × Mem} (h : pl_notchesOf_L4 i0 x1 x2 x3 μ = some z) (fr : Fr T μ0 μ) (hT : Sb (T_pl_notchesOf_L4 i0) T)   : Fr T μ0 z.2 := by
  have key : ∀ (n : Nat), (∀ (x2 : Int32) (x3 : Int32) (μ : Mem) z, fixN (fun _ _ _ => none) (pl_notchesOf_B4 i0 x1) n x2 x3 μ = some z → Fr T μ0 μ → Fr T μ0 z.2) := by
    intro n
    refine fixN_ind (fun (f : Int32 → Int32 → Mem → Option (Int32 × Mem)) => ∀ (x2 : Int32) (x3 : Int32) (μ : Mem) z, f x2 x3 μ = some z → Fr T μ0 μ → Fr T μ0 z.2) ?_ ?_ n
    · intro x2 x3 μ z h; cases h
    · intro self hself x2 x3 μ z h fr
      unfold pl_notchesOf_B4 at h
      exact fi h (fun h2 => fr_ret h2 fr) (fun h3 => (have h5 := fgv h3; fi h5 (fun h8 => hself _ _ _ _ h8 fr) (fun h7 => hself _ _ _ _ h7 fr)))
  exact key 60000 _ _ _ _ h fr
def T_pl_notchesOf (i0 : Nat) : List At := []
theorem f_pl_notchesOf {μ : Mem} {i0 : Nat} {x1 : Int32}  {z : Int32 × Mem} (h : pl_notchesOf i0 x1 μ = some z) : Fr (T_pl_notchesOf i0) μ z.2 := by
  unfold pl_notchesOf at h
  exact f_pl_notchesOf_L4 h (Fr.rf (T_pl_notchesOf i0) μ) sbn  
def T_rd_kind : List At := []
theorem f_rd_kind {μ : Mem}   {z : Int32 × Mem} (h : rd_kind  μ = some z) : Fr (T_rd_kind) μ z.2 := by
  unfold rd_kind at h
  exact (have h2 := fgv h; fr_ret h2 (Fr.rf (T_rd_kind) μ))
def T_rd_fail : List At := [(12, none, some 0), (12, none, some 1)]
theorem f_rd_fail {μ : Mem} {x1 : Int32}  {z : Int32 × Mem} (h : rd_fail x1 μ = some z) : Fr (T_rd_fail) μ z.2 := by
  unfold rd_fail at h
  exact (have h2 := fgv h; (let μ3 : Mem := stI (stI μ 12 0 0 x1) 12 0 1 (mI (stI μ 12 0 0 x1) 15 0 (cl (mI (stI μ 12 0 0 x1) 12 0 4))); have fr4 : Fr (T_rd_fail) μ μ3 := Fr.stI (Fr.stI (Fr.rf (T_rd_fail) μ) (iT 0 rfl inA_ns)) (iT 1 rfl inA_ns); have h5 := mb_o h2; fr_ret h5 fr4))
def T_rd_failLater : List At := [(12, none, some 5), (12, none, some 6)]
theorem f_rd_failLater {μ : Mem} {x1 : Int32}  {z : Unit × Mem} (h : rd_failLater x1 μ = some z) : Fr (T_rd_failLater) μ z.2 := by
  unfold rd_failLater at h
  exact fi h (fun h3 => fi h3 (fun h5 => fr_ret h5 (Fr.rf (T_rd_failLater) μ)) (fun h6 => (have h8 := fgv h6; (let μ9 : Mem := stI (stI μ 12 0 5 x1) 12 0 6 (mI (stI μ 12 0 5 x1) 15 0 (cl ((mI (stI μ 12 0 5 x1) 12 0 4) - (nI 1)))); have fr10 : Fr (T_rd_failLater) μ μ9 := Fr.stI (Fr.stI (Fr.rf (T_rd_failLater) μ) (iT 0 rfl inA_ns)) (iT 1 rfl inA_ns); have h11 := mb_o h8; fr_ret h11 fr10)))) (fun h2 => fr_ret h2 (Fr.rf (T_rd_failLater) μ))
def T_rd_pass : List At := [(12, none, some 4), (12, none, some 0), (12, none, some 1)]
theorem f_rd_pass {μ : Mem}   {z : Int32 × Mem} (h : rd_pass  μ = some z) : Fr (T_rd_pass) μ z.2 := by
  unfold rd_pass at h
  exact fi h (fun h2 => fr_ret h2 (Fr.stI (Fr.rf (T_rd_pass) μ) (iT 0 rfl inA_ns))) (fun h3 => fo h3 (fun r7 μ4 e11 h6 => have fr8 : Fr (T_rd_pass) μ μ4 := Fr.tr (Fr.mono (f_rd_fail  e11) (sbc (sa_m 1 rfl) (sbc (sa_m 2 rfl) sbn))) (Fr.rf (T_rd_pass) μ); (have h10 := fgv h6; fr_ret h10 fr8)))
def T_rd_take : List At := [(12, none, some 0), (12, none, some 1), (12, none, some 4)]
theorem f_rd_take {μ : Mem} {x1 : Int32}  {z : Int32 × Mem} (h : rd_take x1 μ = some z) : Fr (T_rd_take) μ z.2 := by
  unfold rd_take at h
  exact fo h (fun r4 μ1 e25 h3 => have fr5 : Fr (T_rd_take) μ μ1 := Fr.tr (Fr.mono (f_rd_kind  e25) sbn) (Fr.rf (T_rd_take) μ); fi h3 (fun h8 => fo h8 (fun r20 μ17 e24 h19 => have fr21 : Fr (T_rd_take) μ μ17 := Fr.tr (Fr.mono (f_rd_pass  e24) (sbc (sa_m 2 rfl) (sbc (sa_m 0 rfl) (sbc (sa_m 1 rfl) sbn)))) fr5; (have h23 := fgv h19; fr_ret h23 fr21))) (fun h7 => fo h7 (fun r12 μ9 e16 h11 => have fr13 : Fr (T_rd_take) μ μ9 := Fr.tr (Fr.mono (f_rd_fail  e16) (sbc (sa_m 0 rfl) (sbc (sa_m 1 rfl) sbn))) fr5; (have h15 := fgv h11; fr_ret h15 fr13))))
def T_rd_taken : List At := []
theorem f_rd_taken {μ : Mem}   {z : Int64 × Mem} (h : rd_taken  μ = some z) : Fr (T_rd_taken) μ z.2 := by
  unfold rd_taken at h
  exact fi h (fun h2 => fr_ret h2 (Fr.rf (T_rd_taken) μ)) (fun h3 => (have h5 := fgv h3; fr_ret h5 (Fr.rf (T_rd_taken) μ)))
def T_rd_takeNumber : List At := [(12, none, some 5), (12, none, some 6), (12, none, some 0), (12, none, some 1), (12, none, some 4)]
theorem f_rd_takeNumber {μ : Mem} {x1 : Int32} {x2 : Int32}  {z : Int32 × Mem} (h : rd_takeNumber x1 x2 μ = some z) : Fr (T_rd_takeNumber) μ z.2 := by
  unfold rd_takeNumber at h
  exact fo h (fun r4 μ1 e39 h3 => have fr5 : Fr (T_rd_takeNumber) μ μ1 := Fr.tr (Fr.mono (f_rd_take  e39) (sbc (sa_m 2 rfl) (sbc (sa_m 3 rfl) (sbc (sa_m 4 rfl) sbn)))) (Fr.rf (T_rd_takeNumber) μ); fi h3 (fun h8 => fr_ret h8 fr5) (fun h7 => fo h7 (fun r12 μ9 e38 h11 => have fr13 : Fr (T_rd_takeNumber) μ μ9 := Fr.tr (Fr.mono (f_rd_taken  e38) sbn) fr5; fi h11 (fun h15 => fo h15 (fun _ μ17 e22 h19 => have fr21 : Fr (T_rd_takeNumber) μ μ17 := Fr.tr (Fr.mono (f_rd_failLater  e22) (sbc (sa_m 0 rfl) (sbc (sa_m 1 rfl) sbn))) fr13; fr_ret h19 fr21)) (fun h16 => fo h16 (fun r26 μ23 e37 h25 => have fr27 : Fr (T_rd_takeNumber) μ μ23 := Fr.tr (Fr.mono (f_rd_taken  e37) sbn) fr13; fi h25 (fun h29 => fr_ret h29 fr27) (fun h30 => fo h30 (fun _ μ31 e36 h33 => have fr35 : Fr (T_rd_takeNumber) μ μ31 := Fr.tr (Fr.mono (f_rd_failLater  e36) (sbc (sa_m 0 rfl) (sbc (sa_m 1 rfl) sbn))) fr27; fr_ret h33 fr35)))))))
def T_rd_logNamed_L2 : List At := []
theorem f_rd_logNamed_L2 {μ0 : Mem} {T : List At} {x1 : Int64}   {x3 : Int32} {μ : Mem} {z : Int32 × Mem} (h : rd_logNamed_L2 x1 x3 μ = some z) (fr : Fr T μ0 μ) (hT : Sb (T_rd_logNamed_L2) T)   : Fr T μ0 z.2 := by
  have key : ∀ (n : Nat), (∀ (x3 : Int32) (μ : Mem) z, fixN (fun _ _ => none) (rd_logNamed_B2 x1) n x3 μ = some z → Fr T μ0 μ → Fr T μ0 z.2) := by
    intro n
    refine fixN_ind (fun (f : Int32 → Mem → Option (Int32 × Mem)) => ∀ (x3 : Int32) (μ : Mem) z, f x3 μ = some z → Fr T μ0 μ → Fr T μ0 z.2) ?_ ?_ n
    · intro x3 μ z h; cases h
    · intro self hself x3 μ z h fr
      unfold rd_logNamed_B2 at h
      exact (have h2 := fgv h; fi h2 (fun h4 => fr_ret h4 fr) (fun h5 => (have h7 := fgv h5; fi h7 (fun h10 => fr_ret h10 fr) (fun h9 => hself _ _ _ h9 fr))))
  exact key 60000 _ _ _ h fr
def T_rd_logNamed : List At := []
theorem f_rd_logNamed {μ : Mem} {x1 : Int64}  {z : Int32 × Mem} (h : rd_logNamed x1 μ = some z) : Fr (T_rd_logNamed) μ z.2 := by
  unfold rd_logNamed at h
  exact f_rd_logNamed_L2 h (Fr.rf (T_rd_logNamed) μ) sbn  
def T_rd_fieldNamed_L2 : List At := []
theorem f_rd_fieldNamed_L2 {μ0 : Mem} {T : List At} {x1 : Int64}   {x3 : Int32} {μ : Mem} {z : Int32 × Mem} (h : rd_fieldNamed_L2 x1 x3 μ = some z) (fr : Fr T μ0 μ) (hT : Sb (T_rd_fieldNamed_L2) T)   : Fr T μ0 z.2 := by
  have key : ∀ (n : Nat), (∀ (x3 : Int32) (μ : Mem) z, fixN (fun _ _ => none) (rd_fieldNamed_B2 x1) n x3 μ = some z → Fr T μ0 μ → Fr T μ0 z.2) := by
    intro n
    refine fixN_ind (fun (f : Int32 → Mem → Option (Int32 × Mem)) => ∀ (x3 : Int32) (μ : Mem) z, f x3 μ = some z → Fr T μ0 μ → Fr T μ0 z.2) ?_ ?_ n
    · intro x3 μ z h; cases h
    · intro self hself x3 μ z h fr
      unfold rd_fieldNamed_B2 at h
      exact (have h2 := fgv h; fi h2 (fun h4 => fr_ret h4 fr) (fun h5 => (have h7 := fgv h5; fi h7 (fun h10 => fr_ret h10 fr) (fun h9 => hself _ _ _ h9 fr))))
  exact key 60000 _ _ _ h fr
def T_rd_fieldNamed : List At := []
theorem f_rd_fieldNamed {μ : Mem} {x1 : Int64}  {z : Int32 × Mem} (h : rd_fieldNamed x1 μ = some z) : Fr (T_rd_fieldNamed) μ z.2 := by
  unfold rd_fieldNamed at h
  exact f_rd_fieldNamed_L2 h (Fr.rf (T_rd_fieldNamed) μ) sbn  
def T_rd_takeNewName : List At := [(12, none, some 5), (12, none, some 6), (12, none, some 0), (12, none, some 1), (12, none, some 4)]
theorem f_rd_takeNewName {μ : Mem}   {z : Int32 × Mem} (h : rd_takeNewName  μ = some z) : Fr (T_rd_takeNewName) μ z.2 := by
  unfold rd_takeNewName at h
  exact fo h (fun r4 μ1 e51 h3 => have fr5 : Fr (T_rd_takeNewName) μ μ1 := Fr.tr (Fr.mono (f_rd_take  e51) (sbc (sa_m 2 rfl) (sbc (sa_m 3 rfl) (sbc (sa_m 4 rfl) sbn)))) (Fr.rf (T_rd_takeNewName) μ); fi h3 (fun h8 => fr_ret h8 fr5) (fun h7 => fo h7 (fun r12 μ9 e50 h11 => have fr13 : Fr (T_rd_takeNewName) μ μ9 := Fr.tr (Fr.mono (f_rd_taken  e50) sbn) fr5; fo h11 (fun r17 μ14 e49 h16 => have fr18 : Fr (T_rd_takeNewName) μ μ14 := Fr.tr (Fr.mono (f_rd_logNamed  e49) sbn) fr13; fi h16 (fun h21 => fo h21 (fun r31 μ28 e48 h30 => have fr32 : Fr (T_rd_takeNewName) μ μ28 := Fr.tr (Fr.mono (f_rd_taken  e48) sbn) fr18; fo h30 (fun r36 μ33 e47 h35 => have fr37 : Fr (T_rd_takeNewName) μ μ33 := Fr.tr (Fr.mono (f_rd_fieldNamed  e47) sbn) fr32; fi h35 (fun h39 => fr_ret h39 fr37) (fun h40 => fo h40 (fun _ μ41 e46 h43 => have fr45 : Fr (T_rd_takeNewName) μ μ41 := Fr.tr (Fr.mono (f_rd_failLater  e46) (sbc (sa_m 0 rfl) (sbc (sa_m 1 rfl) sbn))) fr37; fr_ret h43 fr45))))) (fun h20 => fo h20 (fun _ μ22 e27 h24 => have fr26 : Fr (T_rd_takeNewName) μ μ22 := Fr.tr (Fr.mono (f_rd_failLater  e27) (sbc (sa_m 0 rfl) (sbc (sa_m 1 rfl) sbn))) fr18; fr_ret h24 fr26))))))
def T_rd_readLog (ip : Nat) : List At := [(19, some ip, none), (18, some ip, some 0), (12, none, some 0), (12, none, some 1), (12, none, some 4), (12, none, some 5), (12, none, some 6)]
theorem f_rd_readLog {μ : Mem}  {ip : Nat} (hip : mR μ 12 0 3 = ip) {z : Int32 × Mem} (h : rd_readLog  μ = some z) : Fr (T_rd_readLog ip) μ z.2 := by
  unfold rd_readLog at h
  exact (have h2 := fgv h; fi h2 (fun h4 => fo h4 (fun r9 μ6 e49 h8 => have fr10 : Fr (T_rd_readLog ip) μ μ6 := Fr.tr (Fr.mono (f_rd_pass  e49) (sbc (sa_m 4 rfl) (sbc (sa_m 2 rfl) (sbc (sa_m 3 rfl) sbn)))) (Fr.rf (T_rd_readLog ip) μ); fi h8 (fun h12 => fr_ret h12 fr10) (fun h13 => fo h13 (fun r17 μ14 e48 h16 => have fr18 : Fr (T_rd_readLog ip) μ μ14 := Fr.tr (Fr.mono (f_rd_takeNewName  e48) (sbc (sa_m 5 rfl) (sbc (sa_m 6 rfl) (sbc (sa_m 2 rfl) (sbc (sa_m 3 rfl) (sbc (sa_m 4 rfl) sbn)))))) fr10; fi h16 (fun h21 => fr_ret h21 fr18) (fun h20 => (have h23 := fgv h20; fo h23 (fun r27 μ24 e47 h26 => have fr28 : Fr (T_rd_readLog ip) μ μ24 := Fr.tr (Fr.mono (f_rd_taken  e47) sbn) fr18; (have h30 := fgv h26; (let μ31 : Mem := stL μ24 19 (mR μ14 12 0 3) (cl (mI μ14 18 (mR μ14 12 0 3) 0)) r27; have fr32 : Fr (T_rd_readLog ip) μ μ31 := Fr.stL fr28 (iT 0 rfl (inA_qn (Fr.ip fr18 rfl hip))); have h33 := mb_o h30; (have h35 := fgv h33; (let μ36 : Mem := stI μ31 18 (mR μ31 12 0 3) 0 ((mI μ31 18 (mR μ31 12 0 3) 0) + (nI 1)); have fr37 : Fr (T_rd_readLog ip) μ μ36 := Fr.stI fr32 (iT 1 rfl (inA_qs (Fr.ip fr32 rfl hip))); have h38 := mb_o h35; fo h38 (fun r42 μ39 e46 h41 => have fr43 : Fr (T_rd_readLog ip) μ μ39 := Fr.tr (Fr.mono (f_rd_take  e46) (sbc (sa_m 2 rfl) (sbc (sa_m 3 rfl) (sbc (sa_m 4 rfl) sbn)))) fr37; (have h45 := fgv h41; fr_ret h45 fr43))))))))))))) (fun h5 => fo h5 (fun r53 μ50 e57 h52 => have fr54 : Fr (T_rd_readLog ip) μ μ50 := Fr.tr (Fr.mono (f_rd_fail  e57) (sbc (sa_m 2 rfl) (sbc (sa_m 3 rfl) sbn))) (Fr.rf (T_rd_readLog ip) μ); (have h56 := fgv h52; fr_ret h56 fr54))))
def T_rd_readField (ip : Nat) : List At := [(20, some ip, none), (18, some ip, some 1), (21, some ip, none), (12, none, some 0), (12, none, some 1), (12, none, some 4), (12, none, some 5), (12, none, some 6)]
theorem f_rd_readField {μ : Mem}  {ip : Nat} (hip : mR μ 12 0 3 = ip) {z : Int32 × Mem} (h : rd_readField  μ = some z) : Fr (T_rd_readField ip) μ z.2 := by
  unfold rd_readField at h
  exact (have h2 := fgv h; fi h2 (fun h4 => fo h4 (fun r9 μ6 e71 h8 => have fr10 : Fr (T_rd_readField ip) μ μ6 := Fr.tr (Fr.mono (f_rd_pass  e71) (sbc (sa_m 5 rfl) (sbc (sa_m 3 rfl) (sbc (sa_m 4 rfl) sbn)))) (Fr.rf (T_rd_readField ip) μ); fi h8 (fun h12 => fr_ret h12 fr10) (fun h13 => fo h13 (fun r17 μ14 e70 h16 => have fr18 : Fr (T_rd_readField ip) μ μ14 := Fr.tr (Fr.mono (f_rd_takeNewName  e70) (sbc (sa_m 6 rfl) (sbc (sa_m 7 rfl) (sbc (sa_m 3 rfl) (sbc (sa_m 4 rfl) (sbc (sa_m 5 rfl) sbn)))))) fr10; fi h16 (fun h21 => fr_ret h21 fr18) (fun h20 => (have h23 := fgv h20; fo h23 (fun r27 μ24 e69 h26 => have fr28 : Fr (T_rd_readField ip) μ μ24 := Fr.tr (Fr.mono (f_rd_taken  e69) sbn) fr18; (have h30 := fgv h26; (let μ31 : Mem := stL μ24 20 (mR μ14 12 0 3) (cl (mI μ14 18 (mR μ14 12 0 3) 1)) r27; have fr32 : Fr (T_rd_readField ip) μ μ31 := Fr.stL fr28 (iT 0 rfl (inA_qn (Fr.ip fr18 rfl hip))); have h33 := mb_o h30; (have h35 := fgv h33; (let μ36 : Mem := stI μ31 18 (mR μ31 12 0 3) 1 ((mI μ31 18 (mR μ31 12 0 3) 1) + (nI 1)); have fr37 : Fr (T_rd_readField ip) μ μ36 := Fr.stI fr32 (iT 1 rfl (inA_qs (Fr.ip fr32 rfl hip))); have h38 := mb_o h35; fo h38 (fun r42 μ39 e68 h41 => have fr43 : Fr (T_rd_readField ip) μ μ39 := Fr.tr (Fr.mono (f_rd_takeNumber  e68) (sbc (sa_m 6 rfl) (sbc (sa_m 7 rfl) (sbc (sa_m 3 rfl) (sbc (sa_m 4 rfl) (sbc (sa_m 5 rfl) sbn)))))) fr37; fi h41 (fun h46 => fr_ret h46 fr43) (fun h45 => (have h48 := fgv h45; fo h48 (fun r52 μ49 e67 h51 => have fr53 : Fr (T_rd_readField ip) μ μ49 := Fr.tr (Fr.mono (f_rd_taken  e67) sbn) fr43; (have h55 := fgv h51; (let μ56 : Mem := stI μ49 21 (mR μ39 12 0 3) (cl ((mI μ39 18 (mR μ39 12 0 3) 1) - (nI 1))) (Int64.toInt32 r52); have fr57 : Fr (T_rd_readField ip) μ μ56 := Fr.stI fr53 (iT 2 rfl (inA_qn (Fr.ip fr43 rfl hip))); have h58 := mb_o h55; fo h58 (fun r62 μ59 e66 h61 => have fr63 : Fr (T_rd_readField ip) μ μ59 := Fr.tr (Fr.mono (f_rd_take  e66) (sbc (sa_m 3 rfl) (sbc (sa_m 4 rfl) (sbc (sa_m 5 rfl) sbn)))) fr57; (have h65 := fgv h61; fr_ret h65 fr63))))))))))))))))))) (fun h5 => fo h5 (fun r75 μ72 e79 h74 => have fr76 : Fr (T_rd_readField ip) μ μ72 := Fr.tr (Fr.mono (f_rd_fail  e79) (sbc (sa_m 3 rfl) (sbc (sa_m 4 rfl) sbn))) (Fr.rf (T_rd_readField ip) μ); (have h78 := fgv h74; fr_ret h78 fr76))))
def T_j_bitCount : List At := []
theorem f_j_bitCount {μ : Mem} {x0 : Int32}  {z : Int32 × Mem} (h : j_bitCount x0 μ = some z) : Fr (T_j_bitCount) μ z.2 := by
  unfold j_bitCount at h
  exact (let v1 : Int32 := (x0 - ((ushr x0 (nI 1)) &&& (nI 1431655765))); have h2 := vb_o h; ((let v3 : Int32 := ((v1 &&& (nI 858993459)) + ((ushr v1 (nI 2)) &&& (nI 858993459))); have h4 := vb_o h2; ((let v5 : Int32 := ((v3 + (ushr v3 (nI 4))) &&& (nI 252645135)); have h6 := vb_o h4; ((let v7 : Int32 := ((v5 + (ushr v5 (nI 8))) + (ushr (v5 + (ushr v5 (nI 8))) (nI 16))); have h8 := vb_o h6; (fr_ret h8 (Fr.rf (T_j_bitCount) μ)))))))))
def T_rd_readTo (ip : Nat) : List At := [(23, some ip, none), (12, none, some 5), (12, none, some 6), (12, none, some 0), (12, none, some 1), (12, none, some 4)]
theorem f_rd_readTo {μ : Mem}  {ip : Nat} (hip : mR μ 12 0 3 = ip) {z : Int32 × Mem} (h : rd_readTo  μ = some z) : Fr (T_rd_readTo ip) μ z.2 := by
  unfold rd_readTo at h
  exact fo h (fun r4 μ1 e100 h3 => have fr5 : Fr (T_rd_readTo ip) μ μ1 := Fr.tr (Fr.mono (f_rd_kind  e100) sbn) (Fr.rf (T_rd_readTo ip) μ); fi h3 (fun h8 => (have h86 := fgv h8; (have h88 := fgv h86; (let μ89 : Mem := stI μ1 23 (mR μ1 12 0 3) (cl (mI μ1 18 (mR μ1 12 0 3) 2)) (nI 20); have fr90 : Fr (T_rd_readTo ip) μ μ89 := Fr.stI fr5 (iT 0 rfl (inA_qn (Fr.ip fr5 rfl hip))); have h91 := mb_o h88; fo h91 (fun r95 μ92 e99 h94 => have fr96 : Fr (T_rd_readTo ip) μ μ92 := Fr.tr (Fr.mono (f_rd_pass  e99) (sbc (sa_m 5 rfl) (sbc (sa_m 3 rfl) (sbc (sa_m 4 rfl) sbn)))) fr90; (have h98 := fgv h94; fr_ret h98 fr96)))))) (fun h7 => fo h7 (fun r12 μ9 e84 h11 => have fr13 : Fr (T_rd_readTo ip) μ μ9 := Fr.tr (Fr.mono (f_rd_take  e84) (sbc (sa_m 3 rfl) (sbc (sa_m 4 rfl) (sbc (sa_m 5 rfl) sbn)))) fr5; fi h11 (fun h16 => fr_ret h16 fr13) (fun h15 => fo h15 (fun r20 μ17 e83 h19 => have fr21 : Fr (T_rd_readTo ip) μ μ17 := Fr.tr (Fr.mono (f_rd_taken  e83) sbn) fr13; fo h19 (fun r25 μ22 e82 h24 => have fr26 : Fr (T_rd_readTo ip) μ μ22 := Fr.tr (Fr.mono (f_rd_logNamed  e82) sbn) fr21; fo h24 (fun r30 μ27 e81 h29 => have fr31 : Fr (T_rd_readTo ip) μ μ27 := Fr.tr (Fr.mono (f_rd_taken  e81) sbn) fr26; fo h29 (fun r35 μ32 e80 h34 => have fr36 : Fr (T_rd_readTo ip) μ μ32 := Fr.tr (Fr.mono (f_rd_fieldNamed  e80) sbn) fr31; fi h34 (fun h39 => fi h39 (fun h57 => fo h57 (fun _ μ66 e79 h68 => have fr70 : Fr (T_rd_readTo ip) μ μ66 := Fr.tr (Fr.mono (f_rd_failLater  e79) (sbc (sa_m 1 rfl) (sbc (sa_m 2 rfl) sbn))) fr36; (have h72 := fgv h68; (have h75 := fgv h72; (let μ76 : Mem := stI μ66 23 (mR μ66 12 0 3) (cl (mI μ66 18 (mR μ66 12 0 3) 2)) ((nI 10) + r35); have fr77 : Fr (T_rd_readTo ip) μ μ76 := Fr.stI fr70 (iT 0 rfl (inA_qn (Fr.ip fr70 rfl hip))); have h78 := mb_o h75; fr_ret h78 fr77))))) (fun h56 => (have h59 := fgv h56; (have h62 := fgv h59; (let μ63 : Mem := stI μ32 23 (mR μ32 12 0 3) (cl (mI μ32 18 (mR μ32 12 0 3) 2)) ((nI 10) + r35); have fr64 : Fr (T_rd_readTo ip) μ μ63 := Fr.stI fr36 (iT 0 rfl (inA_qn (Fr.ip fr36 rfl hip))); have h65 := mb_o h62; fr_ret h65 fr64))))) (fun h38 => (have h41 := fgv h38; fi h41 (fun h43 => (have h46 := fgv h43; (let μ47 : Mem := stI μ32 23 (mR μ32 12 0 3) (cl (mI μ32 18 (mR μ32 12 0 3) 2)) ((nI 10) + r35); have fr48 : Fr (T_rd_readTo ip) μ μ47 := Fr.stI fr36 (iT 0 rfl (inA_qn (Fr.ip fr36 rfl hip))); have h49 := mb_o h46; fr_ret h49 fr48))) (fun h44 => (have h51 := fgv h44; (let μ52 : Mem := stI μ32 23 (mR μ32 12 0 3) (cl (mI μ32 18 (mR μ32 12 0 3) 2)) r25; have fr53 : Fr (T_rd_readTo ip) μ μ52 := Fr.stI fr36 (iT 0 rfl (inA_qn (Fr.ip fr36 rfl hip))); have h54 := mb_o h51; fr_ret h54 fr53)))))))))))))
def T_rd_readNotch (ip : Nat) : List At := [(22, some ip, none), (27, some ip, none), (18, some ip, some 2), (12, none, some 0), (12, none, some 1), (12, none, some 4), (12, none, some 5), (12, none, some 6), (23, some ip, none)]
theorem f_rd_readNotch {μ : Mem}  {ip : Nat} (hip : mR μ 12 0 3 = ip) {z : Int32 × Mem} (h : rd_readNotch  μ = some z) : Fr (T_rd_readNotch ip) μ z.2 := by
  unfold rd_readNotch at h
  exact (have h2 := fgv h; fi h2 (fun h4 => fo h4 (fun r9 μ6 e220 h8 => have fr10 : Fr (T_rd_readNotch ip) μ μ6 := Fr.tr (Fr.mono (f_rd_pass  e220) (sbc (sa_m 5 rfl) (sbc (sa_m 3 rfl) (sbc (sa_m 4 rfl) sbn)))) (Fr.rf (T_rd_readNotch ip) μ); fi h8 (fun h12 => fr_ret h12 fr10) (fun h13 => fo h13 (fun r17 μ14 e219 h16 => have fr18 : Fr (T_rd_readNotch ip) μ μ14 := Fr.tr (Fr.mono (f_rd_take  e219) (sbc (sa_m 3 rfl) (sbc (sa_m 4 rfl) (sbc (sa_m 5 rfl) sbn)))) fr10; fi h16 (fun h21 => fr_ret h21 fr18) (fun h20 => fo h20 (fun r25 μ22 e218 h24 => have fr26 : Fr (T_rd_readNotch ip) μ μ22 := Fr.tr (Fr.mono (f_rd_taken  e218) sbn) fr18; fo h24 (fun r30 μ27 e217 h29 => have fr31 : Fr (T_rd_readNotch ip) μ μ27 := Fr.tr (Fr.mono (f_rd_logNamed  e217) sbn) fr26; fi h29 (fun h34 => fo h34 (fun _ μ160 e216 h162 => have fr164 : Fr (T_rd_readNotch ip) μ μ160 := Fr.tr (Fr.mono (f_rd_failLater  e216) (sbc (sa_m 6 rfl) (sbc (sa_m 7 rfl) sbn))) fr31; (have h166 := fgv h162; (have h168 := fgv h166; (let μ169 : Mem := stI μ160 22 (mR μ160 12 0 3) (cl (mI μ160 18 (mR μ160 12 0 3) 2)) r30; have fr170 : Fr (T_rd_readNotch ip) μ μ169 := Fr.stI fr164 (iT 0 rfl (inA_qn (Fr.ip fr164 rfl hip))); have h171 := mb_o h168; fo h171 (fun r175 μ172 e215 h174 => have fr176 : Fr (T_rd_readNotch ip) μ μ172 := Fr.tr (Fr.mono (f_rd_readTo (Fr.ip fr170 rfl hip) e215) (sbc (sa_m 8 rfl) (sbc (sa_m 6 rfl) (sbc (sa_m 7 rfl) (sbc (sa_m 3 rfl) (sbc (sa_m 4 rfl) (sbc (sa_m 5 rfl) sbn))))))) fr170; fi h174 (fun h178 => fr_ret h178 fr176) (fun h179 => fo h179 (fun r183 μ180 e214 h182 => have fr184 : Fr (T_rd_readNotch ip) μ μ180 := Fr.tr (Fr.mono (f_rd_takeNumber  e214) (sbc (sa_m 6 rfl) (sbc (sa_m 7 rfl) (sbc (sa_m 3 rfl) (sbc (sa_m 4 rfl) (sbc (sa_m 5 rfl) sbn)))))) fr176; fi h182 (fun h187 => fr_ret h187 fr184) (fun h186 => (have h189 := fgv h186; fo h189 (fun r193 μ190 e213 h192 => have fr194 : Fr (T_rd_readNotch ip) μ μ190 := Fr.tr (Fr.mono (f_rd_taken  e213) sbn) fr184; (have h196 := fgv h192; (let μ197 : Mem := stI μ190 27 (mR μ180 12 0 3) (cl (mI μ180 18 (mR μ180 12 0 3) 2)) (Int64.toInt32 r193); have fr198 : Fr (T_rd_readNotch ip) μ μ197 := Fr.stI fr194 (iT 1 rfl (inA_qn (Fr.ip fr184 rfl hip))); have h199 := mb_o h196; (have h201 := fgv h199; (let μ202 : Mem := stI μ197 18 (mR μ197 12 0 3) 2 ((mI μ197 18 (mR μ197 12 0 3) 2) + (nI 1)); have fr203 : Fr (T_rd_readNotch ip) μ μ202 := Fr.stI fr198 (iT 2 rfl (inA_qs (Fr.ip fr198 rfl hip))); have h204 := mb_o h201; fo h204 (fun r208 μ205 e212 h207 => have fr209 : Fr (T_rd_readNotch ip) μ μ205 := Fr.tr (Fr.mono (f_rd_take  e212) (sbc (sa_m 3 rfl) (sbc (sa_m 4 rfl) (sbc (sa_m 5 rfl) sbn)))) fr203; (have h211 := fgv h207; fr_ret h211 fr209))))))))))))))))) (fun h33 => (have h36 := fgv h33; fo h36 (fun r40 μ37 e159 h39 => have fr41 : Fr (T_rd_readNotch ip) μ μ37 := Fr.tr (Fr.mono (f_pl_notchesOf  e159) sbn) fr31; fo h39 (fun r45 μ42 e158 h44 => have fr46 : Fr (T_rd_readNotch ip) μ μ42 := Fr.tr (Fr.mono (f_j_bitCount  e158) sbn) fr41; fi h44 (fun h48 => (have h51 := fgv h48; (have h53 := fgv h51; (let μ54 : Mem := stI μ42 22 (mR μ42 12 0 3) (cl (mI μ42 18 (mR μ42 12 0 3) 2)) r30; have fr55 : Fr (T_rd_readNotch ip) μ μ54 := Fr.stI fr46 (iT 0 rfl (inA_qn (Fr.ip fr46 rfl hip))); have h56 := mb_o h53; fo h56 (fun r60 μ57 e100 h59 => have fr61 : Fr (T_rd_readNotch ip) μ μ57 := Fr.tr (Fr.mono (f_rd_readTo (Fr.ip fr55 rfl hip) e100) (sbc (sa_m 8 rfl) (sbc (sa_m 6 rfl) (sbc (sa_m 7 rfl) (sbc (sa_m 3 rfl) (sbc (sa_m 4 rfl) (sbc (sa_m 5 rfl) sbn))))))) fr55; fi h59 (fun h63 => fr_ret h63 fr61) (fun h64 => fo h64 (fun r68 μ65 e99 h67 => have fr69 : Fr (T_rd_readNotch ip) μ μ65 := Fr.tr (Fr.mono (f_rd_takeNumber  e99) (sbc (sa_m 6 rfl) (sbc (sa_m 7 rfl) (sbc (sa_m 3 rfl) (sbc (sa_m 4 rfl) (sbc (sa_m 5 rfl) sbn)))))) fr61; fi h67 (fun h72 => fr_ret h72 fr69) (fun h71 => (have h74 := fgv h71; fo h74 (fun r78 μ75 e98 h77 => have fr79 : Fr (T_rd_readNotch ip) μ μ75 := Fr.tr (Fr.mono (f_rd_taken  e98) sbn) fr69; (have h81 := fgv h77; (let μ82 : Mem := stI μ75 27 (mR μ65 12 0 3) (cl (mI μ65 18 (mR μ65 12 0 3) 2)) (Int64.toInt32 r78); have fr83 : Fr (T_rd_readNotch ip) μ μ82 := Fr.stI fr79 (iT 1 rfl (inA_qn (Fr.ip fr69 rfl hip))); have h84 := mb_o h81; (have h86 := fgv h84; (let μ87 : Mem := stI μ82 18 (mR μ82 12 0 3) 2 ((mI μ82 18 (mR μ82 12 0 3) 2) + (nI 1)); have fr88 : Fr (T_rd_readNotch ip) μ μ87 := Fr.stI fr83 (iT 2 rfl (inA_qs (Fr.ip fr83 rfl hip))); have h89 := mb_o h86; fo h89 (fun r93 μ90 e97 h92 => have fr94 : Fr (T_rd_readNotch ip) μ μ90 := Fr.tr (Fr.mono (f_rd_take  e97) (sbc (sa_m 3 rfl) (sbc (sa_m 4 rfl) (sbc (sa_m 5 rfl) sbn)))) fr88; (have h96 := fgv h92; fr_ret h96 fr94)))))))))))))))) (fun h49 => fo h49 (fun _ μ101 e157 h103 => have fr105 : Fr (T_rd_readNotch ip) μ μ101 := Fr.tr (Fr.mono (f_rd_failLater  e157) (sbc (sa_m 6 rfl) (sbc (sa_m 7 rfl) sbn))) fr46; (have h107 := fgv h103; (have h109 := fgv h107; (let μ110 : Mem := stI μ101 22 (mR μ101 12 0 3) (cl (mI μ101 18 (mR μ101 12 0 3) 2)) r30; have fr111 : Fr (T_rd_readNotch ip) μ μ110 := Fr.stI fr105 (iT 0 rfl (inA_qn (Fr.ip fr105 rfl hip))); have h112 := mb_o h109; fo h112 (fun r116 μ113 e156 h115 => have fr117 : Fr (T_rd_readNotch ip) μ μ113 := Fr.tr (Fr.mono (f_rd_readTo (Fr.ip fr111 rfl hip) e156) (sbc (sa_m 8 rfl) (sbc (sa_m 6 rfl) (sbc (sa_m 7 rfl) (sbc (sa_m 3 rfl) (sbc (sa_m 4 rfl) (sbc (sa_m 5 rfl) sbn))))))) fr111; fi h115 (fun h119 => fr_ret h119 fr117) (fun h120 => fo h120 (fun r124 μ121 e155 h123 => have fr125 : Fr (T_rd_readNotch ip) μ μ121 := Fr.tr (Fr.mono (f_rd_takeNumber  e155) (sbc (sa_m 6 rfl) (sbc (sa_m 7 rfl) (sbc (sa_m 3 rfl) (sbc (sa_m 4 rfl) (sbc (sa_m 5 rfl) sbn)))))) fr117; fi h123 (fun h128 => fr_ret h128 fr125) (fun h127 => (have h130 := fgv h127; fo h130 (fun r134 μ131 e154 h133 => have fr135 : Fr (T_rd_readNotch ip) μ μ131 := Fr.tr (Fr.mono (f_rd_taken  e154) sbn) fr125; (have h137 := fgv h133; (let μ138 : Mem := stI μ131 27 (mR μ121 12 0 3) (cl (mI μ121 18 (mR μ121 12 0 3) 2)) (Int64.toInt32 r134); have fr139 : Fr (T_rd_readNotch ip) μ μ138 := Fr.stI fr135 (iT 1 rfl (inA_qn (Fr.ip fr125 rfl hip))); have h140 := mb_o h137; (have h142 := fgv h140; (let μ143 : Mem := stI μ138 18 (mR μ138 12 0 3) 2 ((mI μ138 18 (mR μ138 12 0 3) 2) + (nI 1)); have fr144 : Fr (T_rd_readNotch ip) μ μ143 := Fr.stI fr139 (iT 2 rfl (inA_qs (Fr.ip fr139 rfl hip))); have h145 := mb_o h142; fo h145 (fun r149 μ146 e153 h148 => have fr150 : Fr (T_rd_readNotch ip) μ μ146 := Fr.tr (Fr.mono (f_rd_take  e153) (sbc (sa_m 3 rfl) (sbc (sa_m 4 rfl) (sbc (sa_m 5 rfl) sbn)))) fr144; (have h152 := fgv h148; fr_ret h152 fr150)))))))))))))))))))))))))))) (fun h5 => fo h5 (fun r224 μ221 e228 h223 => have fr225 : Fr (T_rd_readNotch ip) μ μ221 := Fr.tr (Fr.mono (f_rd_fail  e228) (sbc (sa_m 3 rfl) (sbc (sa_m 4 rfl) sbn))) (Fr.rf (T_rd_readNotch ip) μ); (have h227 := fgv h223; fr_ret h227 fr225))))
def T_rd_readDrain (ip : Nat) : List At := [(12, none, some 0), (12, none, some 1), (12, none, some 4), (28, some ip, none), (29, some ip, none), (12, none, some 5), (12, none, some 6)]
theorem f_rd_readDrain {μ : Mem}  {ip : Nat} (hip : mR μ 12 0 3 = ip) {z : Int32 × Mem} (h : rd_readDrain  μ = some z) : Fr (T_rd_readDrain ip) μ z.2 := by
  unfold rd_readDrain at h
  exact fo h (fun r4 μ1 e221 h3 => have fr5 : Fr (T_rd_readDrain ip) μ μ1 := Fr.tr (Fr.mono (f_rd_pass  e221) (sbc (sa_m 2 rfl) (sbc (sa_m 0 rfl) (sbc (sa_m 1 rfl) sbn)))) (Fr.rf (T_rd_readDrain ip) μ); fi h3 (fun h7 => fr_ret h7 fr5) (fun h8 => fo h8 (fun r12 μ9 e220 h11 => have fr13 : Fr (T_rd_readDrain ip) μ μ9 := Fr.tr (Fr.mono (f_rd_take  e220) (sbc (sa_m 0 rfl) (sbc (sa_m 1 rfl) (sbc (sa_m 2 rfl) sbn)))) fr5; fi h11 (fun h16 => fr_ret h16 fr13) (fun h15 => fo h15 (fun r20 μ17 e219 h19 => have fr21 : Fr (T_rd_readDrain ip) μ μ17 := Fr.tr (Fr.mono (f_rd_taken  e219) sbn) fr13; fo h19 (fun r25 μ22 e218 h24 => have fr26 : Fr (T_rd_readDrain ip) μ μ22 := Fr.tr (Fr.mono (f_rd_fieldNamed  e218) sbn) fr21; fi h24 (fun h29 => fo h29 (fun _ μ146 e217 h148 => have fr150 : Fr (T_rd_readDrain ip) μ μ146 := Fr.tr (Fr.mono (f_rd_failLater  e217) (sbc (sa_m 5 rfl) (sbc (sa_m 6 rfl) sbn))) fr26; fo h148 (fun r154 μ151 e216 h153 => have fr155 : Fr (T_rd_readDrain ip) μ μ151 := Fr.tr (Fr.mono (f_rd_take  e216) (sbc (sa_m 0 rfl) (sbc (sa_m 1 rfl) (sbc (sa_m 2 rfl) sbn)))) fr150; fi h153 (fun h158 => fr_ret h158 fr155) (fun h157 => fo h157 (fun r162 μ159 e215 h161 => have fr163 : Fr (T_rd_readDrain ip) μ μ159 := Fr.tr (Fr.mono (f_rd_taken  e215) sbn) fr155; fo h161 (fun r167 μ164 e214 h166 => have fr168 : Fr (T_rd_readDrain ip) μ μ164 := Fr.tr (Fr.mono (f_rd_logNamed  e214) sbn) fr163; fi h166 (fun h171 => fo h171 (fun _ μ190 e213 h192 => have fr194 : Fr (T_rd_readDrain ip) μ μ190 := Fr.tr (Fr.mono (f_rd_failLater  e213) (sbc (sa_m 5 rfl) (sbc (sa_m 6 rfl) sbn))) fr168; fo h192 (fun r198 μ195 e212 h197 => have fr199 : Fr (T_rd_readDrain ip) μ μ195 := Fr.tr (Fr.mono (f_rd_takeNumber  e212) (sbc (sa_m 5 rfl) (sbc (sa_m 6 rfl) (sbc (sa_m 0 rfl) (sbc (sa_m 1 rfl) (sbc (sa_m 2 rfl) sbn)))))) fr194; fi h197 (fun h202 => fr_ret h202 fr199) (fun h201 => fo h201 (fun r207 μ204 e211 h206 => have fr208 : Fr (T_rd_readDrain ip) μ μ204 := Fr.tr (Fr.mono (f_rd_take  e211) (sbc (sa_m 0 rfl) (sbc (sa_m 1 rfl) (sbc (sa_m 2 rfl) sbn)))) fr199; (have h210 := fgv h206; fr_ret h210 fr208)))))) (fun h170 => fo h170 (fun r175 μ172 e189 h174 => have fr176 : Fr (T_rd_readDrain ip) μ μ172 := Fr.tr (Fr.mono (f_rd_takeNumber  e189) (sbc (sa_m 5 rfl) (sbc (sa_m 6 rfl) (sbc (sa_m 0 rfl) (sbc (sa_m 1 rfl) (sbc (sa_m 2 rfl) sbn)))))) fr168; fi h174 (fun h179 => fr_ret h179 fr176) (fun h178 => fo h178 (fun r184 μ181 e188 h183 => have fr185 : Fr (T_rd_readDrain ip) μ μ181 := Fr.tr (Fr.mono (f_rd_take  e188) (sbc (sa_m 0 rfl) (sbc (sa_m 1 rfl) (sbc (sa_m 2 rfl) sbn)))) fr176; (have h187 := fgv h183; fr_ret h187 fr185))))))))))) (fun h28 => fo h28 (fun r33 μ30 e145 h32 => have fr34 : Fr (T_rd_readDrain ip) μ μ30 := Fr.tr (Fr.mono (f_rd_take  e145) (sbc (sa_m 0 rfl) (sbc (sa_m 1 rfl) (sbc (sa_m 2 rfl) sbn)))) fr26; fi h32 (fun h37 => fr_ret h37 fr34) (fun h36 => fo h36 (fun r41 μ38 e144 h40 => have fr42 : Fr (T_rd_readDrain ip) μ μ38 := Fr.tr (Fr.mono (f_rd_taken  e144) sbn) fr34; fo h40 (fun r46 μ43 e143 h45 => have fr47 : Fr (T_rd_readDrain ip) μ μ43 := Fr.tr (Fr.mono (f_rd_logNamed  e143) sbn) fr42; fi h45 (fun h50 => fo h50 (fun _ μ94 e142 h96 => have fr98 : Fr (T_rd_readDrain ip) μ μ94 := Fr.tr (Fr.mono (f_rd_failLater  e142) (sbc (sa_m 5 rfl) (sbc (sa_m 6 rfl) sbn))) fr47; fo h96 (fun r102 μ99 e141 h101 => have fr103 : Fr (T_rd_readDrain ip) μ μ99 := Fr.tr (Fr.mono (f_rd_takeNumber  e141) (sbc (sa_m 5 rfl) (sbc (sa_m 6 rfl) (sbc (sa_m 0 rfl) (sbc (sa_m 1 rfl) (sbc (sa_m 2 rfl) sbn)))))) fr98; fi h101 (fun h106 => fr_ret h106 fr103) (fun h105 => fi h105 (fun h108 => fo h108 (fun r113 μ110 e117 h112 => have fr114 : Fr (T_rd_readDrain ip) μ μ110 := Fr.tr (Fr.mono (f_rd_take  e117) (sbc (sa_m 0 rfl) (sbc (sa_m 1 rfl) (sbc (sa_m 2 rfl) sbn)))) fr103; (have h116 := fgv h112; fr_ret h116 fr114))) (fun h109 => (have h119 := fgv h109; (have h121 := fgv h119; (have h123 := fgv h121; fo h123 (fun r127 μ124 e140 h126 => have fr128 : Fr (T_rd_readDrain ip) μ μ124 := Fr.tr (Fr.mono (f_rd_taken  e140) sbn) (Fr.stI fr103 (iT 3 rfl (inA_qn (Fr.ip fr103 rfl hip)))); (let μ129 : Mem := stI μ124 29 (mR (stI μ99 28 (mR μ99 12 0 3) (cl r25) r46) 12 0 3) (cl r25) (Int64.toInt32 r127); have fr130 : Fr (T_rd_readDrain ip) μ μ129 := Fr.stI fr128 (iT 4 rfl (inA_qn (Fr.ip (Fr.stI fr103 (iT 3 rfl (inA_qn (Fr.ip fr103 rfl hip)))) rfl hip))); have h131 := mb_o h126; fo h131 (fun r135 μ132 e139 h134 => have fr136 : Fr (T_rd_readDrain ip) μ μ132 := Fr.tr (Fr.mono (f_rd_take  e139) (sbc (sa_m 0 rfl) (sbc (sa_m 1 rfl) (sbc (sa_m 2 rfl) sbn)))) fr130; (have h138 := fgv h134; fr_ret h138 fr136)))))))))))) (fun h49 => fo h49 (fun r54 μ51 e93 h53 => have fr55 : Fr (T_rd_readDrain ip) μ μ51 := Fr.tr (Fr.mono (f_rd_takeNumber  e93) (sbc (sa_m 5 rfl) (sbc (sa_m 6 rfl) (sbc (sa_m 0 rfl) (sbc (sa_m 1 rfl) (sbc (sa_m 2 rfl) sbn)))))) fr47; fi h53 (fun h58 => fr_ret h58 fr55) (fun h57 => fi h57 (fun h60 => fo h60 (fun r65 μ62 e69 h64 => have fr66 : Fr (T_rd_readDrain ip) μ μ62 := Fr.tr (Fr.mono (f_rd_take  e69) (sbc (sa_m 0 rfl) (sbc (sa_m 1 rfl) (sbc (sa_m 2 rfl) sbn)))) fr55; (have h68 := fgv h64; fr_ret h68 fr66))) (fun h61 => (have h71 := fgv h61; (have h73 := fgv h71; (have h75 := fgv h73; fo h75 (fun r79 μ76 e92 h78 => have fr80 : Fr (T_rd_readDrain ip) μ μ76 := Fr.tr (Fr.mono (f_rd_taken  e92) sbn) (Fr.stI fr55 (iT 3 rfl (inA_qn (Fr.ip fr55 rfl hip)))); (let μ81 : Mem := stI μ76 29 (mR (stI μ51 28 (mR μ51 12 0 3) (cl r25) r46) 12 0 3) (cl r25) (Int64.toInt32 r79); have fr82 : Fr (T_rd_readDrain ip) μ μ81 := Fr.stI fr80 (iT 4 rfl (inA_qn (Fr.ip (Fr.stI fr55 (iT 3 rfl (inA_qn (Fr.ip fr55 rfl hip)))) rfl hip))); have h83 := mb_o h78; fo h83 (fun r87 μ84 e91 h86 => have fr88 : Fr (T_rd_readDrain ip) μ μ84 := Fr.tr (Fr.mono (f_rd_take  e91) (sbc (sa_m 0 rfl) (sbc (sa_m 1 rfl) (sbc (sa_m 2 rfl) sbn)))) fr82; (have h90 := fgv h86; fr_ret h90 fr88))))))))))))))))))))))
def T_rd_readSpring (ip : Nat) : List At := [(26, some ip, some 4), (12, none, some 0), (12, none, some 1), (12, none, some 4), (12, none, some 5), (12, none, some 6)]
theorem f_rd_readSpring {μ : Mem}  {ip : Nat} (hip : mR μ 12 0 3 = ip) {z : Int32 × Mem} (h : rd_readSpring  μ = some z) : Fr (T_rd_readSpring ip) μ z.2 := by
  unfold rd_readSpring at h
  exact fo h (fun r4 μ1 e37 h3 => have fr5 : Fr (T_rd_readSpring ip) μ μ1 := Fr.tr (Fr.mono (f_rd_pass  e37) (sbc (sa_m 3 rfl) (sbc (sa_m 1 rfl) (sbc (sa_m 2 rfl) sbn)))) (Fr.rf (T_rd_readSpring ip) μ); fi h3 (fun h7 => fr_ret h7 fr5) (fun h8 => fo h8 (fun r12 μ9 e36 h11 => have fr13 : Fr (T_rd_readSpring ip) μ μ9 := Fr.tr (Fr.mono (f_rd_takeNumber  e36) (sbc (sa_m 4 rfl) (sbc (sa_m 5 rfl) (sbc (sa_m 1 rfl) (sbc (sa_m 2 rfl) (sbc (sa_m 3 rfl) sbn)))))) fr5; fi h11 (fun h16 => fr_ret h16 fr13) (fun h15 => (have h18 := fgv h15; fo h18 (fun r22 μ19 e35 h21 => have fr23 : Fr (T_rd_readSpring ip) μ μ19 := Fr.tr (Fr.mono (f_rd_taken  e35) sbn) fr13; (let μ24 : Mem := stI μ19 26 (mR μ9 12 0 3) 4 (Int64.toInt32 r22); have fr25 : Fr (T_rd_readSpring ip) μ μ24 := Fr.stI fr23 (iT 0 rfl (inA_qs (Fr.ip fr13 rfl hip))); have h26 := mb_o h21; fo h26 (fun r30 μ27 e34 h29 => have fr31 : Fr (T_rd_readSpring ip) μ μ27 := Fr.tr (Fr.mono (f_rd_take  e34) (sbc (sa_m 1 rfl) (sbc (sa_m 2 rfl) (sbc (sa_m 3 rfl) sbn)))) fr25; (have h33 := fgv h29; fr_ret h33 fr31)))))))))
def T_rd_readSeed (ip : Nat) : List At := [(18, some ip, some 3), (12, none, some 0), (12, none, some 1), (12, none, some 4)]
theorem f_rd_readSeed {μ : Mem}  {ip : Nat} (hip : mR μ 12 0 3 = ip) {z : Int32 × Mem} (h : rd_readSeed  μ = some z) : Fr (T_rd_readSeed ip) μ z.2 := by
  unfold rd_readSeed at h
  exact fo h (fun r4 μ1 e37 h3 => have fr5 : Fr (T_rd_readSeed ip) μ μ1 := Fr.tr (Fr.mono (f_rd_pass  e37) (sbc (sa_m 3 rfl) (sbc (sa_m 1 rfl) (sbc (sa_m 2 rfl) sbn)))) (Fr.rf (T_rd_readSeed ip) μ); fi h3 (fun h7 => fr_ret h7 fr5) (fun h8 => fo h8 (fun r12 μ9 e36 h11 => have fr13 : Fr (T_rd_readSeed ip) μ μ9 := Fr.tr (Fr.mono (f_rd_take  e36) (sbc (sa_m 1 rfl) (sbc (sa_m 2 rfl) (sbc (sa_m 3 rfl) sbn)))) fr5; fi h11 (fun h16 => fr_ret h16 fr13) (fun h15 => (have h18 := fgv h15; fo h18 (fun r22 μ19 e35 h21 => have fr23 : Fr (T_rd_readSeed ip) μ μ19 := Fr.tr (Fr.mono (f_rd_taken  e35) sbn) fr13; (let μ24 : Mem := stI μ19 18 (mR μ9 12 0 3) 3 (Int64.toInt32 r22); have fr25 : Fr (T_rd_readSeed ip) μ μ24 := Fr.stI fr23 (iT 0 rfl (inA_qs (Fr.ip fr13 rfl hip))); have h26 := mb_o h21; fo h26 (fun r30 μ27 e34 h29 => have fr31 : Fr (T_rd_readSeed ip) μ μ27 := Fr.tr (Fr.mono (f_rd_take  e34) (sbc (sa_m 1 rfl) (sbc (sa_m 2 rfl) (sbc (sa_m 3 rfl) sbn)))) fr25; (have h33 := fgv h29; fr_ret h33 fr31)))))))))
def T_rd_rank : List At := []
theorem f_rd_rank {μ : Mem} {x0 : Int32}  {z : Int32 × Mem} (h : rd_rank x0 μ = some z) : Fr (T_rd_rank) μ z.2 := by
  unfold rd_rank at h
  exact fi h (fun h2 => fr_ret h2 (Fr.rf (T_rd_rank) μ)) (fun h3 => fi h3 (fun h6 => fr_ret h6 (Fr.rf (T_rd_rank) μ)) (fun h5 => fi h5 (fun h8 => fr_ret h8 (Fr.rf (T_rd_rank) μ)) (fun h9 => fi h9 (fun h12 => fr_ret h12 (Fr.rf (T_rd_rank) μ)) (fun h11 => fr_ret h11 (Fr.rf (T_rd_rank) μ)))))
def T_rd_addWaiting_L0 (ip : Nat) : List At := [(12, none, some 8), (25, some ip, none), (18, some ip, some 11)]
theorem f_rd_addWaiting_L0 {μ0 : Mem} {T : List At} {x1 : Int32} {ip : Nat}   {μ : Mem} {z : Unit × Mem} (h : rd_addWaiting_L0 x1  μ = some z) (fr : Fr T μ0 μ) (hT : Sb (T_rd_addWaiting_L0 ip) T) (hn : inT T 12 0 3 = false) (hip : mR μ0 12 0 3 = ip)  : Fr T μ0 z.2 := by
  have key : ∀ (n : Nat), (∀  (μ : Mem) z, fixN (fun _ => none) (rd_addWaiting_B0 x1) n  μ = some z → Fr T μ0 μ → Fr T μ0 z.2) := by
    intro n
    refine fixN_ind (fun (f : Mem → Option (Unit × Mem)) => ∀  (μ : Mem) z, f  μ = some z → Fr T μ0 μ → Fr T μ0 z.2) ?_ ?_ n
    · intro  μ z h; cases h
    · intro self hself  μ z h fr
      unfold rd_addWaiting_B0 at h
      exact fi h (fun h2 => fr_ret h2 fr) (fun h3 => (have h5 := fgv h3; fo h5 (fun r9 μ6 e24 h8 => have fr10 : Fr T μ0 μ6 := Fr.tr (Fr.mono (f_rd_rank  e24) (sbt sbn hT)) fr; fi h8 (fun h12 => fr_ret h12 fr10) (fun h13 => (have h15 := fgv h13; (have h17 := fgv h15; fo h17 (fun _ μ18 e23 h20 => have fr22 : Fr T μ0 μ18 := Fr.tr (Fr.mono (f_pl_addCode  e23) (sbt (sbc (sa_q 1 rfl (Fr.ip (Fr.stI fr10 (hT _ _ _ (iT 0 rfl inA_ns))) hn hip)) (sbc (sa_q 2 rfl (Fr.ip (Fr.stI fr10 (hT _ _ _ (iT 0 rfl inA_ns))) hn hip)) sbn)) hT)) (Fr.stI fr10 (hT _ _ _ (iT 0 rfl inA_ns))); hself _ _ h20 fr22)))))))
  exact key 60000  _ _ h fr
def T_rd_addWaiting (ip : Nat) : List At := [(12, none, some 8), (25, some ip, none), (18, some ip, some 11)]
theorem f_rd_addWaiting {μ : Mem} {x1 : Int32} {ip : Nat} (hip : mR μ 12 0 3 = ip) {z : Unit × Mem} (h : rd_addWaiting x1 μ = some z) : Fr (T_rd_addWaiting ip) μ z.2 := by
  unfold rd_addWaiting at h
  exact f_rd_addWaiting_L0 h (Fr.rf (T_rd_addWaiting ip) μ) (sbc (sa_m 0 rfl) (sbc (sa_m 1 rfl) (sbc (sa_m 2 rfl) sbn))) rfl hip 
def T_rd_putWaiting : List At := [(17, none, none), (12, none, some 8)]
theorem f_rd_putWaiting {μ : Mem} {x1 : Int32}  {z : Unit × Mem} (h : rd_putWaiting x1 μ = some z) : Fr (T_rd_putWaiting) μ z.2 := by
  unfold rd_putWaiting at h
  exact fi h (fun h2 => fr_ret h2 (Fr.rf (T_rd_putWaiting) μ)) (fun h3 => (have h5 := fgv h3; (let μ6 : Mem := stI (stI μ 17 0 (cl (mI μ 12 0 8)) x1) 12 0 8 ((mI (stI μ 17 0 (cl (mI μ 12 0 8)) x1) 12 0 8) + (nI 1)); have fr7 : Fr (T_rd_putWaiting) μ μ6 := Fr.stI (Fr.stI (Fr.rf (T_rd_putWaiting) μ) (iT 0 rfl inA_nn)) (iT 1 rfl inA_ns); have h8 := mb_o h5; fr_ret h8 fr7)))
def T_rd_addUnit (ip : Nat) : List At := [(25, some ip, none), (18, some ip, some 11)]
theorem f_rd_addUnit {μ : Mem} {x1 : Int32} {ip : Nat} (hip : mR μ 12 0 3 = ip) {z : Int32 × Mem} (h : rd_addUnit x1 μ = some z) : Fr (T_rd_addUnit ip) μ z.2 := by
  unfold rd_addUnit at h
  exact fi h (fun h3 => (have h19 := fgv h3; (have h21 := fgv h19; fo h21 (fun _ μ22 e27 h24 => have fr26 : Fr (T_rd_addUnit ip) μ μ22 := Fr.tr (Fr.mono (f_pl_addCode  e27) (sbc (sa_q 0 rfl (Fr.ip (Fr.rf (T_rd_addUnit ip) μ) rfl hip)) (sbc (sa_q 1 rfl (Fr.ip (Fr.rf (T_rd_addUnit ip) μ) rfl hip)) sbn))) (Fr.rf (T_rd_addUnit ip) μ); fr_ret h24 fr26)))) (fun h2 => fi h2 (fun h5 => fr_ret h5 (Fr.rf (T_rd_addUnit ip) μ)) (fun h6 => fi h6 (fun h8 => fr_ret h8 (Fr.rf (T_rd_addUnit ip) μ)) (fun h9 => (have h11 := fgv h9; fo h11 (fun _ μ12 e17 h14 => have fr16 : Fr (T_rd_addUnit ip) μ μ12 := Fr.tr (Fr.mono (f_pl_addCode  e17) (sbc (sa_q 0 rfl (Fr.ip (Fr.rf (T_rd_addUnit ip) μ) rfl hip)) (sbc (sa_q 1 rfl (Fr.ip (Fr.rf (T_rd_addUnit ip) μ) rfl hip)) sbn))) (Fr.rf (T_rd_addUnit ip) μ); fr_ret h14 fr16)))))
def T_rd_readSum_L11 (ip : Nat) : List At := [(12, none, some 8), (12, none, some 4), (12, none, some 0), (12, none, some 1), (25, some ip, none), (18, some ip, some 11), (17, none, none)]
theorem f_rd_readSum_L11 {μ0 : Mem} {T : List At}  {ip : Nat} {k143 : Int32 → Mem → Option (Int32 × Mem)} {k181 : Mem → Option (Int32 × Mem)} {x1 : Int32} {x2 : Int32} {x3 : Int32} {μ : Mem} {z : Int32 × Mem} (h : rd_readSum_L11 k143 k181 x1 x2 x3 μ = some z) (fr : Fr T μ0 μ) (hT : Sb (T_rd_readSum_L11 ip) T) (hn : inT T 12 0 3 = false) (hip : mR μ0 12 0 3 = ip) (hk143 : ∀ (x1 : Int32) (μ : Mem) z, k143 x1 μ = some z → Fr T μ0 μ → Fr T μ0 z.2) (hk181 : ∀  (μ : Mem) z, k181  μ = some z → Fr T μ0 μ → Fr T μ0 z.2) : Fr T μ0 z.2 := by
  have key : ∀ (n : Nat), (∀ (x1 : Int32) (x2 : Int32) (x3 : Int32) (μ : Mem) z, fixN (fun _ _ _ _ => none) (rd_readSum_B11 k143 k181) n x1 x2 x3 μ = some z → Fr T μ0 μ → Fr T μ0 z.2) := by
    intro n
    refine fixN_ind (fun (f : Int32 → Int32 → Int32 → Mem → Option (Int32 × Mem)) => ∀ (x1 : Int32) (x2 : Int32) (x3 : Int32) (μ : Mem) z, f x1 x2 x3 μ = some z → Fr T μ0 μ → Fr T μ0 z.2) ?_ ?_ n
    · intro x1 x2 x3 μ z h; cases h
    · intro self hself x1 x2 x3 μ z h fr
      unfold rd_readSum_B11 at h
      exact fi h (fun h2 => hk181 _ _ h2 fr) (fun h3 => fo h3 (fun r7 μ4 e191 h6 => have fr8 : Fr T μ0 μ4 := Fr.tr (Fr.mono (f_rd_kind  e191) (sbt sbn hT)) fr; fi h6 (fun h10 => fo h10 (fun r16 μ13 e72 h15 => have fr17 : Fr T μ0 μ13 := Fr.tr (Fr.mono (f_rd_rank  e72) (sbt sbn hT)) fr8; fi h15 (fun h19 => fi h19 (fun h23 => fi h23 (fun h25 => hk143 _ _ _ h25 fr17) (fun h26 => fo h26 (fun _ μ27 e44 h29 => have fr31 : Fr T μ0 μ27 := Fr.tr (Fr.mono (f_rd_addWaiting (Fr.ip fr17 hn hip) e44) (sbt (sbc (sa_m 0 rfl) (sbc (sa_m 4 rfl) (sbc (sa_m 5 rfl) sbn))) hT)) fr17; (let μ32 : Mem := stI μ27 12 0 8 ((mI μ27 12 0 8) - (nI 1)); have fr33 : Fr T μ0 μ32 := Fr.stI fr31 (hT _ _ _ (iT 0 rfl inA_ns)); have h34 := mb_o h29; fo h34 (fun r38 μ35 e43 h37 => have fr39 : Fr T μ0 μ35 := Fr.tr (Fr.mono (f_rd_pass  e43) (sbt (sbc (sa_m 1 rfl) (sbc (sa_m 2 rfl) (sbc (sa_m 3 rfl) sbn))) hT)) fr33; fi h37 (fun h42 => fr_ret h42 fr39) (fun h41 => hself _ _ _ _ _ h41 fr39)))))) (fun h22 => hk143 _ _ _ h22 fr17)) (fun h20 => fo h20 (fun r48 μ45 e71 h47 => have fr49 : Fr T μ0 μ45 := Fr.tr (Fr.mono (f_rd_rank  e71) (sbt sbn hT)) fr17; fo h47 (fun _ μ50 e70 h52 => have fr54 : Fr T μ0 μ50 := Fr.tr (Fr.mono (f_rd_addWaiting (Fr.ip fr49 hn hip) e70) (sbt (sbc (sa_m 0 rfl) (sbc (sa_m 4 rfl) (sbc (sa_m 5 rfl) sbn))) hT)) fr49; fo h52 (fun _ μ55 e69 h57 => have fr59 : Fr T μ0 μ55 := Fr.tr (Fr.mono (f_rd_putWaiting  e69) (sbt (sbc (sa_m 6 rfl) (sbc (sa_m 0 rfl) sbn)) hT)) fr54; fo h57 (fun r63 μ60 e68 h62 => have fr64 : Fr T μ0 μ60 := Fr.tr (Fr.mono (f_rd_pass  e68) (sbt (sbc (sa_m 1 rfl) (sbc (sa_m 2 rfl) (sbc (sa_m 3 rfl) sbn))) hT)) fr59; fi h62 (fun h67 => fr_ret h67 fr64) (fun h66 => hself _ _ _ _ _ h66 fr64)))))))) (fun h11 => fi h11 (fun h75 => fi h75 (fun h167 => fo h167 (fun r186 μ183 e190 h185 => have fr187 : Fr T μ0 μ183 := Fr.tr (Fr.mono (f_rd_fail  e190) (sbt (sbc (sa_m 2 rfl) (sbc (sa_m 3 rfl) sbn)) hT)) fr8; (have h189 := fgv h185; fr_ret h189 fr187))) (fun h166 => fo h166 (fun _ μ168 e182 h170 => have fr172 : Fr T μ0 μ168 := Fr.tr (Fr.mono (f_rd_putWaiting  e182) (sbt (sbc (sa_m 6 rfl) (sbc (sa_m 0 rfl) sbn)) hT)) fr8; fo h170 (fun r176 μ173 e181 h175 => have fr177 : Fr T μ0 μ173 := Fr.tr (Fr.mono (f_rd_pass  e181) (sbt (sbc (sa_m 1 rfl) (sbc (sa_m 2 rfl) (sbc (sa_m 3 rfl) sbn))) hT)) fr172; fi h175 (fun h180 => fr_ret h180 fr177) (fun h179 => hself _ _ _ _ _ h179 fr177))))) (fun h74 => fi h74 (fun h77 => fo h77 (fun r82 μ79 e138 h81 => have fr83 : Fr T μ0 μ79 := Fr.tr (Fr.mono (f_rd_rank  e138) (sbt sbn hT)) fr8; fi h81 (fun h85 => fi h85 (fun h89 => fi h89 (fun h91 => hk143 _ _ _ h91 fr83) (fun h92 => fo h92 (fun _ μ93 e110 h95 => have fr97 : Fr T μ0 μ93 := Fr.tr (Fr.mono (f_rd_addWaiting (Fr.ip fr83 hn hip) e110) (sbt (sbc (sa_m 0 rfl) (sbc (sa_m 4 rfl) (sbc (sa_m 5 rfl) sbn))) hT)) fr83; (let μ98 : Mem := stI μ93 12 0 8 ((mI μ93 12 0 8) - (nI 1)); have fr99 : Fr T μ0 μ98 := Fr.stI fr97 (hT _ _ _ (iT 0 rfl inA_ns)); have h100 := mb_o h95; fo h100 (fun r104 μ101 e109 h103 => have fr105 : Fr T μ0 μ101 := Fr.tr (Fr.mono (f_rd_pass  e109) (sbt (sbc (sa_m 1 rfl) (sbc (sa_m 2 rfl) (sbc (sa_m 3 rfl) sbn))) hT)) fr99; fi h103 (fun h108 => fr_ret h108 fr105) (fun h107 => hself _ _ _ _ _ h107 fr105)))))) (fun h88 => hk143 _ _ _ h88 fr83)) (fun h86 => fo h86 (fun r114 μ111 e137 h113 => have fr115 : Fr T μ0 μ111 := Fr.tr (Fr.mono (f_rd_rank  e137) (sbt sbn hT)) fr83; fo h113 (fun _ μ116 e136 h118 => have fr120 : Fr T μ0 μ116 := Fr.tr (Fr.mono (f_rd_addWaiting (Fr.ip fr115 hn hip) e136) (sbt (sbc (sa_m 0 rfl) (sbc (sa_m 4 rfl) (sbc (sa_m 5 rfl) sbn))) hT)) fr115; fo h118 (fun _ μ121 e135 h123 => have fr125 : Fr T μ0 μ121 := Fr.tr (Fr.mono (f_rd_putWaiting  e135) (sbt (sbc (sa_m 6 rfl) (sbc (sa_m 0 rfl) sbn)) hT)) fr120; fo h123 (fun r129 μ126 e134 h128 => have fr130 : Fr T μ0 μ126 := Fr.tr (Fr.mono (f_rd_pass  e134) (sbt (sbc (sa_m 1 rfl) (sbc (sa_m 2 rfl) (sbc (sa_m 3 rfl) sbn))) hT)) fr125; fi h128 (fun h133 => fr_ret h133 fr130) (fun h132 => hself _ _ _ _ _ h132 fr130)))))))) (fun h78 => fo h78 (fun r142 μ139 e164 h141 => have fr143 : Fr T μ0 μ139 := Fr.tr (Fr.mono (f_rd_addUnit (Fr.ip fr8 hn hip) e164) (sbt (sbc (sa_m 4 rfl) (sbc (sa_m 5 rfl) sbn)) hT)) fr8; fi h141 (fun h146 => fo h146 (fun r159 μ156 e163 h158 => have fr160 : Fr T μ0 μ156 := Fr.tr (Fr.mono (f_rd_fail  e163) (sbt (sbc (sa_m 2 rfl) (sbc (sa_m 3 rfl) sbn)) hT)) fr143; (have h162 := fgv h158; fr_ret h162 fr160))) (fun h145 => fo h145 (fun r150 μ147 e155 h149 => have fr151 : Fr T μ0 μ147 := Fr.tr (Fr.mono (f_rd_pass  e155) (sbt (sbc (sa_m 1 rfl) (sbc (sa_m 2 rfl) (sbc (sa_m 3 rfl) sbn))) hT)) fr143; fi h149 (fun h154 => fr_ret h154 fr151) (fun h153 => hself _ _ _ _ _ h153 fr151)))))))))
  exact key 60000 _ _ _ _ _ h fr
def T_rd_readSum (ip : Nat) : List At := [(12, none, some 8), (12, none, some 0), (12, none, some 1), (25, some ip, none), (18, some ip, some 11), (12, none, some 4), (17, none, none)]
theorem f_rd_readSum {μ : Mem}  {ip : Nat} (hip : mR μ 12 0 3 = ip) {z : Int32 × Mem} (h : rd_readSum  μ = some z) : Fr (T_rd_readSum ip) μ z.2 := by
  unfold rd_readSum at h
  exact f_rd_readSum_L11 h (Fr.stI (Fr.rf (T_rd_readSum ip) μ) (iT 0 rfl inA_ns)) (sbc (sa_m 0 rfl) (sbc (sa_m 5 rfl) (sbc (sa_m 1 rfl) (sbc (sa_m 2 rfl) (sbc (sa_m 3 rfl) (sbc (sa_m 4 rfl) (sbc (sa_m 6 rfl) sbn))))))) rfl hip (fun x192 μ193 _ h195 fr196 => fo h195 (fun _ μ197 e214 h199 => have fr201 : Fr (T_rd_readSum ip) μ μ197 := Fr.tr (Fr.mono (f_rd_addWaiting (Fr.ip fr196 rfl hip) e214) (sbc (sa_m 0 rfl) (sbc (sa_m 3 rfl) (sbc (sa_m 4 rfl) sbn)))) fr196; fi h199 (fun h203 => fr_ret h203 fr201) (fun h204 => fo h204 (fun r208 μ205 e213 h207 => have fr209 : Fr (T_rd_readSum ip) μ μ205 := Fr.tr (Fr.mono (f_rd_fail  e213) (sbc (sa_m 1 rfl) (sbc (sa_m 2 rfl) sbn))) fr201; fi h207 (fun h211 => fr_ret h211 fr209) (fun h212 => fr_ret h212 fr209))))) (fun  μ215 _ h217 fr218 => fo h217 (fun r222 μ219 e226 h221 => have fr223 : Fr (T_rd_readSum ip) μ μ219 := Fr.tr (Fr.mono (f_rd_fail  e226) (sbc (sa_m 1 rfl) (sbc (sa_m 2 rfl) sbn))) fr218; (have h225 := fgv h221; fr_ret h225 fr223)))
def T_rd_takeAsCode (ip : Nat) : List At := [(12, none, some 4), (12, none, some 0), (12, none, some 1), (25, some ip, none), (18, some ip, some 11)]
theorem f_rd_takeAsCode {μ : Mem} {x1 : Int32} {x2 : Int32} {ip : Nat} (hip : mR μ 12 0 3 = ip) {z : Int32 × Mem} (h : rd_takeAsCode x1 x2 μ = some z) : Fr (T_rd_takeAsCode ip) μ z.2 := by
  unfold rd_takeAsCode at h
  exact fo h (fun r4 μ1 e33 h3 => have fr5 : Fr (T_rd_takeAsCode ip) μ μ1 := Fr.tr (Fr.mono (f_rd_kind  e33) sbn) (Fr.rf (T_rd_takeAsCode ip) μ); fi h3 (fun h7 => (have h10 := fgv h7; fo h10 (fun _ μ11 e24 h13 => have fr15 : Fr (T_rd_takeAsCode ip) μ μ11 := Fr.tr (Fr.mono (f_pl_addCode  e24) (sbc (sa_q 3 rfl (Fr.ip fr5 rfl hip)) (sbc (sa_q 4 rfl (Fr.ip fr5 rfl hip)) sbn))) fr5; fo h13 (fun r19 μ16 e23 h18 => have fr20 : Fr (T_rd_takeAsCode ip) μ μ16 := Fr.tr (Fr.mono (f_rd_pass  e23) (sbc (sa_m 0 rfl) (sbc (sa_m 1 rfl) (sbc (sa_m 2 rfl) sbn)))) fr15; (have h22 := fgv h18; fr_ret h22 fr20))))) (fun h8 => fo h8 (fun r28 μ25 e32 h27 => have fr29 : Fr (T_rd_takeAsCode ip) μ μ25 := Fr.tr (Fr.mono (f_rd_fail  e32) (sbc (sa_m 1 rfl) (sbc (sa_m 2 rfl) sbn))) fr5; (have h31 := fgv h27; fr_ret h31 fr29))))
def T_rd_readLaw_L36 (ip : Nat) : List At := [(12, none, some 4), (12, none, some 0), (12, none, some 1), (25, some ip, none), (18, some ip, some 11), (12, none, some 8), (17, none, none)]
theorem f_rd_readLaw_L36 {μ0 : Mem} {T : List At}  {ip : Nat} {k130 : Mem → Option (Int32 × Mem)} {x2 : Int32} {μ : Mem} {z : Int32 × Mem} (h : rd_readLaw_L36 k130 x2 μ = some z) (fr : Fr T μ0 μ) (hT : Sb (T_rd_readLaw_L36 ip) T) (hn : inT T 12 0 3 = false) (hip : mR μ0 12 0 3 = ip) (hk130 : ∀  (μ : Mem) z, k130  μ = some z → Fr T μ0 μ → Fr T μ0 z.2) : Fr T μ0 z.2 := by
  have key : ∀ (n : Nat), (∀ (x2 : Int32) (μ : Mem) z, fixN (fun _ _ => none) (rd_readLaw_B36 k130) n x2 μ = some z → Fr T μ0 μ → Fr T μ0 z.2) := by
    intro n
    refine fixN_ind (fun (f : Int32 → Mem → Option (Int32 × Mem)) => ∀ (x2 : Int32) (μ : Mem) z, f x2 μ = some z → Fr T μ0 μ → Fr T μ0 z.2) ?_ ?_ n
    · intro x2 μ z h; cases h
    · intro self hself x2 μ z h fr
      unfold rd_readLaw_B36 at h
      exact fi h (fun h25 => hk130 _ _ h25 fr) (fun h26 => fo h26 (fun r30 μ27 e109 h29 => have fr31 : Fr T μ0 μ27 := Fr.tr (Fr.mono (f_rd_kind  e109) (sbt sbn hT)) fr; fi h29 (fun h34 => fi h34 (fun h37 => fo h37 (fun r104 μ101 e108 h103 => have fr105 : Fr T μ0 μ101 := Fr.tr (Fr.mono (f_rd_fail  e108) (sbt (sbc (sa_m 1 rfl) (sbc (sa_m 2 rfl) sbn)) hT)) fr31; (have h107 := fgv h103; fr_ret h107 fr105))) (fun h36 => fo h36 (fun r41 μ38 e100 h40 => have fr42 : Fr T μ0 μ38 := Fr.tr (Fr.mono (f_rd_pass  e100) (sbt (sbc (sa_m 0 rfl) (sbc (sa_m 1 rfl) (sbc (sa_m 2 rfl) sbn))) hT)) fr31; fi h40 (fun h44 => fr_ret h44 fr42) (fun h45 => fo h45 (fun r49 μ46 e99 h48 => have fr50 : Fr T μ0 μ46 := Fr.tr (Fr.mono (f_rd_readSum (Fr.ip fr42 hn hip) e99) (sbt (sbc (sa_m 5 rfl) (sbc (sa_m 1 rfl) (sbc (sa_m 2 rfl) (sbc (sa_m 3 rfl) (sbc (sa_m 4 rfl) (sbc (sa_m 0 rfl) (sbc (sa_m 6 rfl) sbn))))))) hT)) fr42; fi h48 (fun h52 => fr_ret h52 fr50) (fun h53 => fo h53 (fun r57 μ54 e98 h56 => have fr58 : Fr T μ0 μ54 := Fr.tr (Fr.mono (f_rd_take  e98) (sbt (sbc (sa_m 1 rfl) (sbc (sa_m 2 rfl) (sbc (sa_m 0 rfl) sbn))) hT)) fr50; fi h56 (fun h60 => fr_ret h60 fr58) (fun h61 => fo h61 (fun r65 μ62 e97 h64 => have fr66 : Fr T μ0 μ62 := Fr.tr (Fr.mono (f_rd_readSum (Fr.ip fr58 hn hip) e97) (sbt (sbc (sa_m 5 rfl) (sbc (sa_m 1 rfl) (sbc (sa_m 2 rfl) (sbc (sa_m 3 rfl) (sbc (sa_m 4 rfl) (sbc (sa_m 0 rfl) (sbc (sa_m 6 rfl) sbn))))))) hT)) fr58; fi h64 (fun h68 => fr_ret h68 fr66) (fun h69 => fo h69 (fun r73 μ70 e96 h72 => have fr74 : Fr T μ0 μ70 := Fr.tr (Fr.mono (f_rd_takeAsCode (Fr.ip fr66 hn hip) e96) (sbt (sbc (sa_m 0 rfl) (sbc (sa_m 1 rfl) (sbc (sa_m 2 rfl) (sbc (sa_m 3 rfl) (sbc (sa_m 4 rfl) sbn))))) hT)) fr66; fi h72 (fun h76 => fr_ret h76 fr74) (fun h77 => fo h77 (fun r81 μ78 e95 h80 => have fr82 : Fr T μ0 μ78 := Fr.tr (Fr.mono (f_rd_readSum (Fr.ip fr74 hn hip) e95) (sbt (sbc (sa_m 5 rfl) (sbc (sa_m 1 rfl) (sbc (sa_m 2 rfl) (sbc (sa_m 3 rfl) (sbc (sa_m 4 rfl) (sbc (sa_m 0 rfl) (sbc (sa_m 6 rfl) sbn))))))) hT)) fr74; fi h80 (fun h84 => fr_ret h84 fr82) (fun h85 => fo h85 (fun r89 μ86 e94 h88 => have fr90 : Fr T μ0 μ86 := Fr.tr (Fr.mono (f_rd_takeAsCode (Fr.ip fr82 hn hip) e94) (sbt (sbc (sa_m 0 rfl) (sbc (sa_m 1 rfl) (sbc (sa_m 2 rfl) (sbc (sa_m 3 rfl) (sbc (sa_m 4 rfl) sbn))))) hT)) fr82; fi h88 (fun h93 => fr_ret h93 fr90) (fun h92 => hself _ _ _ h92 fr90)))))))))))))))) (fun h33 => hk130 _ _ h33 fr31)))
  exact key 60000 _ _ _ h fr
def T_rd_readLaw (ip : Nat) : List At := [(24, some ip, none), (12, none, some 4), (12, none, some 0), (12, none, some 1), (25, some ip, none), (18, some ip, some 11), (12, none, some 8), (17, none, none)]
theorem f_rd_readLaw {μ : Mem} {x1 : Int32} {ip : Nat} (hip : mR μ 12 0 3 = ip) {z : Int32 × Mem} (h : rd_readLaw x1 μ = some z) : Fr (T_rd_readLaw ip) μ z.2 := by
  unfold rd_readLaw at h
  exact fo h (fun r4 μ1 e133 h3 => have fr5 : Fr (T_rd_readLaw ip) μ μ1 := Fr.tr (Fr.mono (f_rd_pass  e133) (sbc (sa_m 1 rfl) (sbc (sa_m 2 rfl) (sbc (sa_m 3 rfl) sbn)))) (Fr.rf (T_rd_readLaw ip) μ); fi h3 (fun h7 => fr_ret h7 fr5) (fun h8 => fo h8 (fun r12 μ9 e132 h11 => have fr13 : Fr (T_rd_readLaw ip) μ μ9 := Fr.tr (Fr.mono (f_rd_take  e132) (sbc (sa_m 2 rfl) (sbc (sa_m 3 rfl) (sbc (sa_m 1 rfl) sbn)))) fr5; fi h11 (fun h16 => fr_ret h16 fr13) (fun h15 => (have h18 := fgv h15; (have h20 := fgv h18; (let μ21 : Mem := stI μ9 24 (mR μ9 12 0 3) (cl x1) (mI μ9 18 (mR μ9 12 0 3) 11); have fr22 : Fr (T_rd_readLaw ip) μ μ21 := Fr.stI fr13 (iT 0 rfl (inA_qn (Fr.ip fr13 rfl hip))); have h23 := mb_o h20; f_rd_readLaw_L36 h23 fr22 (sbc (sa_m 1 rfl) (sbc (sa_m 2 rfl) (sbc (sa_m 3 rfl) (sbc (sa_m 4 rfl) (sbc (sa_m 5 rfl) (sbc (sa_m 6 rfl) (sbc (sa_m 7 rfl) sbn))))))) rfl hip (fun  μ110 _ h112 fr113 => fo h112 (fun r117 μ114 e131 h116 => have fr118 : Fr (T_rd_readLaw ip) μ μ114 := Fr.tr (Fr.mono (f_rd_readSum (Fr.ip fr113 rfl hip) e131) (sbc (sa_m 6 rfl) (sbc (sa_m 2 rfl) (sbc (sa_m 3 rfl) (sbc (sa_m 4 rfl) (sbc (sa_m 5 rfl) (sbc (sa_m 1 rfl) (sbc (sa_m 7 rfl) sbn)))))))) fr113; fi h116 (fun h120 => fr_ret h120 fr118) (fun h121 => fo h121 (fun r125 μ122 e130 h124 => have fr126 : Fr (T_rd_readLaw ip) μ μ122 := Fr.tr (Fr.mono (f_rd_takeAsCode (Fr.ip fr118 rfl hip) e130) (sbc (sa_m 1 rfl) (sbc (sa_m 2 rfl) (sbc (sa_m 3 rfl) (sbc (sa_m 4 rfl) (sbc (sa_m 5 rfl) sbn)))))) fr118; fi h124 (fun h128 => fr_ret h128 fr126) (fun h129 => fr_ret h129 fr126))))))))))))
def T_rd_readTell (ip : Nat) : List At := [(19, some ip, none), (18, some ip, some 0), (12, none, some 0), (12, none, some 1), (12, none, some 4), (12, none, some 5), (12, none, some 6), (20, some ip, none), (18, some ip, some 1), (21, some ip, none), (22, some ip, none), (27, some ip, none), (18, some ip, some 2), (23, some ip, none), (28, some ip, none), (29, some ip, none), (26, some ip, some 4), (18, some ip, some 3), (24, some ip, none), (25, some ip, none), (18, some ip, some 11), (12, none, some 8), (17, none, none)]
theorem f_rd_readTell {μ : Mem}  {ip : Nat} (hip : mR μ 12 0 3 = ip) {z : Int32 × Mem} (h : rd_readTell  μ = some z) : Fr (T_rd_readTell ip) μ z.2 := by
  unfold rd_readTell at h
  exact fo h (fun r4 μ1 e148 h3 => have fr5 : Fr (T_rd_readTell ip) μ μ1 := Fr.tr (Fr.mono (f_rd_kind  e148) sbn) (Fr.rf (T_rd_readTell ip) μ); fi h3 (fun h7 => (fi h7 (fun h10 => fo h10 (fun r14 μ11 e18 h13 => have fr15 : Fr (T_rd_readTell ip) μ μ11 := Fr.tr (Fr.mono (f_rd_readLog (Fr.ip fr5 rfl hip) e18) (sbc (sa_m 0 rfl) (sbc (sa_m 1 rfl) (sbc (sa_m 2 rfl) (sbc (sa_m 3 rfl) (sbc (sa_m 4 rfl) (sbc (sa_m 5 rfl) (sbc (sa_m 6 rfl) sbn)))))))) fr5; (have h17 := fgv h13; fr_ret h17 fr15))) (fun h_ => (fi h_ (fun h19 => fo h19 (fun r23 μ20 e27 h22 => have fr24 : Fr (T_rd_readTell ip) μ μ20 := Fr.tr (Fr.mono (f_rd_readField (Fr.ip fr5 rfl hip) e27) (sbc (sa_m 7 rfl) (sbc (sa_m 8 rfl) (sbc (sa_m 9 rfl) (sbc (sa_m 2 rfl) (sbc (sa_m 3 rfl) (sbc (sa_m 4 rfl) (sbc (sa_m 5 rfl) (sbc (sa_m 6 rfl) sbn))))))))) fr5; (have h26 := fgv h22; fr_ret h26 fr24))) (fun h_ => (fi h_ (fun h28 => fo h28 (fun r32 μ29 e36 h31 => have fr33 : Fr (T_rd_readTell ip) μ μ29 := Fr.tr (Fr.mono (f_rd_readNotch (Fr.ip fr5 rfl hip) e36) (sbc (sa_m 10 rfl) (sbc (sa_m 11 rfl) (sbc (sa_m 12 rfl) (sbc (sa_m 2 rfl) (sbc (sa_m 3 rfl) (sbc (sa_m 4 rfl) (sbc (sa_m 5 rfl) (sbc (sa_m 6 rfl) (sbc (sa_m 13 rfl) sbn)))))))))) fr5; (have h35 := fgv h31; fr_ret h35 fr33))) (fun h_ => (fi h_ (fun h37 => fo h37 (fun r41 μ38 e45 h40 => have fr42 : Fr (T_rd_readTell ip) μ μ38 := Fr.tr (Fr.mono (f_rd_readDrain (Fr.ip fr5 rfl hip) e45) (sbc (sa_m 2 rfl) (sbc (sa_m 3 rfl) (sbc (sa_m 4 rfl) (sbc (sa_m 14 rfl) (sbc (sa_m 15 rfl) (sbc (sa_m 5 rfl) (sbc (sa_m 6 rfl) sbn)))))))) fr5; (have h44 := fgv h40; fr_ret h44 fr42))) (fun h_ => (fi h_ (fun h46 => fo h46 (fun r50 μ47 e54 h49 => have fr51 : Fr (T_rd_readTell ip) μ μ47 := Fr.tr (Fr.mono (f_rd_readSpring (Fr.ip fr5 rfl hip) e54) (sbc (sa_m 16 rfl) (sbc (sa_m 2 rfl) (sbc (sa_m 3 rfl) (sbc (sa_m 4 rfl) (sbc (sa_m 5 rfl) (sbc (sa_m 6 rfl) sbn))))))) fr5; (have h53 := fgv h49; fr_ret h53 fr51))) (fun h_ => (fi h_ (fun h55 => fo h55 (fun r59 μ56 e63 h58 => have fr60 : Fr (T_rd_readTell ip) μ μ56 := Fr.tr (Fr.mono (f_rd_readSeed (Fr.ip fr5 rfl hip) e63) (sbc (sa_m 17 rfl) (sbc (sa_m 2 rfl) (sbc (sa_m 3 rfl) (sbc (sa_m 4 rfl) sbn))))) fr5; (have h62 := fgv h58; fr_ret h62 fr60))) (fun h64 => fo h64 (fun r68 μ65 e72 h67 => have fr69 : Fr (T_rd_readTell ip) μ μ65 := Fr.tr (Fr.mono (f_rd_fail  e72) (sbc (sa_m 2 rfl) (sbc (sa_m 3 rfl) sbn))) fr5; (have h71 := fgv h67; fr_ret h71 fr69))))))))))))))) (fun h8 => fi h8 (fun h74 => (fi h74 (fun h77 => fo h77 (fun r81 μ78 e85 h80 => have fr82 : Fr (T_rd_readTell ip) μ μ78 := Fr.tr (Fr.mono (f_rd_readLog (Fr.ip fr5 rfl hip) e85) (sbc (sa_m 0 rfl) (sbc (sa_m 1 rfl) (sbc (sa_m 2 rfl) (sbc (sa_m 3 rfl) (sbc (sa_m 4 rfl) (sbc (sa_m 5 rfl) (sbc (sa_m 6 rfl) sbn)))))))) fr5; (have h84 := fgv h80; fr_ret h84 fr82))) (fun h_ => (fi h_ (fun h86 => fo h86 (fun r90 μ87 e94 h89 => have fr91 : Fr (T_rd_readTell ip) μ μ87 := Fr.tr (Fr.mono (f_rd_readField (Fr.ip fr5 rfl hip) e94) (sbc (sa_m 7 rfl) (sbc (sa_m 8 rfl) (sbc (sa_m 9 rfl) (sbc (sa_m 2 rfl) (sbc (sa_m 3 rfl) (sbc (sa_m 4 rfl) (sbc (sa_m 5 rfl) (sbc (sa_m 6 rfl) sbn))))))))) fr5; (have h93 := fgv h89; fr_ret h93 fr91))) (fun h_ => (fi h_ (fun h95 => fo h95 (fun r99 μ96 e103 h98 => have fr100 : Fr (T_rd_readTell ip) μ μ96 := Fr.tr (Fr.mono (f_rd_readNotch (Fr.ip fr5 rfl hip) e103) (sbc (sa_m 10 rfl) (sbc (sa_m 11 rfl) (sbc (sa_m 12 rfl) (sbc (sa_m 2 rfl) (sbc (sa_m 3 rfl) (sbc (sa_m 4 rfl) (sbc (sa_m 5 rfl) (sbc (sa_m 6 rfl) (sbc (sa_m 13 rfl) sbn)))))))))) fr5; (have h102 := fgv h98; fr_ret h102 fr100))) (fun h_ => (fi h_ (fun h104 => fo h104 (fun r108 μ105 e112 h107 => have fr109 : Fr (T_rd_readTell ip) μ μ105 := Fr.tr (Fr.mono (f_rd_readDrain (Fr.ip fr5 rfl hip) e112) (sbc (sa_m 2 rfl) (sbc (sa_m 3 rfl) (sbc (sa_m 4 rfl) (sbc (sa_m 14 rfl) (sbc (sa_m 15 rfl) (sbc (sa_m 5 rfl) (sbc (sa_m 6 rfl) sbn)))))))) fr5; (have h111 := fgv h107; fr_ret h111 fr109))) (fun h_ => (fi h_ (fun h113 => fo h113 (fun r117 μ114 e121 h116 => have fr118 : Fr (T_rd_readTell ip) μ μ114 := Fr.tr (Fr.mono (f_rd_readSpring (Fr.ip fr5 rfl hip) e121) (sbc (sa_m 16 rfl) (sbc (sa_m 2 rfl) (sbc (sa_m 3 rfl) (sbc (sa_m 4 rfl) (sbc (sa_m 5 rfl) (sbc (sa_m 6 rfl) sbn))))))) fr5; (have h120 := fgv h116; fr_ret h120 fr118))) (fun h_ => (fi h_ (fun h122 => fo h122 (fun r126 μ123 e130 h125 => have fr127 : Fr (T_rd_readTell ip) μ μ123 := Fr.tr (Fr.mono (f_rd_readSeed (Fr.ip fr5 rfl hip) e130) (sbc (sa_m 17 rfl) (sbc (sa_m 2 rfl) (sbc (sa_m 3 rfl) (sbc (sa_m 4 rfl) sbn))))) fr5; (have h129 := fgv h125; fr_ret h129 fr127))) (fun h131 => fo h131 (fun r135 μ132 e139 h134 => have fr136 : Fr (T_rd_readTell ip) μ μ132 := Fr.tr (Fr.mono (f_rd_fail  e139) (sbc (sa_m 2 rfl) (sbc (sa_m 3 rfl) sbn))) fr5; (have h138 := fgv h134; fr_ret h138 fr136))))))))))))))) (fun h75 => fo h75 (fun r143 μ140 e147 h142 => have fr144 : Fr (T_rd_readTell ip) μ μ140 := Fr.tr (Fr.mono (f_rd_readLaw (Fr.ip fr5 rfl hip) e147) (sbc (sa_m 18 rfl) (sbc (sa_m 4 rfl) (sbc (sa_m 2 rfl) (sbc (sa_m 3 rfl) (sbc (sa_m 19 rfl) (sbc (sa_m 20 rfl) (sbc (sa_m 21 rfl) (sbc (sa_m 22 rfl) sbn))))))))) fr5; (have h146 := fgv h142; fr_ret h146 fr144)))))
def T_to_isBlank : List At := []
theorem f_to_isBlank {μ : Mem} {x0 : Int32}  {z : Int32 × Mem} (h : to_isBlank x0 μ = some z) : Fr (T_to_isBlank) μ z.2 := by
  unfold to_isBlank at h
  exact fi h (fun h2 => fr_ret h2 (Fr.rf (T_to_isBlank) μ)) (fun h3 => fi h3 (fun h5 => fr_ret h5 (Fr.rf (T_to_isBlank) μ)) (fun h6 => fi h6 (fun h8 => fr_ret h8 (Fr.rf (T_to_isBlank) μ)) (fun h9 => fi h9 (fun h12 => fr_ret h12 (Fr.rf (T_to_isBlank) μ)) (fun h11 => fr_ret h11 (Fr.rf (T_to_isBlank) μ)))))
def T_to_isLetter : List At := []
theorem f_to_isLetter {μ : Mem} {x0 : Int32}  {z : Int32 × Mem} (h : to_isLetter x0 μ = some z) : Fr (T_to_isLetter) μ z.2 := by
  unfold to_isLetter at h
  exact fi h (fun h2 => fr_ret h2 (Fr.rf (T_to_isLetter) μ)) (fun h3 => fi h3 (fun h5 => fr_ret h5 (Fr.rf (T_to_isLetter) μ)) (fun h6 => fr_ret h6 (Fr.rf (T_to_isLetter) μ)))
def T_to_isDigit : List At := []
theorem f_to_isDigit {μ : Mem} {x0 : Int32}  {z : Int32 × Mem} (h : to_isDigit x0 μ = some z) : Fr (T_to_isDigit) μ z.2 := by
  unfold to_isDigit at h
  exact fi h (fun h2 => fr_ret h2 (Fr.rf (T_to_isDigit) μ)) (fun h3 => fi h3 (fun h5 => fr_ret h5 (Fr.rf (T_to_isDigit) μ)) (fun h6 => fr_ret h6 (Fr.rf (T_to_isDigit) μ)))
def T_j_fillL_r33_L6 (i0 : Nat) : List At := [(33, some i0, none)]
theorem f_j_fillL_r33_L6 {μ0 : Mem} {T : List At} {i0 : Nat} {x1 : Int64} {x4 : Int32}   {x3 : Int32} {μ : Mem} {z : Unit × Mem} (h : j_fillL_r33_L6 i0 x1 x4 x3 μ = some z) (fr : Fr T μ0 μ) (hT : Sb (T_j_fillL_r33_L6 i0) T)   : Fr T μ0 z.2 := by
  have key : ∀ (n : Nat), (∀ (x3 : Int32) (μ : Mem) z, fixN (fun _ _ => none) (j_fillL_r33_B6 i0 x1 x4) n x3 μ = some z → Fr T μ0 μ → Fr T μ0 z.2) := by
    intro n
    refine fixN_ind (fun (f : Int32 → Mem → Option (Unit × Mem)) => ∀ (x3 : Int32) (μ : Mem) z, f x3 μ = some z → Fr T μ0 μ → Fr T μ0 z.2) ?_ ?_ n
    · intro x3 μ z h; cases h
    · intro self hself x3 μ z h fr
      unfold j_fillL_r33_B6 at h
      exact fi h (fun h2 => fr_ret h2 fr) (fun h3 => (have h5 := fgv h3; hself _ _ _ h5 (Fr.stL fr (hT _ _ _ (iT 0 rfl inA_en)))))
  exact key 60000 _ _ _ h fr
def T_j_fillL_r33 (i0 : Nat) : List At := [(33, some i0, none)]
theorem f_j_fillL_r33 {μ : Mem} {i0 : Nat} {x1 : Int64}  {z : Unit × Mem} (h : j_fillL_r33 i0 x1 μ = some z) : Fr (T_j_fillL_r33 i0) μ z.2 := by
  unfold j_fillL_r33 at h
  exact f_j_fillL_r33_L6 h (Fr.rf (T_j_fillL_r33 i0) μ) (sbc (sa_m 0 rfl) sbn)  
def T_j_fillL_r34_L6 (i0 : Nat) : List At := [(34, some i0, none)]
theorem f_j_fillL_r34_L6 {μ0 : Mem} {T : List At} {i0 : Nat} {x1 : Int64} {x4 : Int32}   {x3 : Int32} {μ : Mem} {z : Unit × Mem} (h : j_fillL_r34_L6 i0 x1 x4 x3 μ = some z) (fr : Fr T μ0 μ) (hT : Sb (T_j_fillL_r34_L6 i0) T)   : Fr T μ0 z.2 := by
  have key : ∀ (n : Nat), (∀ (x3 : Int32) (μ : Mem) z, fixN (fun _ _ => none) (j_fillL_r34_B6 i0 x1 x4) n x3 μ = some z → Fr T μ0 μ → Fr T μ0 z.2) := by
    intro n
    refine fixN_ind (fun (f : Int32 → Mem → Option (Unit × Mem)) => ∀ (x3 : Int32) (μ : Mem) z, f x3 μ = some z → Fr T μ0 μ → Fr T μ0 z.2) ?_ ?_ n
    · intro x3 μ z h; cases h
    · intro self hself x3 μ z h fr
      unfold j_fillL_r34_B6 at h
      exact fi h (fun h2 => fr_ret h2 fr) (fun h3 => (have h5 := fgv h3; hself _ _ _ h5 (Fr.stL fr (hT _ _ _ (iT 0 rfl inA_en)))))
  exact key 60000 _ _ _ h fr
def T_j_fillL_r34 (i0 : Nat) : List At := [(34, some i0, none)]
theorem f_j_fillL_r34 {μ : Mem} {i0 : Nat} {x1 : Int64}  {z : Unit × Mem} (h : j_fillL_r34 i0 x1 μ = some z) : Fr (T_j_fillL_r34 i0) μ z.2 := by
  unfold j_fillL_r34 at h
  exact f_j_fillL_r34_L6 h (Fr.rf (T_j_fillL_r34 i0) μ) (sbc (sa_m 0 rfl) sbn)  
def T_j_fillI_r35_L5 (i0 : Nat) : List At := [(35, some i0, none)]
theorem f_j_fillI_r35_L5 {μ0 : Mem} {T : List At} {i0 : Nat} {x1 : Int32} {x3 : Int32}   {x2 : Int32} {μ : Mem} {z : Unit × Mem} (h : j_fillI_r35_L5 i0 x1 x3 x2 μ = some z) (fr : Fr T μ0 μ) (hT : Sb (T_j_fillI_r35_L5 i0) T)   : Fr T μ0 z.2 := by
  have key : ∀ (n : Nat), (∀ (x2 : Int32) (μ : Mem) z, fixN (fun _ _ => none) (j_fillI_r35_B5 i0 x1 x3) n x2 μ = some z → Fr T μ0 μ → Fr T μ0 z.2) := by
    intro n
    refine fixN_ind (fun (f : Int32 → Mem → Option (Unit × Mem)) => ∀ (x2 : Int32) (μ : Mem) z, f x2 μ = some z → Fr T μ0 μ → Fr T μ0 z.2) ?_ ?_ n
    · intro x2 μ z h; cases h
    · intro self hself x2 μ z h fr
      unfold j_fillI_r35_B5 at h
      exact fi h (fun h2 => fr_ret h2 fr) (fun h3 => (have h5 := fgv h3; hself _ _ _ h5 (Fr.stI fr (hT _ _ _ (iT 0 rfl inA_en)))))
  exact key 60000 _ _ _ h fr
def T_j_fillI_r35 (i0 : Nat) : List At := [(35, some i0, none)]
theorem f_j_fillI_r35 {μ : Mem} {i0 : Nat} {x1 : Int32}  {z : Unit × Mem} (h : j_fillI_r35 i0 x1 μ = some z) : Fr (T_j_fillI_r35 i0) μ z.2 := by
  unfold j_fillI_r35 at h
  exact f_j_fillI_r35_L5 h (Fr.rf (T_j_fillI_r35 i0) μ) (sbc (sa_m 0 rfl) sbn)  
def T_j_fillI_r36_L5 (i0 : Nat) : List At := [(36, some i0, none)]
theorem f_j_fillI_r36_L5 {μ0 : Mem} {T : List At} {i0 : Nat} {x1 : Int32} {x3 : Int32}   {x2 : Int32} {μ : Mem} {z : Unit × Mem} (h : j_fillI_r36_L5 i0 x1 x3 x2 μ = some z) (fr : Fr T μ0 μ) (hT : Sb (T_j_fillI_r36_L5 i0) T)   : Fr T μ0 z.2 := by
  have key : ∀ (n : Nat), (∀ (x2 : Int32) (μ : Mem) z, fixN (fun _ _ => none) (j_fillI_r36_B5 i0 x1 x3) n x2 μ = some z → Fr T μ0 μ → Fr T μ0 z.2) := by
    intro n
    refine fixN_ind (fun (f : Int32 → Mem → Option (Unit × Mem)) => ∀ (x2 : Int32) (μ : Mem) z, f x2 μ = some z → Fr T μ0 μ → Fr T μ0 z.2) ?_ ?_ n
    · intro x2 μ z h; cases h
    · intro self hself x2 μ z h fr
      unfold j_fillI_r36_B5 at h
      exact fi h (fun h2 => fr_ret h2 fr) (fun h3 => (have h5 := fgv h3; hself _ _ _ h5 (Fr.stI fr (hT _ _ _ (iT 0 rfl inA_en)))))
  exact key 60000 _ _ _ h fr
def T_j_fillI_r36 (i0 : Nat) : List At := [(36, some i0, none)]
theorem f_j_fillI_r36 {μ : Mem} {i0 : Nat} {x1 : Int32}  {z : Unit × Mem} (h : j_fillI_r36 i0 x1 μ = some z) : Fr (T_j_fillI_r36 i0) μ z.2 := by
  unfold j_fillI_r36 at h
  exact f_j_fillI_r36_L5 h (Fr.rf (T_j_fillI_r36 i0) μ) (sbc (sa_m 0 rfl) sbn)  
def T_j_fillI_r37_L5 (i0 : Nat) : List At := [(37, some i0, none)]
theorem f_j_fillI_r37_L5 {μ0 : Mem} {T : List At} {i0 : Nat} {x1 : Int32} {x3 : Int32}   {x2 : Int32} {μ : Mem} {z : Unit × Mem} (h : j_fillI_r37_L5 i0 x1 x3 x2 μ = some z) (fr : Fr T μ0 μ) (hT : Sb (T_j_fillI_r37_L5 i0) T)   : Fr T μ0 z.2 := by
  have key : ∀ (n : Nat), (∀ (x2 : Int32) (μ : Mem) z, fixN (fun _ _ => none) (j_fillI_r37_B5 i0 x1 x3) n x2 μ = some z → Fr T μ0 μ → Fr T μ0 z.2) := by
    intro n
    refine fixN_ind (fun (f : Int32 → Mem → Option (Unit × Mem)) => ∀ (x2 : Int32) (μ : Mem) z, f x2 μ = some z → Fr T μ0 μ → Fr T μ0 z.2) ?_ ?_ n
    · intro x2 μ z h; cases h
    · intro self hself x2 μ z h fr
      unfold j_fillI_r37_B5 at h
      exact fi h (fun h2 => fr_ret h2 fr) (fun h3 => (have h5 := fgv h3; hself _ _ _ h5 (Fr.stI fr (hT _ _ _ (iT 0 rfl inA_en)))))
  exact key 60000 _ _ _ h fr
def T_j_fillI_r37 (i0 : Nat) : List At := [(37, some i0, none)]
theorem f_j_fillI_r37 {μ : Mem} {i0 : Nat} {x1 : Int32}  {z : Unit × Mem} (h : j_fillI_r37 i0 x1 μ = some z) : Fr (T_j_fillI_r37 i0) μ z.2 := by
  unfold j_fillI_r37 at h
  exact f_j_fillI_r37_L5 h (Fr.rf (T_j_fillI_r37 i0) μ) (sbc (sa_m 0 rfl) sbn)  
def T_wa_clear_L67 (i0 : Nat) : List At := [(38, some i0, none)]
theorem f_wa_clear_L67 {μ0 : Mem} {T : List At} {i0 : Nat}   {x1 : Int32} {μ : Mem} {z : Unit × Mem} (h : wa_clear_L67 i0 x1 μ = some z) (fr : Fr T μ0 μ) (hT : Sb (T_wa_clear_L67 i0) T)   : Fr T μ0 z.2 := by
  have key : ∀ (n : Nat), (∀ (x1 : Int32) (μ : Mem) z, fixN (fun _ _ => none) (wa_clear_B67 i0) n x1 μ = some z → Fr T μ0 μ → Fr T μ0 z.2) := by
    intro n
    refine fixN_ind (fun (f : Int32 → Mem → Option (Unit × Mem)) => ∀ (x1 : Int32) (μ : Mem) z, f x1 μ = some z → Fr T μ0 μ → Fr T μ0 z.2) ?_ ?_ n
    · intro x1 μ z h; cases h
    · intro self hself x1 μ z h fr
      unfold wa_clear_B67 at h
      exact fi h (fun h33 => fr_ret h33 fr) (fun h34 => (have h36 := fgv h34; hself _ _ _ h36 (Fr.stI fr (hT _ _ _ (iT 0 rfl inA_en)))))
  exact key 60000 _ _ _ h fr
def T_wa_clear (i0 : Nat) : List At := [(32, some i0, some 0), (32, some i0, some 1), (32, some i0, some 2), (32, some i0, some 3), (32, some i0, some 4), (38, some i0, none), (37, some i0, none), (36, some i0, none), (35, some i0, none), (34, some i0, none), (33, some i0, none)]
theorem f_wa_clear {μ : Mem} {i0 : Nat}  {z : Unit × Mem} (h : wa_clear i0 μ = some z) : Fr (T_wa_clear i0) μ z.2 := by
  unfold wa_clear at h
  exact (let μ1 : Mem := stL (stI μ 32 i0 0 (nI 0)) 32 i0 1 (1 : Int64); have fr2 : Fr (T_wa_clear i0) μ μ1 := Fr.stL (Fr.stI (Fr.rf (T_wa_clear i0) μ) (iT 0 rfl inA_es)) (iT 1 rfl inA_es); have h3 := mb_o h; (let μ4 : Mem := stL (stL μ1 32 i0 2 (0 : Int64)) 32 i0 3 (0 : Int64); have fr5 : Fr (T_wa_clear i0) μ μ4 := Fr.stL (Fr.stL fr2 (iT 2 rfl inA_es)) (iT 3 rfl inA_es); have h6 := mb_o h3; fo h6 (fun _ μ7 e41 h9 => have fr11 : Fr (T_wa_clear i0) μ μ7 := Fr.tr (Fr.mono (f_j_fillL_r33  e41) (sbc (sa_m 10 rfl) sbn)) (Fr.stL fr5 (iT 4 rfl inA_es)); fo h9 (fun _ μ12 e40 h14 => have fr16 : Fr (T_wa_clear i0) μ μ12 := Fr.tr (Fr.mono (f_j_fillL_r34  e40) (sbc (sa_m 9 rfl) sbn)) fr11; fo h14 (fun _ μ17 e39 h19 => have fr21 : Fr (T_wa_clear i0) μ μ17 := Fr.tr (Fr.mono (f_j_fillI_r35  e39) (sbc (sa_m 8 rfl) sbn)) fr16; fo h19 (fun _ μ22 e38 h24 => have fr26 : Fr (T_wa_clear i0) μ μ22 := Fr.tr (Fr.mono (f_j_fillI_r36  e38) (sbc (sa_m 7 rfl) sbn)) fr21; fo h24 (fun _ μ27 e37 h29 => have fr31 : Fr (T_wa_clear i0) μ μ27 := Fr.tr (Fr.mono (f_j_fillI_r37  e37) (sbc (sa_m 6 rfl) sbn)) fr26; f_wa_clear_L67 h29 fr31 (sbc (sa_m 5 rfl) sbn)  )))))))
def T_wa_partLogs_L2 (i0 : Nat) (i1 : Nat) (i2 : Nat) : List At := [(36, some i0, none), (37, some i0, none)]
theorem f_wa_partLogs_L2 {μ0 : Mem} {T : List At} {i0 : Nat} {i1 : Nat} {i2 : Nat}  {k67 : Mem → Option (Unit × Mem)} {x3 : Int32} {μ : Mem} {z : Unit × Mem} (h : wa_partLogs_L2 i0 i1 i2 k67 x3 μ = some z) (fr : Fr T μ0 μ) (hT : Sb (T_wa_partLogs_L2 i0 i1 i2) T)  (hk67 : ∀  (μ : Mem) z, k67  μ = some z → Fr T μ0 μ → Fr T μ0 z.2) : Fr T μ0 z.2 := by
  have key : ∀ (n : Nat), (∀ (x3 : Int32) (μ : Mem) z, fixN (fun _ _ => none) (wa_partLogs_B2 i0 i1 i2 k67) n x3 μ = some z → Fr T μ0 μ → Fr T μ0 z.2) := by
    intro n
    refine fixN_ind (fun (f : Int32 → Mem → Option (Unit × Mem)) => ∀ (x3 : Int32) (μ : Mem) z, f x3 μ = some z → Fr T μ0 μ → Fr T μ0 z.2) ?_ ?_ n
    · intro x3 μ z h; cases h
    · intro self hself x3 μ z h fr
      unfold wa_partLogs_B2 at h
      exact fi h (fun h2 => hk67 _ _ h2 fr) (fun h3 => (have h5 := fgv h3; (have h7 := fgv h5; (let μ8 : Mem := stI μ 36 i0 (cl (mI μ 22 i1 (cl x3))) ((mI μ 36 i0 (cl (mI μ 22 i1 (cl x3)))) + (mI μ 27 i2 (cl x3))); have fr9 : Fr T μ0 μ8 := Fr.stI fr (hT _ _ _ (iT 0 rfl inA_en)); have h10 := mb_o h7; fi h10 (fun h13 => (let μ14 : Mem := stI μ8 37 i0 (cl (mI μ 22 i1 (cl x3))) ((mI μ8 37 i0 (cl (mI μ 22 i1 (cl x3)))) + (mI μ8 27 i2 (cl x3))); have fr15 : Fr T μ0 μ14 := Fr.stI fr9 (hT _ _ _ (iT 1 rfl inA_en)); have h16 := mb_o h13; hself _ _ _ h16 fr15)) (fun h12 => hself _ _ _ h12 fr9)))))
  exact key 60000 _ _ _ h fr
def T_wa_partLogs_L69 (i0 : Nat) (i1 : Nat) : List At := [(36, some i0, none), (37, some i0, none)]
theorem f_wa_partLogs_L69 {μ0 : Mem} {T : List At} {i0 : Nat} {i1 : Nat}   {x3 : Int32} {μ : Mem} {z : Unit × Mem} (h : wa_partLogs_L69 i0 i1 x3 μ = some z) (fr : Fr T μ0 μ) (hT : Sb (T_wa_partLogs_L69 i0 i1) T)   : Fr T μ0 z.2 := by
  have key : ∀ (n : Nat), (∀ (x3 : Int32) (μ : Mem) z, fixN (fun _ _ => none) (wa_partLogs_B69 i0 i1) n x3 μ = some z → Fr T μ0 μ → Fr T μ0 z.2) := by
    intro n
    refine fixN_ind (fun (f : Int32 → Mem → Option (Unit × Mem)) => ∀ (x3 : Int32) (μ : Mem) z, f x3 μ = some z → Fr T μ0 μ → Fr T μ0 z.2) ?_ ?_ n
    · intro x3 μ z h; cases h
    · intro self hself x3 μ z h fr
      unfold wa_partLogs_B69 at h
      exact fi h (fun h22 => fr_ret h22 fr) (fun h23 => (have h25 := fgv h23; fi h25 (fun h28 => (let μ29 : Mem := stI (stI μ 36 i0 (cl x3) (nI 1)) 37 i0 (cl x3) (nI 1); have fr30 : Fr T μ0 μ29 := Fr.stI (Fr.stI fr (hT _ _ _ (iT 0 rfl inA_en))) (hT _ _ _ (iT 1 rfl inA_en)); have h31 := mb_o h28; hself _ _ _ h31 fr30)) (fun h27 => hself _ _ _ h27 fr)))
  exact key 60000 _ _ _ h fr
def T_wa_partLogs (i0 : Nat) (i1 : Nat) (i2 : Nat) : List At := [(36, some i0, none), (37, some i0, none)]
theorem f_wa_partLogs {μ : Mem} {i0 : Nat} {i1 : Nat} {i2 : Nat}  {z : Unit × Mem} (h : wa_partLogs i0 i1 i2 μ = some z) : Fr (T_wa_partLogs i0 i1 i2) μ z.2 := by
  unfold wa_partLogs at h
  exact f_wa_partLogs_L2 h (Fr.rf (T_wa_partLogs i0 i1 i2) μ) (sbc (sa_m 0 rfl) (sbc (sa_m 1 rfl) sbn))  (fun  μ17 _ h19 fr20 => f_wa_partLogs_L69 h19 fr20 (sbc (sa_m 0 rfl) (sbc (sa_m 1 rfl) sbn))  )
def T_wa_nextLog (i0 : Nat) (i1 : Nat) : List At := []
theorem f_wa_nextLog {μ : Mem} {i0 : Nat} {i1 : Nat} {x2 : Int32}  {z : Int32 × Mem} (h : wa_nextLog i0 i1 x2 μ = some z) : Fr (T_wa_nextLog i0 i1) μ z.2 := by
  unfold wa_nextLog at h
  exact (have h2 := fgv h; fi h2 (fun h4 => fi h4 (fun h7 => fr_ret h7 (Fr.rf (T_wa_nextLog i0 i1) μ)) (fun h8 => (have h10 := fgv h8; fi h10 (fun h13 => fr_ret h13 (Fr.rf (T_wa_nextLog i0 i1) μ)) (fun h12 => fr_ret h12 (Fr.rf (T_wa_nextLog i0 i1) μ))))) (fun h5 => fr_ret h5 (Fr.rf (T_wa_nextLog i0 i1) μ)))
def T_wa_reachLogs_L20 (i0 : Nat) (i1 : Nat) (i2 : Nat) : List At := [(38, some i0, none)]
theorem f_wa_reachLogs_L20 {μ0 : Mem} {T : List At} {i0 : Nat} {i1 : Nat} {i2 : Nat} {x3 : Int32}  {k86 : Mem → Option (Unit × Mem)} {x4 : Int32} {μ : Mem} {z : Unit × Mem} (h : wa_reachLogs_L20 i0 i1 i2 x3 k86 x4 μ = some z) (fr : Fr T μ0 μ) (hT : Sb (T_wa_reachLogs_L20 i0 i1 i2) T)  (hk86 : ∀  (μ : Mem) z, k86  μ = some z → Fr T μ0 μ → Fr T μ0 z.2) : Fr T μ0 z.2 := by
  have key : ∀ (n : Nat), (∀ (x4 : Int32) (μ : Mem) z, fixN (fun _ _ => none) (wa_reachLogs_B20 i0 i1 i2 x3 k86) n x4 μ = some z → Fr T μ0 μ → Fr T μ0 z.2) := by
    intro n
    refine fixN_ind (fun (f : Int32 → Mem → Option (Unit × Mem)) => ∀ (x4 : Int32) (μ : Mem) z, f x4 μ = some z → Fr T μ0 μ → Fr T μ0 z.2) ?_ ?_ n
    · intro x4 μ z h; cases h
    · intro self hself x4 μ z h fr
      unfold wa_reachLogs_B20 at h
      exact fi h (fun h5 => hk86 _ _ h5 fr) (fun h6 => (have h8 := fgv h6; fi h8 (fun h10 => hself _ _ _ h10 fr) (fun h11 => (have h13 := fgv h11; fi h13 (fun h16 => hself _ _ _ h16 fr) (fun h15 => fo h15 (fun r20 μ17 e27 h19 => have fr21 : Fr T μ0 μ17 := Fr.tr (Fr.mono (f_wa_nextLog  e27) (sbt sbn hT)) fr; fi h19 (fun h23 => hself _ _ _ h23 fr21) (fun h24 => (have h26 := fgv h24; hself _ _ _ h26 (Fr.stI fr21 (hT _ _ _ (iT 0 rfl inA_en)))))))))))
  exact key 60000 _ _ _ h fr
def T_wa_reachLogs_L9 (i0 : Nat) (i1 : Nat) (i2 : Nat) : List At := [(38, some i0, none)]
theorem f_wa_reachLogs_L9 {μ0 : Mem} {T : List At} {i0 : Nat} {i1 : Nat} {i2 : Nat}   {x3 : Int32} {μ : Mem} {z : Unit × Mem} (h : wa_reachLogs_L9 i0 i1 i2 x3 μ = some z) (fr : Fr T μ0 μ) (hT : Sb (T_wa_reachLogs_L9 i0 i1 i2) T)   : Fr T μ0 z.2 := by
  have key : ∀ (n : Nat), (∀ (x3 : Int32) (μ : Mem) z, fixN (fun _ _ => none) (wa_reachLogs_B9 i0 i1 i2) n x3 μ = some z → Fr T μ0 μ → Fr T μ0 z.2) := by
    intro n
    refine fixN_ind (fun (f : Int32 → Mem → Option (Unit × Mem)) => ∀ (x3 : Int32) (μ : Mem) z, f x3 μ = some z → Fr T μ0 μ → Fr T μ0 z.2) ?_ ?_ n
    · intro x3 μ z h; cases h
    · intro self hself x3 μ z h fr
      unfold wa_reachLogs_B9 at h
      exact fi h (fun h2 => fr_ret h2 fr) (fun h3 => f_wa_reachLogs_L20 h3 fr (sbt (sbc (sa_m 0 rfl) sbn) hT)  (fun  μ28 _ h30 fr31 => hself _ _ _ h30 fr31))
  exact key 60000 _ _ _ h fr
def T_wa_reachLogs (i0 : Nat) (i1 : Nat) (i2 : Nat) : List At := [(38, some i0, none)]
theorem f_wa_reachLogs {μ : Mem} {i0 : Nat} {i1 : Nat} {i2 : Nat}  {z : Unit × Mem} (h : wa_reachLogs i0 i1 i2 μ = some z) : Fr (T_wa_reachLogs i0 i1 i2) μ z.2 := by
  unfold wa_reachLogs at h
  exact f_wa_reachLogs_L9 h (Fr.stI (Fr.rf (T_wa_reachLogs i0 i1 i2) μ) (iT 0 rfl inA_en)) (sbc (sa_m 0 rfl) sbn)  
def T_wa_openLogs_L2 (i0 : Nat) (i1 : Nat) (i2 : Nat) : List At := [(39, some i0, none)]
theorem f_wa_openLogs_L2 {μ0 : Mem} {T : List At} {i0 : Nat} {i1 : Nat} {i2 : Nat}  {k36 : Mem → Option (Unit × Mem)} {x3 : Int32} {μ : Mem} {z : Unit × Mem} (h : wa_openLogs_L2 i0 i1 i2 k36 x3 μ = some z) (fr : Fr T μ0 μ) (hT : Sb (T_wa_openLogs_L2 i0 i1 i2) T)  (hk36 : ∀  (μ : Mem) z, k36  μ = some z → Fr T μ0 μ → Fr T μ0 z.2) : Fr T μ0 z.2 := by
  have key : ∀ (n : Nat), (∀ (x3 : Int32) (μ : Mem) z, fixN (fun _ _ => none) (wa_openLogs_B2 i0 i1 i2 k36) n x3 μ = some z → Fr T μ0 μ → Fr T μ0 z.2) := by
    intro n
    refine fixN_ind (fun (f : Int32 → Mem → Option (Unit × Mem)) => ∀ (x3 : Int32) (μ : Mem) z, f x3 μ = some z → Fr T μ0 μ → Fr T μ0 z.2) ?_ ?_ n
    · intro x3 μ z h; cases h
    · intro self hself x3 μ z h fr
      unfold wa_openLogs_B2 at h
      exact fi h (fun h2 => hk36 _ _ h2 fr) (fun h3 => (have h5 := fgv h3; fi h5 (fun h7 => hself _ _ _ h7 (Fr.stI fr (hT _ _ _ (iT 0 rfl inA_en)))) (fun h8 => hself _ _ _ h8 (Fr.stI fr (hT _ _ _ (iT 0 rfl inA_en))))))
  exact key 60000 _ _ _ h fr
def T_wa_openLogs_L49 (i0 : Nat) (i1 : Nat) (i2 : Nat) : List At := [(39, some i0, none)]
theorem f_wa_openLogs_L49 {μ0 : Mem} {T : List At} {i0 : Nat} {i1 : Nat} {i2 : Nat} {x3 : Int32}  {k113 : Mem → Option (Unit × Mem)} {x4 : Int32} {μ : Mem} {z : Unit × Mem} (h : wa_openLogs_L49 i0 i1 i2 x3 k113 x4 μ = some z) (fr : Fr T μ0 μ) (hT : Sb (T_wa_openLogs_L49 i0 i1 i2) T)  (hk113 : ∀  (μ : Mem) z, k113  μ = some z → Fr T μ0 μ → Fr T μ0 z.2) : Fr T μ0 z.2 := by
  have key : ∀ (n : Nat), (∀ (x4 : Int32) (μ : Mem) z, fixN (fun _ _ => none) (wa_openLogs_B49 i0 i1 i2 x3 k113) n x4 μ = some z → Fr T μ0 μ → Fr T μ0 z.2) := by
    intro n
    refine fixN_ind (fun (f : Int32 → Mem → Option (Unit × Mem)) => ∀ (x4 : Int32) (μ : Mem) z, f x4 μ = some z → Fr T μ0 μ → Fr T μ0 z.2) ?_ ?_ n
    · intro x4 μ z h; cases h
    · intro self hself x4 μ z h fr
      unfold wa_openLogs_B49 at h
      exact fi h (fun h17 => hk113 _ _ h17 fr) (fun h18 => (have h20 := fgv h18; fi h20 (fun h22 => hself _ _ _ h22 fr) (fun h23 => fi h23 (fun h25 => (have h28 := fgv h25; (let μ29 : Mem := stI μ 39 i0 (cl (mI μ 22 i1 (cl x4))) ((nI 1) &&& 1); have fr30 : Fr T μ0 μ29 := Fr.stI fr (hT _ _ _ (iT 0 rfl inA_en)); have h31 := mb_o h28; hself _ _ _ h31 fr30))) (fun h26 => (have h33 := fgv h26; fi h33 (fun h35 => hself _ _ _ h35 fr) (fun h36 => (have h38 := fgv h36; (let μ39 : Mem := stI μ 39 i0 (cl (mI μ 22 i1 (cl x4))) ((nI 1) &&& 1); have fr40 : Fr T μ0 μ39 := Fr.stI fr (hT _ _ _ (iT 0 rfl inA_en)); have h41 := mb_o h38; hself _ _ _ h41 fr40))))))))
  exact key 60000 _ _ _ h fr
def T_wa_openLogs_L38 (i0 : Nat) (i1 : Nat) (i2 : Nat) : List At := [(39, some i0, none)]
theorem f_wa_openLogs_L38 {μ0 : Mem} {T : List At} {i0 : Nat} {i1 : Nat} {i2 : Nat}   {x3 : Int32} {μ : Mem} {z : Unit × Mem} (h : wa_openLogs_L38 i0 i1 i2 x3 μ = some z) (fr : Fr T μ0 μ) (hT : Sb (T_wa_openLogs_L38 i0 i1 i2) T)   : Fr T μ0 z.2 := by
  have key : ∀ (n : Nat), (∀ (x3 : Int32) (μ : Mem) z, fixN (fun _ _ => none) (wa_openLogs_B38 i0 i1 i2) n x3 μ = some z → Fr T μ0 μ → Fr T μ0 z.2) := by
    intro n
    refine fixN_ind (fun (f : Int32 → Mem → Option (Unit × Mem)) => ∀ (x3 : Int32) (μ : Mem) z, f x3 μ = some z → Fr T μ0 μ → Fr T μ0 z.2) ?_ ?_ n
    · intro x3 μ z h; cases h
    · intro self hself x3 μ z h fr
      unfold wa_openLogs_B38 at h
      exact fi h (fun h14 => fr_ret h14 fr) (fun h15 => f_wa_openLogs_L49 h15 fr (sbt (sbc (sa_m 0 rfl) sbn) hT)  (fun  μ42 _ h44 fr45 => hself _ _ _ h44 fr45))
  exact key 60000 _ _ _ h fr
def T_wa_openLogs (i0 : Nat) (i1 : Nat) (i2 : Nat) : List At := [(39, some i0, none)]
theorem f_wa_openLogs {μ : Mem} {i0 : Nat} {i1 : Nat} {i2 : Nat}  {z : Unit × Mem} (h : wa_openLogs i0 i1 i2 μ = some z) : Fr (T_wa_openLogs i0 i1 i2) μ z.2 := by
  unfold wa_openLogs at h
  exact f_wa_openLogs_L2 h (Fr.rf (T_wa_openLogs i0 i1 i2) μ) (sbc (sa_m 0 rfl) sbn)  (fun  μ9 _ h11 fr12 => f_wa_openLogs_L38 h11 fr12 (sbc (sa_m 0 rfl) sbn)  )
def T_wa_reachesClosedLog_L2 (i0 : Nat) : List At := []
theorem f_wa_reachesClosedLog_L2 {μ0 : Mem} {T : List At} {i0 : Nat} {x1 : Int32}   {x2 : Int32} {μ : Mem} {z : Int32 × Mem} (h : wa_reachesClosedLog_L2 i0 x1 x2 μ = some z) (fr : Fr T μ0 μ) (hT : Sb (T_wa_reachesClosedLog_L2 i0) T)   : Fr T μ0 z.2 := by
  have key : ∀ (n : Nat), (∀ (x2 : Int32) (μ : Mem) z, fixN (fun _ _ => none) (wa_reachesClosedLog_B2 i0 x1) n x2 μ = some z → Fr T μ0 μ → Fr T μ0 z.2) := by
    intro n
    refine fixN_ind (fun (f : Int32 → Mem → Option (Int32 × Mem)) => ∀ (x2 : Int32) (μ : Mem) z, f x2 μ = some z → Fr T μ0 μ → Fr T μ0 z.2) ?_ ?_ n
    · intro x2 μ z h; cases h
    · intro self hself x2 μ z h fr
      unfold wa_reachesClosedLog_B2 at h
      exact fi h (fun h2 => fr_ret h2 fr) (fun h3 => (have h5 := fgv h3; fi h5 (fun h7 => hself _ _ _ h7 fr) (fun h8 => fi h8 (fun h11 => fr_ret h11 fr) (fun h10 => hself _ _ _ h10 fr))))
  exact key 60000 _ _ _ h fr
def T_wa_reachesClosedLog (i0 : Nat) : List At := []
theorem f_wa_reachesClosedLog {μ : Mem} {i0 : Nat} {x1 : Int32}  {z : Int32 × Mem} (h : wa_reachesClosedLog i0 x1 μ = some z) : Fr (T_wa_reachesClosedLog i0) μ z.2 := by
  unfold wa_reachesClosedLog at h
  exact f_wa_reachesClosedLog_L2 h (Fr.rf (T_wa_reachesClosedLog i0) μ) sbn  
def T_j_fillL_r41_L6 (i0 : Nat) : List At := [(41, some i0, none)]
theorem f_j_fillL_r41_L6 {μ0 : Mem} {T : List At} {i0 : Nat} {x1 : Int64} {x4 : Int32}   {x3 : Int32} {μ : Mem} {z : Unit × Mem} (h : j_fillL_r41_L6 i0 x1 x4 x3 μ = some z) (fr : Fr T μ0 μ) (hT : Sb (T_j_fillL_r41_L6 i0) T)   : Fr T μ0 z.2 := by
  have key : ∀ (n : Nat), (∀ (x3 : Int32) (μ : Mem) z, fixN (fun _ _ => none) (j_fillL_r41_B6 i0 x1 x4) n x3 μ = some z → Fr T μ0 μ → Fr T μ0 z.2) := by
    intro n
    refine fixN_ind (fun (f : Int32 → Mem → Option (Unit × Mem)) => ∀ (x3 : Int32) (μ : Mem) z, f x3 μ = some z → Fr T μ0 μ → Fr T μ0 z.2) ?_ ?_ n
    · intro x3 μ z h; cases h
    · intro self hself x3 μ z h fr
      unfold j_fillL_r41_B6 at h
      exact fi h (fun h2 => fr_ret h2 fr) (fun h3 => (have h5 := fgv h3; hself _ _ _ h5 (Fr.stL fr (hT _ _ _ (iT 0 rfl inA_en)))))
  exact key 60000 _ _ _ h fr
def T_j_fillL_r41 (i0 : Nat) : List At := [(41, some i0, none)]
theorem f_j_fillL_r41 {μ : Mem} {i0 : Nat} {x1 : Int64}  {z : Unit × Mem} (h : j_fillL_r41 i0 x1 μ = some z) : Fr (T_j_fillL_r41 i0) μ z.2 := by
  unfold j_fillL_r41 at h
  exact f_j_fillL_r41_L6 h (Fr.rf (T_j_fillL_r41 i0) μ) (sbc (sa_m 0 rfl) sbn)  
def T_wa_makeRows_L2 (i0 : Nat) (i1 : Nat) (i2 : Nat) : List At := [(41, none, none)]
theorem f_wa_makeRows_L2 {μ0 : Mem} {T : List At} {i0 : Nat} {i1 : Nat} {i2 : Nat}  {k56 : Mem → Option (Unit × Mem)} {x3 : Int32} {μ : Mem} {z : Unit × Mem} (h : wa_makeRows_L2 i0 i1 i2 k56 x3 μ = some z) (fr : Fr T μ0 μ) (hT : Sb (T_wa_makeRows_L2 i0 i1 i2) T)  (hk56 : ∀  (μ : Mem) z, k56  μ = some z → Fr T μ0 μ → Fr T μ0 z.2) : Fr T μ0 z.2 := by
  have key : ∀ (n : Nat), (∀ (x3 : Int32) (μ : Mem) z, fixN (fun _ _ => none) (wa_makeRows_B2 i0 i1 i2 k56) n x3 μ = some z → Fr T μ0 μ → Fr T μ0 z.2) := by
    intro n
    refine fixN_ind (fun (f : Int32 → Mem → Option (Unit × Mem)) => ∀ (x3 : Int32) (μ : Mem) z, f x3 μ = some z → Fr T μ0 μ → Fr T μ0 z.2) ?_ ?_ n
    · intro x3 μ z h; cases h
    · intro self hself x3 μ z h fr
      unfold wa_makeRows_B2 at h
      exact fi h (fun h2 => hk56 _ _ h2 fr) (fun h3 => (have h5 := fgv h3; fo h5 (fun _ μ6 e24 h8 => have fr10 : Fr T μ0 μ6 := Fr.tr (Fr.mono (f_j_fillL_r41  e24) (sbt (sbc (sa_r 0 rfl) sbn) hT)) fr; fi h8 (fun h12 => (have h15 := fgv h12; (let μ16 : Mem := stL μ6 41 (4 * i0 + (cl x3)) (cl x3) (1 : Int64); have fr17 : Fr T μ0 μ16 := Fr.stL fr10 (hT _ _ _ (iT 0 rfl inA_nn)); have h18 := mb_o h15; hself _ _ _ h18 fr17))) (fun h13 => (have h20 := fgv h13; (let μ21 : Mem := stL μ6 41 (4 * i0 + (cl x3)) (cl x3) (Int32.toInt64 ((nI 4) * (mI μ6 36 i0 (cl x3)))); have fr22 : Fr T μ0 μ21 := Fr.stL fr10 (hT _ _ _ (iT 0 rfl inA_nn)); have h23 := mb_o h20; hself _ _ _ h23 fr22))))))
  exact key 60000 _ _ _ h fr
def T_wa_makeRows_L73 (i0 : Nat) (i1 : Nat) (i2 : Nat) : List At := [(41, none, none)]
theorem f_wa_makeRows_L73 {μ0 : Mem} {T : List At} {i0 : Nat} {i1 : Nat} {i2 : Nat}   {x3 : Int32} {μ : Mem} {z : Unit × Mem} (h : wa_makeRows_L73 i0 i1 i2 x3 μ = some z) (fr : Fr T μ0 μ) (hT : Sb (T_wa_makeRows_L73 i0 i1 i2) T)   : Fr T μ0 z.2 := by
  have key : ∀ (n : Nat), (∀ (x3 : Int32) (μ : Mem) z, fixN (fun _ _ => none) (wa_makeRows_B73 i0 i1 i2) n x3 μ = some z → Fr T μ0 μ → Fr T μ0 z.2) := by
    intro n
    refine fixN_ind (fun (f : Int32 → Mem → Option (Unit × Mem)) => ∀ (x3 : Int32) (μ : Mem) z, f x3 μ = some z → Fr T μ0 μ → Fr T μ0 z.2) ?_ ?_ n
    · intro x3 μ z h; cases h
    · intro self hself x3 μ z h fr
      unfold wa_makeRows_B73 at h
      exact fi h (fun h33 => fr_ret h33 fr) (fun h34 => (have h36 := fgv h34; fo h36 (fun r40 μ37 e74 h39 => have fr41 : Fr T μ0 μ37 := Fr.tr (Fr.mono (f_wa_nextLog  e74) (sbt sbn hT)) fr; (have h43 := fgv h39; fi h43 (fun h45 => hself _ _ _ h45 fr41) (fun h46 => fi h46 (fun h48 => hself _ _ _ h48 fr41) (fun h49 => fi h49 (fun h52 => hself _ _ _ h52 fr41) (fun h51 => fi h51 (fun h54 => (have h57 := fgv h54; (let v58 : Int32 := (mI μ37 29 i2 (cl ((mI μ37 23 i1 (cl x3)) - (nI 10)))); have h59 := vb_o h57; ((have h61 := fgv h59; (have h63 := fgv h61; (let μ64 : Mem := stL μ37 41 (4 * i0 + (cl r40)) (cl (mI μ 22 i1 (cl x3))) ((mL μ37 41 (4 * i0 + (cl r40)) (cl (mI μ 22 i1 (cl x3)))) - (Int32.toInt64 (v58 * (mI μ37 27 i2 (cl x3))))); have fr65 : Fr T μ0 μ64 := Fr.stL fr41 (hT _ _ _ (iT 0 rfl inA_nn)); have h66 := mb_o h63; hself _ _ _ h66 fr65))))))) (fun h55 => (have h68 := fgv h55; (have h70 := fgv h68; (let μ71 : Mem := stL μ37 41 (4 * i0 + (cl r40)) (cl (mI μ 22 i1 (cl x3))) ((mL μ37 41 (4 * i0 + (cl r40)) (cl (mI μ 22 i1 (cl x3)))) - (Int32.toInt64 ((nI 4) * (mI μ37 27 i2 (cl x3))))); have fr72 : Fr T μ0 μ71 := Fr.stL fr41 (hT _ _ _ (iT 0 rfl inA_nn)); have h73 := mb_o h70; hself _ _ _ h73 fr72)))))))))))
  exact key 60000 _ _ _ h fr
def T_wa_makeRows (i0 : Nat) (i1 : Nat) (i2 : Nat) : List At := [(41, none, none)]
theorem f_wa_makeRows {μ : Mem} {i0 : Nat} {i1 : Nat} {i2 : Nat}  {z : Unit × Mem} (h : wa_makeRows i0 i1 i2 μ = some z) : Fr (T_wa_makeRows i0 i1 i2) μ z.2 := by
  unfold wa_makeRows at h
  exact f_wa_makeRows_L2 h (Fr.rf (T_wa_makeRows i0 i1 i2) μ) (sbc (sa_m 0 rfl) sbn)  (fun  μ25 _ h27 fr28 => (let μ29 : Mem := stL μ25 41 (4 * i0 + 0) 4 (Int32.toInt64 ((nI 4) * (mI μ25 26 i2 4))); have fr30 : Fr (T_wa_makeRows i0 i1 i2) μ μ29 := Fr.stL fr28 (iT 0 rfl inA_nn); have h31 := mb_o h27; f_wa_makeRows_L73 h31 fr30 (sbc (sa_m 0 rfl) sbn)  ))
def T_wa_reduceRow_L30 (i0 : Nat) : List At := [(41, none, none)]
theorem f_wa_reduceRow_L30 {μ0 : Mem} {T : List At} {i0 : Nat} {x1 : Int32} {x2 : Int32} {x3 : Int64} {x5 : Int64} {x7 : Int64}   {x9 : Int32} {μ : Mem} {z : Unit × Mem} (h : wa_reduceRow_L30 i0 x1 x2 x3 x5 x7 x9 μ = some z) (fr : Fr T μ0 μ) (hT : Sb (T_wa_reduceRow_L30 i0) T)   : Fr T μ0 z.2 := by
  have key : ∀ (n : Nat), (∀ (x9 : Int32) (μ : Mem) z, fixN (fun _ _ => none) (wa_reduceRow_B30 i0 x1 x2 x3 x5 x7) n x9 μ = some z → Fr T μ0 μ → Fr T μ0 z.2) := by
    intro n
    refine fixN_ind (fun (f : Int32 → Mem → Option (Unit × Mem)) => ∀ (x9 : Int32) (μ : Mem) z, f x9 μ = some z → Fr T μ0 μ → Fr T μ0 z.2) ?_ ?_ n
    · intro x9 μ z h; cases h
    · intro self hself x9 μ z h fr
      unfold wa_reduceRow_B30 at h
      exact fi h (fun h11 => fr_ret h11 fr) (fun h12 => (have h14 := fgv h12; (have h16 := fgv h14; (have h18 := fgv h16; (have h20 := fgv h18; (let μ21 : Mem := stL μ 41 (4 * i0 + (cl x1)) (cl x9) (((x5 * (mL μ 41 (4 * i0 + (cl x1)) (cl x9))) - (x7 * (mL μ 41 (4 * i0 + (cl x2)) (cl x9)))) / x3); have fr22 : Fr T μ0 μ21 := Fr.stL fr (hT _ _ _ (iT 0 rfl inA_nn)); have h23 := mb_o h20; hself _ _ _ h23 fr22))))))
  exact key 60000 _ _ _ h fr
def T_wa_reduceRow (i0 : Nat) : List At := [(41, none, none)]
theorem f_wa_reduceRow {μ : Mem} {i0 : Nat} {x1 : Int32} {x2 : Int32} {x3 : Int64}  {z : Unit × Mem} (h : wa_reduceRow i0 x1 x2 x3 μ = some z) : Fr (T_wa_reduceRow i0) μ z.2 := by
  unfold wa_reduceRow at h
  exact fi h (fun h3 => fr_ret h3 (Fr.rf (T_wa_reduceRow i0) μ)) (fun h2 => (have h5 := fgv h2; (have h7 := fgv h5; (have h9 := fgv h7; f_wa_reduceRow_L30 h9 (Fr.rf (T_wa_reduceRow i0) μ) (sbc (sa_m 0 rfl) sbn)  ))))
def T_wa_solveRows_L34 (i0 : Nat) : List At := [(41, none, none)]
theorem f_wa_solveRows_L34 {μ0 : Mem} {T : List At} {i0 : Nat} {x1 : Int32} {x2 : Int64} {x4 : Int32} {x5 : Int64}  {k62 : Mem → Option (Unit × Mem)} {x7 : Int32} {μ : Mem} {z : Unit × Mem} (h : wa_solveRows_L34 i0 x1 x2 x4 x5 k62 x7 μ = some z) (fr : Fr T μ0 μ) (hT : Sb (T_wa_solveRows_L34 i0) T)  (hk62 : ∀  (μ : Mem) z, k62  μ = some z → Fr T μ0 μ → Fr T μ0 z.2) : Fr T μ0 z.2 := by
  have key : ∀ (n : Nat), (∀ (x7 : Int32) (μ : Mem) z, fixN (fun _ _ => none) (wa_solveRows_B34 i0 x1 x2 x4 x5 k62) n x7 μ = some z → Fr T μ0 μ → Fr T μ0 z.2) := by
    intro n
    refine fixN_ind (fun (f : Int32 → Mem → Option (Unit × Mem)) => ∀ (x7 : Int32) (μ : Mem) z, f x7 μ = some z → Fr T μ0 μ → Fr T μ0 z.2) ?_ ?_ n
    · intro x7 μ z h; cases h
    · intro self hself x7 μ z h fr
      unfold wa_solveRows_B34 at h
      exact fi h (fun h12 => hk62 _ _ h12 fr) (fun h13 => fi h13 (fun h15 => hself _ _ _ h15 fr) (fun h16 => fo h16 (fun _ μ17 e22 h19 => have fr21 : Fr T μ0 μ17 := Fr.tr (Fr.mono (f_wa_reduceRow  e22) (sbt (sbc (sa_m 0 rfl) sbn) hT)) fr; hself _ _ _ h19 fr21)))
  exact key 60000 _ _ _ h fr
def T_wa_solveRows_L5 (i0 : Nat) : List At := [(32, some i0, some 1), (41, none, none)]
theorem f_wa_solveRows_L5 {μ0 : Mem} {T : List At} {i0 : Nat} {x1 : Int32}   {x2 : Int64} {x4 : Int32} {μ : Mem} {z : Unit × Mem} (h : wa_solveRows_L5 i0 x1 x2 x4 μ = some z) (fr : Fr T μ0 μ) (hT : Sb (T_wa_solveRows_L5 i0) T)   : Fr T μ0 z.2 := by
  have key : ∀ (n : Nat), (∀ (x2 : Int64) (x4 : Int32) (μ : Mem) z, fixN (fun _ _ _ => none) (wa_solveRows_B5 i0 x1) n x2 x4 μ = some z → Fr T μ0 μ → Fr T μ0 z.2) := by
    intro n
    refine fixN_ind (fun (f : Int64 → Int32 → Mem → Option (Unit × Mem)) => ∀ (x2 : Int64) (x4 : Int32) (μ : Mem) z, f x2 x4 μ = some z → Fr T μ0 μ → Fr T μ0 z.2) ?_ ?_ n
    · intro x2 x4 μ z h; cases h
    · intro self hself x2 x4 μ z h fr
      unfold wa_solveRows_B5 at h
      exact fi h (fun h2 => fr_ret h2 (Fr.stL fr (hT _ _ _ (iT 0 rfl inA_es)))) (fun h3 => (have h5 := fgv h3; (have h7 := fgv h5; fi h7 (fun h10 => fr_ret h10 fr) (fun h9 => f_wa_solveRows_L34 h9 fr (sbt (sbc (sa_m 1 rfl) sbn) hT)  (fun  μ23 _ h25 fr26 => hself _ _ _ _ h25 fr26)))))
  exact key 60000 _ _ _ _ h fr
def T_wa_solveRows (i0 : Nat) : List At := [(32, some i0, some 1), (41, none, none)]
theorem f_wa_solveRows {μ : Mem} {i0 : Nat} {x1 : Int32}  {z : Unit × Mem} (h : wa_solveRows i0 x1 μ = some z) : Fr (T_wa_solveRows i0) μ z.2 := by
  unfold wa_solveRows at h
  exact f_wa_solveRows_L5 h (Fr.rf (T_wa_solveRows i0) μ) (sbc (sa_m 0 rfl) (sbc (sa_m 1 rfl) sbn))  
def T_wa_hundredfold : List At := []
theorem f_wa_hundredfold {μ : Mem} {x0 : Int64} {x2 : Int64}  {z : Int32 × Mem} (h : wa_hundredfold x0 x2 μ = some z) : Fr (T_wa_hundredfold) μ z.2 := by
  unfold wa_hundredfold at h
  exact fi h (fun h3 => fr_ret h3 (Fr.rf (T_wa_hundredfold) μ)) (fun h2 => (have h5 := fgv h2; fr_ret h5 (Fr.rf (T_wa_hundredfold) μ)))
def T_wa_shareOut_L2 (i0 : Nat) (i1 : Nat) (i2 : Nat) : List At := [(33, some i0, none), (32, some i0, some 2)]
theorem f_wa_shareOut_L2 {μ0 : Mem} {T : List At} {i0 : Nat} {i1 : Nat} {i2 : Nat}  {k63 : Mem → Option (Unit × Mem)} {x3 : Int32} {μ : Mem} {z : Unit × Mem} (h : wa_shareOut_L2 i0 i1 i2 k63 x3 μ = some z) (fr : Fr T μ0 μ) (hT : Sb (T_wa_shareOut_L2 i0 i1 i2) T)  (hk63 : ∀  (μ : Mem) z, k63  μ = some z → Fr T μ0 μ → Fr T μ0 z.2) : Fr T μ0 z.2 := by
  have key : ∀ (n : Nat), (∀ (x3 : Int32) (μ : Mem) z, fixN (fun _ _ => none) (wa_shareOut_B2 i0 i1 i2 k63) n x3 μ = some z → Fr T μ0 μ → Fr T μ0 z.2) := by
    intro n
    refine fixN_ind (fun (f : Int32 → Mem → Option (Unit × Mem)) => ∀ (x3 : Int32) (μ : Mem) z, f x3 μ = some z → Fr T μ0 μ → Fr T μ0 z.2) ?_ ?_ n
    · intro x3 μ z h; cases h
    · intro self hself x3 μ z h fr
      unfold wa_shareOut_B2 at h
      exact fi h (fun h2 => hk63 _ _ h2 fr) (fun h3 => (have h5 := fgv h3; (let μ6 : Mem := stL μ 33 i0 (cl x3) ((Int32.toInt64 (mI μ 36 i0 (cl x3))) * (mL μ 41 (4 * i0 + (cl x3)) 4)); have fr7 : Fr T μ0 μ6 := Fr.stL fr (hT _ _ _ (iT 0 rfl inA_en)); have h8 := mb_o h5; (let μ9 : Mem := stL μ6 32 i0 2 ((mL μ6 32 i0 2) + ((Int32.toInt64 (mI μ6 37 i0 (cl x3))) * (mL μ6 41 (4 * i0 + (cl x3)) 4))); have fr10 : Fr T μ0 μ9 := Fr.stL fr7 (hT _ _ _ (iT 1 rfl inA_es)); have h11 := mb_o h8; hself _ _ _ h11 fr10))))
  exact key 60000 _ _ _ h fr
def T_wa_shareOut_L65 (i0 : Nat) (i1 : Nat) (i2 : Nat) : List At := [(34, some i0, none)]
theorem f_wa_shareOut_L65 {μ0 : Mem} {T : List At} {i0 : Nat} {i1 : Nat} {i2 : Nat}  {k135 : Mem → Option (Unit × Mem)} {x3 : Int32} {μ : Mem} {z : Unit × Mem} (h : wa_shareOut_L65 i0 i1 i2 k135 x3 μ = some z) (fr : Fr T μ0 μ) (hT : Sb (T_wa_shareOut_L65 i0 i1 i2) T)  (hk135 : ∀  (μ : Mem) z, k135  μ = some z → Fr T μ0 μ → Fr T μ0 z.2) : Fr T μ0 z.2 := by
  have key : ∀ (n : Nat), (∀ (x3 : Int32) (μ : Mem) z, fixN (fun _ _ => none) (wa_shareOut_B65 i0 i1 i2 k135) n x3 μ = some z → Fr T μ0 μ → Fr T μ0 z.2) := by
    intro n
    refine fixN_ind (fun (f : Int32 → Mem → Option (Unit × Mem)) => ∀ (x3 : Int32) (μ : Mem) z, f x3 μ = some z → Fr T μ0 μ → Fr T μ0 z.2) ?_ ?_ n
    · intro x3 μ z h; cases h
    · intro self hself x3 μ z h fr
      unfold wa_shareOut_B65 at h
      exact fi h (fun h17 => hk135 _ _ h17 fr) (fun h18 => (have h20 := fgv h18; fi h20 (fun h22 => hself _ _ _ h22 fr) (fun h23 => fi h23 (fun h25 => hself _ _ _ h25 fr) (fun h26 => (have h28 := fgv h26; (have h30 := fgv h28; (let μ31 : Mem := stL μ 34 i0 (cl ((mI μ 23 i1 (cl x3)) - (nI 10))) ((mL μ 34 i0 (cl ((mI μ 23 i1 (cl x3)) - (nI 10)))) + ((Int32.toInt64 (mI μ 27 i2 (cl x3))) * (mL μ 41 (4 * i0 + (cl (mI μ 22 i1 (cl x3)))) 4))); have fr32 : Fr T μ0 μ31 := Fr.stL fr (hT _ _ _ (iT 0 rfl inA_en)); have h33 := mb_o h30; hself _ _ _ h33 fr32)))))))
  exact key 60000 _ _ _ h fr
def T_wa_shareOut_L137 (i0 : Nat) (i1 : Nat) (i2 : Nat) : List At := [(35, some i0, none), (32, some i0, some 4), (32, some i0, some 3)]
theorem f_wa_shareOut_L137 {μ0 : Mem} {T : List At} {i0 : Nat} {i1 : Nat} {i2 : Nat}   {x3 : Int32} {μ : Mem} {z : Unit × Mem} (h : wa_shareOut_L137 i0 i1 i2 x3 μ = some z) (fr : Fr T μ0 μ) (hT : Sb (T_wa_shareOut_L137 i0 i1 i2) T)   : Fr T μ0 z.2 := by
  have key : ∀ (n : Nat), (∀ (x3 : Int32) (μ : Mem) z, fixN (fun _ _ => none) (wa_shareOut_B137 i0 i1 i2) n x3 μ = some z → Fr T μ0 μ → Fr T μ0 z.2) := by
    intro n
    refine fixN_ind (fun (f : Int32 → Mem → Option (Unit × Mem)) => ∀ (x3 : Int32) (μ : Mem) z, f x3 μ = some z → Fr T μ0 μ → Fr T μ0 z.2) ?_ ?_ n
    · intro x3 μ z h; cases h
    · intro self hself x3 μ z h fr
      unfold wa_shareOut_B137 at h
      exact fi h (fun h39 => fr_ret h39 fr) (fun h40 => (have h42 := fgv h40; fo h42 (fun r46 μ43 e54 h45 => have fr47 : Fr T μ0 μ43 := Fr.tr (Fr.mono (f_wa_hundredfold  e54) (sbt sbn hT)) fr; (let μ48 : Mem := stL (stI μ43 35 i0 (cl x3) r46) 32 i0 4 ((mL (stI μ43 35 i0 (cl x3) r46) 32 i0 4) + ((Int32.toInt64 (mI (stI μ43 35 i0 (cl x3) r46) 29 i2 (cl x3))) * (mL (stI μ43 35 i0 (cl x3) r46) 34 i0 (cl x3)))); have fr49 : Fr T μ0 μ48 := Fr.stL (Fr.stI fr47 (hT _ _ _ (iT 0 rfl inA_en))) (hT _ _ _ (iT 1 rfl inA_es)); have h50 := mb_o h45; (let μ51 : Mem := stL μ48 32 i0 3 ((mL μ48 32 i0 3) + ((Int32.toInt64 ((nI 4) - (mI μ48 29 i2 (cl x3)))) * (mL μ48 34 i0 (cl x3)))); have fr52 : Fr T μ0 μ51 := Fr.stL fr49 (hT _ _ _ (iT 2 rfl inA_es)); have h53 := mb_o h50; hself _ _ _ h53 fr52)))))
  exact key 60000 _ _ _ h fr
def T_wa_shareOut (i0 : Nat) (i1 : Nat) (i2 : Nat) : List At := [(35, some i0, none), (32, some i0, some 4), (32, some i0, some 3), (34, some i0, none), (33, some i0, none), (32, some i0, some 2)]
theorem f_wa_shareOut {μ : Mem} {i0 : Nat} {i1 : Nat} {i2 : Nat}  {z : Unit × Mem} (h : wa_shareOut i0 i1 i2 μ = some z) : Fr (T_wa_shareOut i0 i1 i2) μ z.2 := by
  unfold wa_shareOut at h
  exact f_wa_shareOut_L2 h (Fr.rf (T_wa_shareOut i0 i1 i2) μ) (sbc (sa_m 4 rfl) (sbc (sa_m 5 rfl) sbn))  (fun  μ12 _ h14 fr15 => f_wa_shareOut_L65 h14 fr15 (sbc (sa_m 3 rfl) sbn)  (fun  μ34 _ h36 fr37 => f_wa_shareOut_L137 h36 fr37 (sbc (sa_m 0 rfl) (sbc (sa_m 1 rfl) (sbc (sa_m 2 rfl) sbn)))  ))
def T_wa_solve (i0 : Nat) (i1 : Nat) (i2 : Nat) : List At := [(32, some i0, some 0), (35, some i0, none), (32, some i0, some 4), (32, some i0, some 3), (34, some i0, none), (33, some i0, none), (32, some i0, some 2), (32, some i0, some 1), (41, none, none), (39, some i0, none), (38, some i0, none), (36, some i0, none), (37, some i0, none)]
theorem f_wa_solve {μ : Mem} {i0 : Nat} {i1 : Nat} {i2 : Nat}  {z : Unit × Mem} (h : wa_solve i0 i1 i2 μ = some z) : Fr (T_wa_solve i0 i1 i2) μ z.2 := by
  unfold wa_solve at h
  exact fo h (fun _ μ1 e62 h3 => have fr5 : Fr (T_wa_solve i0 i1 i2) μ μ1 := Fr.tr (Fr.mono (f_wa_clear  e62) (sbc (sa_m 0 rfl) (sbc (sa_m 7 rfl) (sbc (sa_m 6 rfl) (sbc (sa_m 3 rfl) (sbc (sa_m 2 rfl) (sbc (sa_m 10 rfl) (sbc (sa_m 12 rfl) (sbc (sa_m 11 rfl) (sbc (sa_m 1 rfl) (sbc (sa_m 4 rfl) (sbc (sa_m 5 rfl) sbn)))))))))))) (Fr.rf (T_wa_solve i0 i1 i2) μ); fi h3 (fun h8 => (let μ59 : Mem := stL μ1 32 i0 2 (Int32.toInt64 (mI μ1 26 i2 4)); have fr60 : Fr (T_wa_solve i0 i1 i2) μ μ59 := Fr.stL fr5 (iT 6 rfl inA_es); have h61 := mb_o h8; fr_ret h61 fr60)) (fun h7 => fo h7 (fun _ μ9 e58 h11 => have fr13 : Fr (T_wa_solve i0 i1 i2) μ μ9 := Fr.tr (Fr.mono (f_wa_partLogs  e58) (sbc (sa_m 11 rfl) (sbc (sa_m 12 rfl) sbn))) fr5; fo h11 (fun _ μ14 e57 h16 => have fr18 : Fr (T_wa_solve i0 i1 i2) μ μ14 := Fr.tr (Fr.mono (f_wa_reachLogs  e57) (sbc (sa_m 10 rfl) sbn)) fr13; fo h16 (fun _ μ19 e56 h21 => have fr23 : Fr (T_wa_solve i0 i1 i2) μ μ19 := Fr.tr (Fr.mono (f_wa_openLogs  e56) (sbc (sa_m 9 rfl) sbn)) fr18; fo h21 (fun r27 μ24 e55 h26 => have fr28 : Fr (T_wa_solve i0 i1 i2) μ μ24 := Fr.tr (Fr.mono (f_wa_reachesClosedLog  e55) sbn) fr23; (have h30 := fgv h26; fi h30 (fun h32 => fo h32 (fun _ μ34 e51 h36 => have fr38 : Fr (T_wa_solve i0 i1 i2) μ μ34 := Fr.tr (Fr.mono (f_wa_makeRows  e51) (sbc (sa_m 8 rfl) sbn)) (Fr.stI fr28 (iT 0 rfl inA_es)); fo h36 (fun _ μ39 e50 h41 => have fr43 : Fr (T_wa_solve i0 i1 i2) μ μ39 := Fr.tr (Fr.mono (f_wa_solveRows  e50) (sbc (sa_m 7 rfl) (sbc (sa_m 8 rfl) sbn))) fr38; fo h41 (fun _ μ44 e49 h46 => have fr48 : Fr (T_wa_solve i0 i1 i2) μ μ44 := Fr.tr (Fr.mono (f_wa_shareOut  e49) (sbc (sa_m 1 rfl) (sbc (sa_m 2 rfl) (sbc (sa_m 3 rfl) (sbc (sa_m 4 rfl) (sbc (sa_m 5 rfl) (sbc (sa_m 6 rfl) sbn))))))) fr43; fr_ret h46 fr48)))) (fun h33 => (let μ52 : Mem := stL (stI μ24 32 i0 0 r27) 32 i0 1 (0 : Int64); have fr53 : Fr (T_wa_solve i0 i1 i2) μ μ52 := Fr.stL (Fr.stI fr28 (iT 0 rfl inA_es)) (iT 7 rfl inA_es); have h54 := mb_o h33; fr_ret h54 fr53)))))))))
def T_wo_settle (i0 : Nat) : List At := [(32, some i0, some 0), (35, some i0, none), (32, some i0, some 4), (32, some i0, some 3), (34, some i0, none), (33, some i0, none), (32, some i0, some 2), (32, some i0, some 1), (41, none, none), (39, some i0, none), (38, some i0, none), (36, some i0, none), (37, some i0, none)]
theorem f_wo_settle {μ : Mem} {i0 : Nat}  {z : Unit × Mem} (h : wo_settle i0 μ = some z) : Fr (T_wo_settle i0) μ z.2 := by
  unfold wo_settle at h
  exact (have h2 := fgv h; fo h2 (fun _ μ3 e8 h5 => have fr7 : Fr (T_wo_settle i0) μ μ3 := Fr.tr (Fr.mono (f_wa_solve  e8) (sbc (sa_m 0 rfl) (sbc (sa_m 1 rfl) (sbc (sa_m 2 rfl) (sbc (sa_m 3 rfl) (sbc (sa_m 4 rfl) (sbc (sa_m 5 rfl) (sbc (sa_m 6 rfl) (sbc (sa_m 7 rfl) (sbc (sa_m 8 rfl) (sbc (sa_m 9 rfl) (sbc (sa_m 10 rfl) (sbc (sa_m 11 rfl) (sbc (sa_m 12 rfl) sbn)))))))))))))) (Fr.rf (T_wo_settle i0) μ); fr_ret h5 fr7))
def T_wo_widthsOf_L4 (i0 : Nat) : List At := []
theorem f_wo_widthsOf_L4 {μ0 : Mem} {T : List At} {i0 : Nat} {x1 : Int32}   {x2 : Int32} {x3 : Int32} {μ : Mem} {z : Int32 × Mem} (h : wo_widthsOf_L4 i0 x1 x2 x3 μ = some z) (fr : Fr T μ0 μ) (hT : Sb (T_wo_widthsOf_L4 i0) T)   : Fr T μ0 z.2 := by
  have key : ∀ (n : Nat), (∀ (x2 : Int32) (x3 : Int32) (μ : Mem) z, fixN (fun _ _ _ => none) (wo_widthsOf_B4 i0 x1) n x2 x3 μ = some z → Fr T μ0 μ → Fr T μ0 z.2) := by
    intro n
    refine fixN_ind (fun (f : Int32 → Int32 → Mem → Option (Int32 × Mem)) => ∀ (x2 : Int32) (x3 : Int32) (μ : Mem) z, f x2 x3 μ = some z → Fr T μ0 μ → Fr T μ0 z.2) ?_ ?_ n
    · intro x2 x3 μ z h; cases h
    · intro self hself x2 x3 μ z h fr
      unfold wo_widthsOf_B4 at h
      exact (have h2 := fgv h; fi h2 (fun h4 => fr_ret h4 fr) (fun h5 => (have h7 := fgv h5; fi h7 (fun h10 => hself _ _ _ _ h10 fr) (fun h9 => hself _ _ _ _ h9 fr))))
  exact key 60000 _ _ _ _ h fr
def T_wo_widthsOf (i0 : Nat) : List At := []
theorem f_wo_widthsOf {μ : Mem} {i0 : Nat} {x1 : Int32}  {z : Int32 × Mem} (h : wo_widthsOf i0 x1 μ = some z) : Fr (T_wo_widthsOf i0) μ z.2 := by
  unfold wo_widthsOf at h
  exact f_wo_widthsOf_L4 h (Fr.rf (T_wo_widthsOf i0) μ) sbn  
def T_wo_widthsTo_L4 (i0 : Nat) : List At := []
theorem f_wo_widthsTo_L4 {μ0 : Mem} {T : List At} {i0 : Nat} {x1 : Int32}   {x2 : Int32} {x3 : Int32} {μ : Mem} {z : Int32 × Mem} (h : wo_widthsTo_L4 i0 x1 x2 x3 μ = some z) (fr : Fr T μ0 μ) (hT : Sb (T_wo_widthsTo_L4 i0) T)   : Fr T μ0 z.2 := by
  have key : ∀ (n : Nat), (∀ (x2 : Int32) (x3 : Int32) (μ : Mem) z, fixN (fun _ _ _ => none) (wo_widthsTo_B4 i0 x1) n x2 x3 μ = some z → Fr T μ0 μ → Fr T μ0 z.2) := by
    intro n
    refine fixN_ind (fun (f : Int32 → Int32 → Mem → Option (Int32 × Mem)) => ∀ (x2 : Int32) (x3 : Int32) (μ : Mem) z, f x2 x3 μ = some z → Fr T μ0 μ → Fr T μ0 z.2) ?_ ?_ n
    · intro x2 x3 μ z h; cases h
    · intro self hself x2 x3 μ z h fr
      unfold wo_widthsTo_B4 at h
      exact (have h2 := fgv h; fi h2 (fun h4 => fr_ret h4 fr) (fun h5 => (have h7 := fgv h5; fi h7 (fun h10 => hself _ _ _ _ h10 fr) (fun h9 => hself _ _ _ _ h9 fr))))
  exact key 60000 _ _ _ _ h fr
def T_wo_widthsTo (i0 : Nat) : List At := []
theorem f_wo_widthsTo {μ : Mem} {i0 : Nat} {x1 : Int32}  {z : Int32 × Mem} (h : wo_widthsTo i0 x1 μ = some z) : Fr (T_wo_widthsTo i0) μ z.2 := by
  unfold wo_widthsTo at h
  exact f_wo_widthsTo_L4 h (Fr.rf (T_wo_widthsTo i0) μ) sbn  
def T_wo_drainTarget (i0 : Nat) : List At := []
theorem f_wo_drainTarget {μ : Mem} {i0 : Nat} {x1 : Int32}  {z : Int32 × Mem} (h : wo_drainTarget i0 x1 μ = some z) : Fr (T_wo_drainTarget i0) μ z.2 := by
  unfold wo_drainTarget at h
  exact (have h2 := fgv h; fi h2 (fun h4 => fr_ret h4 (Fr.rf (T_wo_drainTarget i0) μ)) (fun h5 => fr_ret h5 (Fr.rf (T_wo_drainTarget i0) μ)))
def T_wo_canStep (i0 : Nat) : List At := []
theorem f_wo_canStep {μ : Mem} {i0 : Nat} {x1 : Int32}  {z : Int32 × Mem} (h : wo_canStep i0 x1 μ = some z) : Fr (T_wo_canStep i0) μ z.2 := by
  unfold wo_canStep at h
  exact fi h (fun h2 => fr_ret h2 (Fr.rf (T_wo_canStep i0) μ)) (fun h3 => (have h5 := fgv h3; fi h5 (fun h7 => (have h10 := fgv h7; fi h10 (fun h13 => fi h13 (fun h18 => fr_ret h18 (Fr.rf (T_wo_canStep i0) μ)) (fun h19 => fr_ret h19 (Fr.rf (T_wo_canStep i0) μ))) (fun h12 => fi h12 (fun h15 => fr_ret h15 (Fr.rf (T_wo_canStep i0) μ)) (fun h16 => fr_ret h16 (Fr.rf (T_wo_canStep i0) μ))))) (fun h8 => fr_ret h8 (Fr.rf (T_wo_canStep i0) μ))))
def T_wo_doStep (i0 : Nat) : List At := [(27, some (i0 + 2), none)]
theorem f_wo_doStep {μ : Mem} {i0 : Nat} {x1 : Int32}  {z : Unit × Mem} (h : wo_doStep i0 x1 μ = some z) : Fr (T_wo_doStep i0) μ z.2 := by
  unfold wo_doStep at h
  exact (have h2 := fgv h; fi h2 (fun h5 => (let μ9 : Mem := stI μ 27 (i0 + 2) (cl (x1 / (nI 2))) ((mI μ 27 (i0 + 2) (cl (x1 / (nI 2)))) + (nI 1)); have fr10 : Fr (T_wo_doStep i0) μ μ9 := Fr.stI (Fr.rf (T_wo_doStep i0) μ) (iT 0 rfl inA_en); have h11 := mb_o h5; fr_ret h11 fr10)) (fun h4 => (let μ6 : Mem := stI μ 27 (i0 + 2) (cl (x1 / (nI 2))) ((mI μ 27 (i0 + 2) (cl (x1 / (nI 2)))) + (-1 : Int32)); have fr7 : Fr (T_wo_doStep i0) μ μ6 := Fr.stI (Fr.rf (T_wo_doStep i0) μ) (iT 0 rfl inA_en); have h8 := mb_o h4; fr_ret h8 fr7)))
def T_wo_lookAround (i0 : Nat) : List At := [(42, some i0, none)]
theorem f_wo_lookAround {μ : Mem} {i0 : Nat} {x1 : Int32}  {z : Unit × Mem} (h : wo_lookAround i0 x1 μ = some z) : Fr (T_wo_lookAround i0) μ z.2 := by
  unfold wo_lookAround at h
  exact (let μ1 : Mem := stI (stI μ 42 i0 4 (mI μ 26 (i0 + 2) 5)) 42 i0 5 x1; have fr2 : Fr (T_wo_lookAround i0) μ μ1 := Fr.stI (Fr.stI (Fr.rf (T_wo_lookAround i0) μ) (iT 0 rfl inA_en)) (iT 0 rfl inA_en); have h3 := mb_o h; (have h5 := fgv h3; (let μ6 : Mem := stI μ1 42 i0 7 (mI μ1 18 (mR μ1 31 i0 0) 0); have fr7 : Fr (T_wo_lookAround i0) μ μ6 := Fr.stI fr2 (iT 0 rfl inA_en); have h8 := mb_o h5; (have h10 := fgv h8; (let μ11 : Mem := stI μ6 42 i0 8 (mI μ6 18 (mR μ6 31 i0 0) 1); have fr12 : Fr (T_wo_lookAround i0) μ μ11 := Fr.stI fr7 (iT 0 rfl inA_en); have h13 := mb_o h10; fr_ret h13 fr12)))))
def T_wo_lookAtField (i0 : Nat) : List At := [(42, some i0, none)]
theorem f_wo_lookAtField {μ : Mem} {i0 : Nat} {x1 : Int32}  {z : Unit × Mem} (h : wo_lookAtField i0 x1 μ = some z) : Fr (T_wo_lookAtField i0) μ z.2 := by
  unfold wo_lookAtField at h
  exact (have h2 := fgv h; (have h4 := fgv h2; (let μ5 : Mem := stI (stI μ 42 i0 0 (mI μ 35 i0 (cl x1))) 42 i0 1 (mI (stI μ 42 i0 0 (mI μ 35 i0 (cl x1))) 21 (mR (stI μ 42 i0 0 (mI μ 35 i0 (cl x1))) 31 i0 0) (cl x1)); have fr6 : Fr (T_wo_lookAtField i0) μ μ5 := Fr.stI (Fr.stI (Fr.rf (T_wo_lookAtField i0) μ) (iT 0 rfl inA_en)) (iT 0 rfl inA_en); have h7 := mb_o h4; fo h7 (fun r11 μ8 e25 h10 => have fr12 : Fr (T_wo_lookAtField i0) μ μ8 := Fr.tr (Fr.mono (f_wo_widthsTo  e25) sbn) fr6; (let μ13 : Mem := stI (stI μ8 42 i0 2 r11) 42 i0 3 (mI (stI μ8 42 i0 2 r11) 30 (i0 + 2) (cl x1)); have fr14 : Fr (T_wo_lookAtField i0) μ μ13 := Fr.stI (Fr.stI fr12 (iT 0 rfl inA_en)) (iT 0 rfl inA_en); have h15 := mb_o h10; (let μ16 : Mem := stI μ13 42 i0 6 (mI μ13 29 (i0 + 2) (cl x1)); have fr17 : Fr (T_wo_lookAtField i0) μ μ16 := Fr.stI fr14 (iT 0 rfl inA_en); have h18 := mb_o h15; fo h18 (fun _ μ19 e24 h21 => have fr23 : Fr (T_wo_lookAtField i0) μ μ19 := Fr.tr (Fr.mono (f_wo_lookAround  e24) (sbc (sa_m 0 rfl) sbn)) fr17; fr_ret h21 fr23)))))))
def T_wo_joined : List At := []
theorem f_wo_joined {μ : Mem} {x0 : Int32} {x1 : Int32} {x2 : Int32}  {z : Int32 × Mem} (h : wo_joined x0 x1 x2 μ = some z) : Fr (T_wo_joined) μ z.2 := by
  unfold wo_joined at h
  exact (fi h (fun h2 => fr_ret h2 (Fr.rf (T_wo_joined) μ)) (fun h_ => (fi h_ (fun h3 => fr_ret h3 (Fr.rf (T_wo_joined) μ)) (fun h_ => (fi h_ (fun h4 => fr_ret h4 (Fr.rf (T_wo_joined) μ)) (fun h5 => fi h5 (fun h8 => fr_ret h8 (Fr.rf (T_wo_joined) μ)) (fun h7 => (have h10 := fgv h7; fr_ret h10 (Fr.rf (T_wo_joined) μ)))))))))
def T_j_max : List At := []
theorem f_j_max {μ : Mem} {x0 : Int32} {x1 : Int32}  {z : Int32 × Mem} (h : j_max x0 x1 μ = some z) : Fr (T_j_max) μ z.2 := by
  unfold j_max at h
  exact fi h (fun h2 => fr_ret h2 (Fr.rf (T_j_max) μ)) (fun h3 => fr_ret h3 (Fr.rf (T_j_max) μ))
def T_wo_valueOf_L12 (i0 : Nat) : List At := [(43, some i0, none)]
theorem f_wo_valueOf_L12 {μ0 : Mem} {T : List At} {i0 : Nat}  {k94 : Int32 → Mem → Option (Int32 × Mem)} {x2 : Int32} {x3 : Int32} {μ : Mem} {z : Int32 × Mem} (h : wo_valueOf_L12 i0 k94 x2 x3 μ = some z) (fr : Fr T μ0 μ) (hT : Sb (T_wo_valueOf_L12 i0) T)  (hk94 : ∀ (x2 : Int32) (μ : Mem) z, k94 x2 μ = some z → Fr T μ0 μ → Fr T μ0 z.2) : Fr T μ0 z.2 := by
  have key : ∀ (n : Nat), (∀ (x2 : Int32) (x3 : Int32) (μ : Mem) z, fixN (fun _ _ _ => none) (wo_valueOf_B12 i0 k94) n x2 x3 μ = some z → Fr T μ0 μ → Fr T μ0 z.2) := by
    intro n
    refine fixN_ind (fun (f : Int32 → Int32 → Mem → Option (Int32 × Mem)) => ∀ (x2 : Int32) (x3 : Int32) (μ : Mem) z, f x2 x3 μ = some z → Fr T μ0 μ → Fr T μ0 z.2) ?_ ?_ n
    · intro x2 x3 μ z h; cases h
    · intro self hself x2 x3 μ z h fr
      unfold wo_valueOf_B12 at h
      exact (have h6 := fgv h; fi h6 (fun h8 => fr_ret h8 fr) (fun h9 => (have h11 := fgv h9; fi h11 (fun h13 => fi h13 (fun h16 => hk94 _ _ _ h16 fr) (fun h17 => fi h17 (fun h20 => hk94 _ _ _ h20 fr) (fun h19 => fi h19 (fun h22 => fi h22 (fun h26 => (have h62 := fgv h26; (have h64 := fgv h62; fi h64 (fun h66 => fo h66 (fun r71 μ68 e79 h70 => have fr72 : Fr T μ0 μ68 := Fr.tr (Fr.mono (f_pl_elseBehind  e79) (sbt sbn hT)) fr; fo h70 (fun r76 μ73 e78 h75 => have fr77 : Fr T μ0 μ73 := Fr.tr (Fr.mono (f_j_max  e78) (sbt sbn hT)) fr72; hself _ _ _ _ h75 fr77))) (fun h67 => hself _ _ _ _ h67 fr)))) (fun h25 => fi h25 (fun h29 => (have h44 := fgv h29; fi h44 (fun h47 => fr_ret h47 fr) (fun h46 => (have h49 := fgv h46; (have h51 := fgv h49; fo h51 (fun r55 μ52 e60 h54 => have fr56 : Fr T μ0 μ52 := Fr.tr (Fr.mono (f_wo_joined  e60) (sbt sbn hT)) fr; (let μ57 : Mem := stI μ52 43 i0 (cl ((x2 + (-1 : Int32)) - (nI 1))) r55; have fr58 : Fr T μ0 μ57 := Fr.stI fr56 (hT _ _ _ (iT 0 rfl inA_en)); have h59 := mb_o h54; hself _ _ _ _ h59 fr58))))))) (fun h28 => (have h31 := fgv h28; (have h33 := fgv h31; fo h33 (fun r37 μ34 e42 h36 => have fr38 : Fr T μ0 μ34 := Fr.tr (Fr.mono (f_wo_joined  e42) (sbt sbn hT)) fr; (let μ39 : Mem := stI μ34 43 i0 (cl ((x2 + (-1 : Int32)) - (nI 1))) r37; have fr40 : Fr T μ0 μ39 := Fr.stI fr38 (hT _ _ _ (iT 0 rfl inA_en)); have h41 := mb_o h36; hself _ _ _ _ h41 fr40))))))) (fun h23 => fr_ret h23 fr)))) (fun h14 => fi h14 (fun h81 => (have h84 := fgv h81; (have h86 := fgv h84; (let μ87 : Mem := stI μ 43 i0 (cl x2) (mI μ 42 i0 (cl ((mI μ 25 (mR μ 31 i0 0) (cl x3)) - (nI 10000)))); have fr88 : Fr T μ0 μ87 := Fr.stI fr (hT _ _ _ (iT 0 rfl inA_en)); have h89 := mb_o h86; hself _ _ _ _ h89 fr88)))) (fun h82 => (have h91 := fgv h82; (let μ92 : Mem := stI μ 43 i0 (cl x2) (mI μ 25 (mR μ 31 i0 0) (cl x3)); have fr93 : Fr T μ0 μ92 := Fr.stI fr (hT _ _ _ (iT 0 rfl inA_en)); have h94 := mb_o h91; hself _ _ _ _ h94 fr93)))))))
  exact key 60000 _ _ _ _ h fr
def T_wo_valueOf (i0 : Nat) : List At := [(43, some i0, none)]
theorem f_wo_valueOf {μ : Mem} {i0 : Nat} {x1 : Int32}  {z : Int32 × Mem} (h : wo_valueOf i0 x1 μ = some z) : Fr (T_wo_valueOf i0) μ z.2 := by
  unfold wo_valueOf at h
  exact (have h2 := fgv h; (have h4 := fgv h2; f_wo_valueOf_L12 h4 (Fr.rf (T_wo_valueOf i0) μ) (sbc (sa_m 0 rfl) sbn)  (fun x95 μ96 _ h98 fr99 => fi h98 (fun h101 => fr_ret h101 fr99) (fun h102 => (have h104 := fgv h102; fr_ret h104 fr99)))))
def T_wo_heldTo : List At := []
theorem f_wo_heldTo {μ : Mem} {x0 : Int32} {x1 : Int32}  {z : Int32 × Mem} (h : wo_heldTo x0 x1 μ = some z) : Fr (T_wo_heldTo) μ z.2 := by
  unfold wo_heldTo at h
  exact fo h (fun r4 μ1 e12 h3 => have fr5 : Fr (T_wo_heldTo) μ μ1 := Fr.tr (Fr.mono (f_j_min  e12) sbn) (Fr.rf (T_wo_heldTo) μ); fo h3 (fun r9 μ6 e11 h8 => have fr10 : Fr (T_wo_heldTo) μ μ6 := Fr.tr (Fr.mono (f_j_max  e11) sbn) fr5; fr_ret h8 fr10))
def T_wo_needsOf (i0 : Nat) : List At := [(43, some i0, none), (42, some i0, none)]
theorem f_wo_needsOf {μ : Mem} {i0 : Nat} {x1 : Int32}  {z : Int32 × Mem} (h : wo_needsOf i0 x1 μ = some z) : Fr (T_wo_needsOf i0) μ z.2 := by
  unfold wo_needsOf at h
  exact fo h (fun _ μ1 e18 h3 => have fr5 : Fr (T_wo_needsOf i0) μ μ1 := Fr.tr (Fr.mono (f_wo_lookAtField  e18) (sbc (sa_m 1 rfl) sbn)) (Fr.rf (T_wo_needsOf i0) μ); fo h3 (fun r9 μ6 e17 h8 => have fr10 : Fr (T_wo_needsOf i0) μ μ6 := Fr.tr (Fr.mono (f_wo_valueOf  e17) (sbc (sa_m 0 rfl) sbn)) fr5; fo h8 (fun r14 μ11 e16 h13 => have fr15 : Fr (T_wo_needsOf i0) μ μ11 := Fr.tr (Fr.mono (f_wo_heldTo  e16) sbn) fr10; fr_ret h13 fr15)))
def T_wo_worthOf (i0 : Nat) : List At := [(43, some i0, none), (42, some i0, none)]
theorem f_wo_worthOf {μ : Mem} {i0 : Nat} {x1 : Int32}  {z : Int32 × Mem} (h : wo_worthOf i0 x1 μ = some z) : Fr (T_wo_worthOf i0) μ z.2 := by
  unfold wo_worthOf at h
  exact fo h (fun _ μ1 e18 h3 => have fr5 : Fr (T_wo_worthOf i0) μ μ1 := Fr.tr (Fr.mono (f_wo_lookAtField  e18) (sbc (sa_m 1 rfl) sbn)) (Fr.rf (T_wo_worthOf i0) μ); fo h3 (fun r9 μ6 e17 h8 => have fr10 : Fr (T_wo_worthOf i0) μ μ6 := Fr.tr (Fr.mono (f_wo_valueOf  e17) (sbc (sa_m 0 rfl) sbn)) fr5; fo h8 (fun r14 μ11 e16 h13 => have fr15 : Fr (T_wo_worthOf i0) μ μ11 := Fr.tr (Fr.mono (f_wo_heldTo  e16) sbn) fr10; fr_ret h13 fr15)))
def T_wo_lookAtNotch (i0 : Nat) : List At := [(42, some i0, none)]
theorem f_wo_lookAtNotch {μ : Mem} {i0 : Nat} {x1 : Int32}  {z : Unit × Mem} (h : wo_lookAtNotch i0 x1 μ = some z) : Fr (T_wo_lookAtNotch i0) μ z.2 := by
  unfold wo_lookAtNotch at h
  exact (let μ1 : Mem := stI (stI μ 42 i0 0 (nI 0)) 42 i0 1 (nI 0); have fr2 : Fr (T_wo_lookAtNotch i0) μ μ1 := Fr.stI (Fr.stI (Fr.rf (T_wo_lookAtNotch i0) μ) (iT 0 rfl inA_en)) (iT 0 rfl inA_en); have h3 := mb_o h; (have h5 := fgv h3; (let μ6 : Mem := stI μ1 42 i0 2 (mI μ1 27 (i0 + 2) (cl x1)); have fr7 : Fr (T_wo_lookAtNotch i0) μ μ6 := Fr.stI fr2 (iT 0 rfl inA_en); have h8 := mb_o h5; (let μ9 : Mem := stI (stI μ6 42 i0 3 (nI 0)) 42 i0 6 (nI 0); have fr10 : Fr (T_wo_lookAtNotch i0) μ μ9 := Fr.stI (Fr.stI fr7 (iT 0 rfl inA_en)) (iT 0 rfl inA_en); have h11 := mb_o h8; fo h11 (fun _ μ12 e17 h14 => have fr16 : Fr (T_wo_lookAtNotch i0) μ μ12 := Fr.tr (Fr.mono (f_wo_lookAround  e17) (sbc (sa_m 0 rfl) sbn)) fr10; fr_ret h14 fr16)))))
def T_wo_costsOf (i0 : Nat) : List At := [(43, some i0, none), (42, some i0, none)]
theorem f_wo_costsOf {μ : Mem} {i0 : Nat} {x1 : Int32}  {z : Int32 × Mem} (h : wo_costsOf i0 x1 μ = some z) : Fr (T_wo_costsOf i0) μ z.2 := by
  unfold wo_costsOf at h
  exact fo h (fun _ μ1 e18 h3 => have fr5 : Fr (T_wo_costsOf i0) μ μ1 := Fr.tr (Fr.mono (f_wo_lookAtNotch  e18) (sbc (sa_m 1 rfl) sbn)) (Fr.rf (T_wo_costsOf i0) μ); fo h3 (fun r9 μ6 e17 h8 => have fr10 : Fr (T_wo_costsOf i0) μ μ6 := Fr.tr (Fr.mono (f_wo_valueOf  e17) (sbc (sa_m 0 rfl) sbn)) fr5; fo h8 (fun r14 μ11 e16 h13 => have fr15 : Fr (T_wo_costsOf i0) μ μ11 := Fr.tr (Fr.mono (f_wo_heldTo  e16) sbn) fr10; fr_ret h13 fr15)))
def T_wo_siltsOf (i0 : Nat) : List At := [(43, some i0, none), (42, some i0, none)]
theorem f_wo_siltsOf {μ : Mem} {i0 : Nat} {x1 : Int32}  {z : Int32 × Mem} (h : wo_siltsOf i0 x1 μ = some z) : Fr (T_wo_siltsOf i0) μ z.2 := by
  unfold wo_siltsOf at h
  exact fo h (fun _ μ1 e18 h3 => have fr5 : Fr (T_wo_siltsOf i0) μ μ1 := Fr.tr (Fr.mono (f_wo_lookAtNotch  e18) (sbc (sa_m 1 rfl) sbn)) (Fr.rf (T_wo_siltsOf i0) μ); fo h3 (fun r9 μ6 e17 h8 => have fr10 : Fr (T_wo_siltsOf i0) μ μ6 := Fr.tr (Fr.mono (f_wo_valueOf  e17) (sbc (sa_m 0 rfl) sbn)) fr5; fo h8 (fun r14 μ11 e16 h13 => have fr15 : Fr (T_wo_siltsOf i0) μ μ11 := Fr.tr (Fr.mono (f_wo_heldTo  e16) sbn) fr10; fr_ret h13 fr15)))
def T_wo_lacks (i0 : Nat) : List At := [(43, some i0, none), (42, some i0, none)]
theorem f_wo_lacks {μ : Mem} {i0 : Nat} {x1 : Int32}  {z : Int32 × Mem} (h : wo_lacks i0 x1 μ = some z) : Fr (T_wo_lacks i0) μ z.2 := by
  unfold wo_lacks at h
  exact (have h2 := fgv h; fo h2 (fun r6 μ3 e11 h5 => have fr7 : Fr (T_wo_lacks i0) μ μ3 := Fr.tr (Fr.mono (f_wo_needsOf  e11) (sbc (sa_m 0 rfl) (sbc (sa_m 1 rfl) sbn))) (Fr.rf (T_wo_lacks i0) μ); fi h5 (fun h9 => fr_ret h9 fr7) (fun h10 => fr_ret h10 fr7)))
def T_wo_lackingFields_L4 (i0 : Nat) : List At := [(43, some i0, none), (42, some i0, none)]
theorem f_wo_lackingFields_L4 {μ0 : Mem} {T : List At} {i0 : Nat}   {x1 : Int32} {x2 : Int32} {μ : Mem} {z : Int32 × Mem} (h : wo_lackingFields_L4 i0 x1 x2 μ = some z) (fr : Fr T μ0 μ) (hT : Sb (T_wo_lackingFields_L4 i0) T)   : Fr T μ0 z.2 := by
  have key : ∀ (n : Nat), (∀ (x1 : Int32) (x2 : Int32) (μ : Mem) z, fixN (fun _ _ _ => none) (wo_lackingFields_B4 i0) n x1 x2 μ = some z → Fr T μ0 μ → Fr T μ0 z.2) := by
    intro n
    refine fixN_ind (fun (f : Int32 → Int32 → Mem → Option (Int32 × Mem)) => ∀ (x1 : Int32) (x2 : Int32) (μ : Mem) z, f x1 x2 μ = some z → Fr T μ0 μ → Fr T μ0 z.2) ?_ ?_ n
    · intro x1 x2 μ z h; cases h
    · intro self hself x1 x2 μ z h fr
      unfold wo_lackingFields_B4 at h
      exact (have h2 := fgv h; fi h2 (fun h4 => fr_ret h4 fr) (fun h5 => fo h5 (fun r9 μ6 e14 h8 => have fr10 : Fr T μ0 μ6 := Fr.tr (Fr.mono (f_wo_lacks  e14) (sbt (sbc (sa_m 0 rfl) (sbc (sa_m 1 rfl) sbn)) hT)) fr; fi h8 (fun h12 => hself _ _ _ _ h12 fr10) (fun h13 => hself _ _ _ _ h13 fr10))))
  exact key 60000 _ _ _ _ h fr
def T_wo_lackingFields (i0 : Nat) : List At := [(43, some i0, none), (42, some i0, none)]
theorem f_wo_lackingFields {μ : Mem} {i0 : Nat}  {z : Int32 × Mem} (h : wo_lackingFields i0 μ = some z) : Fr (T_wo_lackingFields i0) μ z.2 := by
  unfold wo_lackingFields at h
  exact f_wo_lackingFields_L4 h (Fr.rf (T_wo_lackingFields i0) μ) (sbc (sa_m 0 rfl) (sbc (sa_m 1 rfl) sbn))  
def T_wo_lacksSomewhere_L2 (i0 : Nat) : List At := [(43, some i0, none), (42, some i0, none)]
theorem f_wo_lacksSomewhere_L2 {μ0 : Mem} {T : List At} {i0 : Nat}   {x1 : Int32} {μ : Mem} {z : Int32 × Mem} (h : wo_lacksSomewhere_L2 i0 x1 μ = some z) (fr : Fr T μ0 μ) (hT : Sb (T_wo_lacksSomewhere_L2 i0) T)   : Fr T μ0 z.2 := by
  have key : ∀ (n : Nat), (∀ (x1 : Int32) (μ : Mem) z, fixN (fun _ _ => none) (wo_lacksSomewhere_B2 i0) n x1 μ = some z → Fr T μ0 μ → Fr T μ0 z.2) := by
    intro n
    refine fixN_ind (fun (f : Int32 → Mem → Option (Int32 × Mem)) => ∀ (x1 : Int32) (μ : Mem) z, f x1 μ = some z → Fr T μ0 μ → Fr T μ0 z.2) ?_ ?_ n
    · intro x1 μ z h; cases h
    · intro self hself x1 μ z h fr
      unfold wo_lacksSomewhere_B2 at h
      exact (have h2 := fgv h; fi h2 (fun h4 => fr_ret h4 fr) (fun h5 => (have h7 := fgv h5; fo h7 (fun r11 μ8 e16 h10 => have fr12 : Fr T μ0 μ8 := Fr.tr (Fr.mono (f_wo_needsOf  e16) (sbt (sbc (sa_m 0 rfl) (sbc (sa_m 1 rfl) sbn)) hT)) fr; fi h10 (fun h14 => hself _ _ _ h14 fr12) (fun h15 => fr_ret h15 fr12)))))
  exact key 60000 _ _ _ h fr
def T_wo_lacksSomewhere (i0 : Nat) : List At := [(43, some i0, none), (42, some i0, none)]
theorem f_wo_lacksSomewhere {μ : Mem} {i0 : Nat}  {z : Int32 × Mem} (h : wo_lacksSomewhere i0 μ = some z) : Fr (T_wo_lacksSomewhere i0) μ z.2 := by
  unfold wo_lacksSomewhere at h
  exact f_wo_lacksSomewhere_L2 h (Fr.rf (T_wo_lacksSomewhere i0) μ) (sbc (sa_m 0 rfl) (sbc (sa_m 1 rfl) sbn))  
def T_wo_grownOfAll_L4 (i0 : Nat) : List At := []
theorem f_wo_grownOfAll_L4 {μ0 : Mem} {T : List At} {i0 : Nat}   {x1 : Int32} {x2 : Int32} {μ : Mem} {z : Int32 × Mem} (h : wo_grownOfAll_L4 i0 x1 x2 μ = some z) (fr : Fr T μ0 μ) (hT : Sb (T_wo_grownOfAll_L4 i0) T)   : Fr T μ0 z.2 := by
  have key : ∀ (n : Nat), (∀ (x1 : Int32) (x2 : Int32) (μ : Mem) z, fixN (fun _ _ _ => none) (wo_grownOfAll_B4 i0) n x1 x2 μ = some z → Fr T μ0 μ → Fr T μ0 z.2) := by
    intro n
    refine fixN_ind (fun (f : Int32 → Int32 → Mem → Option (Int32 × Mem)) => ∀ (x1 : Int32) (x2 : Int32) (μ : Mem) z, f x1 x2 μ = some z → Fr T μ0 μ → Fr T μ0 z.2) ?_ ?_ n
    · intro x1 x2 μ z h; cases h
    · intro self hself x1 x2 μ z h fr
      unfold wo_grownOfAll_B4 at h
      exact (have h2 := fgv h; fi h2 (fun h4 => fr_ret h4 fr) (fun h5 => (have h7 := fgv h5; hself _ _ _ _ h7 fr)))
  exact key 60000 _ _ _ _ h fr
def T_wo_grownOfAll (i0 : Nat) : List At := []
theorem f_wo_grownOfAll {μ : Mem} {i0 : Nat}  {z : Int32 × Mem} (h : wo_grownOfAll i0 μ = some z) : Fr (T_wo_grownOfAll i0) μ z.2 := by
  unfold wo_grownOfAll at h
  exact f_wo_grownOfAll_L4 h (Fr.rf (T_wo_grownOfAll i0) μ) sbn  
def T_wo_grow_L2 (i0 : Nat) : List At := [(30, some (i0 + 2), none), (43, some i0, none), (42, some i0, none)]
theorem f_wo_grow_L2 {μ0 : Mem} {T : List At} {i0 : Nat}   {x1 : Int32} {μ : Mem} {z : Unit × Mem} (h : wo_grow_L2 i0 x1 μ = some z) (fr : Fr T μ0 μ) (hT : Sb (T_wo_grow_L2 i0) T)   : Fr T μ0 z.2 := by
  have key : ∀ (n : Nat), (∀ (x1 : Int32) (μ : Mem) z, fixN (fun _ _ => none) (wo_grow_B2 i0) n x1 μ = some z → Fr T μ0 μ → Fr T μ0 z.2) := by
    intro n
    refine fixN_ind (fun (f : Int32 → Mem → Option (Unit × Mem)) => ∀ (x1 : Int32) (μ : Mem) z, f x1 μ = some z → Fr T μ0 μ → Fr T μ0 z.2) ?_ ?_ n
    · intro x1 μ z h; cases h
    · intro self hself x1 μ z h fr
      unfold wo_grow_B2 at h
      exact (have h2 := fgv h; fi h2 (fun h4 => fr_ret h4 fr) (fun h5 => (have h7 := fgv h5; fo h7 (fun r11 μ8 e19 h10 => have fr12 : Fr T μ0 μ8 := Fr.tr (Fr.mono (f_wo_worthOf  e19) (sbt (sbc (sa_m 1 rfl) (sbc (sa_m 2 rfl) sbn)) hT)) fr; fo h10 (fun r16 μ13 e18 h15 => have fr17 : Fr T μ0 μ13 := Fr.tr (Fr.mono (f_j_min  e18) (sbt sbn hT)) fr12; hself _ _ _ h15 (Fr.stI fr17 (hT _ _ _ (iT 0 rfl inA_en))))))))
  exact key 60000 _ _ _ h fr
def T_wo_grow (i0 : Nat) : List At := [(30, some (i0 + 2), none), (43, some i0, none), (42, some i0, none)]
theorem f_wo_grow {μ : Mem} {i0 : Nat}  {z : Unit × Mem} (h : wo_grow i0 μ = some z) : Fr (T_wo_grow i0) μ z.2 := by
  unfold wo_grow at h
  exact f_wo_grow_L2 h (Fr.rf (T_wo_grow i0) μ) (sbc (sa_m 0 rfl) (sbc (sa_m 1 rfl) (sbc (sa_m 2 rfl) sbn)))  
def T_wo_mixed : List At := []
theorem f_wo_mixed {μ : Mem} {x0 : Int32} {x1 : Int32}  {z : Int32 × Mem} (h : wo_mixed x0 x1 μ = some z) : Fr (T_wo_mixed) μ z.2 := by
  unfold wo_mixed at h
  exact (let v1 : Int32 := (((x0 ^^^ x1) * (nI 1103515245)) + (nI 12345)); have h2 := vb_o h; (fr_ret h2 (Fr.rf (T_wo_mixed) μ)))
def T_wo_lot : List At := []
theorem f_wo_lot {μ : Mem} {x0 : Int32} {x1 : Int32} {x2 : Int32}  {z : Int32 × Mem} (h : wo_lot x0 x1 x2 μ = some z) : Fr (T_wo_lot) μ z.2 := by
  unfold wo_lot at h
  exact fo h (fun r4 μ1 e17 h3 => have fr5 : Fr (T_wo_lot) μ μ1 := Fr.tr (Fr.mono (f_wo_mixed  e17) sbn) (Fr.rf (T_wo_lot) μ); fo h3 (fun r9 μ6 e16 h8 => have fr10 : Fr (T_wo_lot) μ μ6 := Fr.tr (Fr.mono (f_wo_mixed  e16) sbn) fr5; fi h8 (fun h12 => fr_ret h12 fr10) (fun h13 => (have h15 := fgv h13; fr_ret h15 fr10))))
def T_wo_silt_L4 (i0 : Nat) : List At := [(27, some (i0 + 2), none), (43, some i0, none), (42, some i0, none)]
theorem f_wo_silt_L4 {μ0 : Mem} {T : List At} {i0 : Nat} {x1 : Int32}   {x2 : Int32} {x3 : Int32} {μ : Mem} {z : Int32 × Mem} (h : wo_silt_L4 i0 x1 x2 x3 μ = some z) (fr : Fr T μ0 μ) (hT : Sb (T_wo_silt_L4 i0) T)   : Fr T μ0 z.2 := by
  have key : ∀ (n : Nat), (∀ (x2 : Int32) (x3 : Int32) (μ : Mem) z, fixN (fun _ _ _ => none) (wo_silt_B4 i0 x1) n x2 x3 μ = some z → Fr T μ0 μ → Fr T μ0 z.2) := by
    intro n
    refine fixN_ind (fun (f : Int32 → Int32 → Mem → Option (Int32 × Mem)) => ∀ (x2 : Int32) (x3 : Int32) (μ : Mem) z, f x2 x3 μ = some z → Fr T μ0 μ → Fr T μ0 z.2) ?_ ?_ n
    · intro x2 x3 μ z h; cases h
    · intro self hself x2 x3 μ z h fr
      unfold wo_silt_B4 at h
      exact (have h2 := fgv h; fi h2 (fun h4 => (have h7 := fgv h4; fr_ret h7 fr)) (fun h5 => (have h9 := fgv h5; fi h9 (fun h11 => hself _ _ _ _ h11 fr) (fun h12 => fo h12 (fun r16 μ13 e30 h15 => have fr17 : Fr T μ0 μ13 := Fr.tr (Fr.mono (f_wo_lot  e30) (sbt sbn hT)) fr; fo h15 (fun r21 μ18 e29 h20 => have fr22 : Fr T μ0 μ18 := Fr.tr (Fr.mono (f_wo_siltsOf  e29) (sbt (sbc (sa_m 1 rfl) (sbc (sa_m 2 rfl) sbn)) hT)) fr17; fi h20 (fun h24 => hself _ _ _ _ h24 fr22) (fun h25 => (let μ26 : Mem := stI μ18 27 (i0 + 2) (cl x3) ((mI μ18 27 (i0 + 2) (cl x3)) - (nI 1)); have fr27 : Fr T μ0 μ26 := Fr.stI fr22 (hT _ _ _ (iT 0 rfl inA_en)); have h28 := mb_o h25; hself _ _ _ _ h28 fr27))))))))
  exact key 60000 _ _ _ _ h fr
def T_wo_silt (i0 : Nat) : List At := [(27, some (i0 + 2), none), (43, some i0, none), (42, some i0, none)]
theorem f_wo_silt {μ : Mem} {i0 : Nat} {x1 : Int32}  {z : Int32 × Mem} (h : wo_silt i0 x1 μ = some z) : Fr (T_wo_silt i0) μ z.2 := by
  unfold wo_silt at h
  exact f_wo_silt_L4 h (Fr.rf (T_wo_silt i0) μ) (sbc (sa_m 0 rfl) (sbc (sa_m 1 rfl) (sbc (sa_m 2 rfl) sbn)))  
def T_wo_passDays_L3 (i0 : Nat) : List At := [(26, some (i0 + 2), some 5), (32, some i0, some 0), (35, some i0, none), (32, some i0, some 4), (32, some i0, some 3), (34, some i0, none), (33, some i0, none), (32, some i0, some 2), (32, some i0, some 1), (41, none, none), (39, some i0, none), (38, some i0, none), (36, some i0, none), (37, some i0, none), (27, some (i0 + 2), none), (43, some i0, none), (42, some i0, none), (30, some (i0 + 2), none)]
theorem f_wo_passDays_L3 {μ0 : Mem} {T : List At} {i0 : Nat} {x1 : Int32} {x2 : Int32} {x3 : Int32}   {x4 : Int32} {μ : Mem} {z : Unit × Mem} (h : wo_passDays_L3 i0 x1 x2 x3 x4 μ = some z) (fr : Fr T μ0 μ) (hT : Sb (T_wo_passDays_L3 i0) T)   : Fr T μ0 z.2 := by
  have key : ∀ (n : Nat), (∀ (x4 : Int32) (μ : Mem) z, fixN (fun _ _ => none) (wo_passDays_B3 i0 x1 x2 x3) n x4 μ = some z → Fr T μ0 μ → Fr T μ0 z.2) := by
    intro n
    refine fixN_ind (fun (f : Int32 → Mem → Option (Unit × Mem)) => ∀ (x4 : Int32) (μ : Mem) z, f x4 μ = some z → Fr T μ0 μ → Fr T μ0 z.2) ?_ ?_ n
    · intro x4 μ z h; cases h
    · intro self hself x4 μ z h fr
      unfold wo_passDays_B3 at h
      exact fi h (fun h2 => fr_ret h2 fr) (fun h3 => fo h3 (fun _ μ4 e39 h6 => have fr8 : Fr T μ0 μ4 := Fr.tr (Fr.mono (f_wo_grow  e39) (sbt (sbc (sa_m 17 rfl) (sbc (sa_m 15 rfl) (sbc (sa_m 16 rfl) sbn))) hT)) fr; fi h6 (fun h10 => (let μ12 : Mem := stI μ4 26 (i0 + 2) 5 ((mI μ4 26 (i0 + 2) 5) + (nI 1)); have fr13 : Fr T μ0 μ12 := Fr.stI fr8 (hT _ _ _ (iT 0 rfl inA_es)); have h14 := mb_o h10; hself _ _ _ h14 fr13)) (fun h11 => fo h11 (fun r19 μ16 e38 h18 => have fr20 : Fr T μ0 μ16 := Fr.tr (Fr.mono (f_wo_silt  e38) (sbt (sbc (sa_m 14 rfl) (sbc (sa_m 15 rfl) (sbc (sa_m 16 rfl) sbn))) hT)) fr8; fi h18 (fun h22 => (let μ24 : Mem := stI μ16 26 (i0 + 2) 5 ((mI μ16 26 (i0 + 2) 5) + (nI 1)); have fr25 : Fr T μ0 μ24 := Fr.stI fr20 (hT _ _ _ (iT 0 rfl inA_es)); have h26 := mb_o h22; hself _ _ _ h26 fr25)) (fun h23 => (let μ28 : Mem := stI μ16 26 (i0 + 2) 5 ((mI μ16 26 (i0 + 2) 5) + (nI 1)); have fr29 : Fr T μ0 μ28 := Fr.stI fr20 (hT _ _ _ (iT 0 rfl inA_es)); have h30 := mb_o h23; fo h30 (fun _ μ32 e37 h34 => have fr36 : Fr T μ0 μ32 := Fr.tr (Fr.mono (f_wo_settle  e37) (sbt (sbc (sa_m 1 rfl) (sbc (sa_m 2 rfl) (sbc (sa_m 3 rfl) (sbc (sa_m 4 rfl) (sbc (sa_m 5 rfl) (sbc (sa_m 6 rfl) (sbc (sa_m 7 rfl) (sbc (sa_m 8 rfl) (sbc (sa_m 9 rfl) (sbc (sa_m 10 rfl) (sbc (sa_m 11 rfl) (sbc (sa_m 12 rfl) (sbc (sa_m 13 rfl) sbn))))))))))))) hT)) fr29; hself _ _ _ h34 fr36)))))))
  exact key 60000 _ _ _ h fr
def T_wo_passDays (i0 : Nat) : List At := [(26, some (i0 + 2), some 5), (32, some i0, some 0), (35, some i0, none), (32, some i0, some 4), (32, some i0, some 3), (34, some i0, none), (33, some i0, none), (32, some i0, some 2), (32, some i0, some 1), (41, none, none), (39, some i0, none), (38, some i0, none), (36, some i0, none), (37, some i0, none), (27, some (i0 + 2), none), (43, some i0, none), (42, some i0, none), (30, some (i0 + 2), none)]
theorem f_wo_passDays {μ : Mem} {i0 : Nat} {x1 : Int32} {x2 : Int32} {x3 : Int32}  {z : Unit × Mem} (h : wo_passDays i0 x1 x2 x3 μ = some z) : Fr (T_wo_passDays i0) μ z.2 := by
  unfold wo_passDays at h
  exact f_wo_passDays_L3 h (Fr.rf (T_wo_passDays i0) μ) (sbc (sa_m 0 rfl) (sbc (sa_m 1 rfl) (sbc (sa_m 2 rfl) (sbc (sa_m 3 rfl) (sbc (sa_m 4 rfl) (sbc (sa_m 5 rfl) (sbc (sa_m 6 rfl) (sbc (sa_m 7 rfl) (sbc (sa_m 8 rfl) (sbc (sa_m 9 rfl) (sbc (sa_m 10 rfl) (sbc (sa_m 11 rfl) (sbc (sa_m 12 rfl) (sbc (sa_m 13 rfl) (sbc (sa_m 14 rfl) (sbc (sa_m 15 rfl) (sbc (sa_m 16 rfl) (sbc (sa_m 17 rfl) sbn))))))))))))))))))  
def T_to_endOfToken_r11_L20 : List At := []
theorem f_to_endOfToken_r11_L20 {μ0 : Mem} {T : List At} {x1 : Int32} {x3 : Int32} {x4 : Int32}   {x5 : Int32} {μ : Mem} {z : Int32 × Mem} (h : to_endOfToken_r11_L20 x1 x3 x4 x5 μ = some z) (fr : Fr T μ0 μ) (hT : Sb (T_to_endOfToken_r11_L20) T)   : Fr T μ0 z.2 := by
  have key : ∀ (n : Nat), (∀ (x5 : Int32) (μ : Mem) z, fixN (fun _ _ => none) (to_endOfToken_r11_B20 x1 x3 x4) n x5 μ = some z → Fr T μ0 μ → Fr T μ0 z.2) := by
    intro n
    refine fixN_ind (fun (f : Int32 → Mem → Option (Int32 × Mem)) => ∀ (x5 : Int32) (μ : Mem) z, f x5 μ = some z → Fr T μ0 μ → Fr T μ0 z.2) ?_ ?_ n
    · intro x5 μ z h; cases h
    · intro self hself x5 μ z h fr
      unfold to_endOfToken_r11_B20 at h
      exact fi h (fun h14 => fr_ret h14 fr) (fun h15 => fi h15 (fun h17 => fi h17 (fun h20 => fr_ret h20 fr) (fun h21 => (have h23 := fgv h21; fo h23 (fun r27 μ24 e32 h26 => have fr28 : Fr T μ0 μ24 := Fr.tr (Fr.mono (f_to_isDigit  e32) (sbt sbn hT)) fr; fi h26 (fun h30 => fr_ret h30 fr28) (fun h31 => hself _ _ _ h31 fr28))))) (fun h18 => (have h34 := fgv h18; fo h34 (fun r38 μ35 e55 h37 => have fr39 : Fr T μ0 μ35 := Fr.tr (Fr.mono (f_to_isLetter  e55) (sbt sbn hT)) fr; fi h37 (fun h42 => fi h42 (fun h44 => fr_ret h44 fr39) (fun h45 => fo h45 (fun r49 μ46 e54 h48 => have fr50 : Fr T μ0 μ46 := Fr.tr (Fr.mono (f_to_isDigit  e54) (sbt sbn hT)) fr39; fi h48 (fun h52 => fr_ret h52 fr50) (fun h53 => hself _ _ _ h53 fr50)))) (fun h41 => hself _ _ _ h41 fr39)))))
  exact key 60000 _ _ _ h fr
def T_to_endOfToken_r11 : List At := []
theorem f_to_endOfToken_r11 {μ : Mem} {x1 : Int32} {x2 : Int32}  {z : Int32 × Mem} (h : to_endOfToken_r11 x1 x2 μ = some z) : Fr (T_to_endOfToken_r11) μ z.2 := by
  unfold to_endOfToken_r11 at h
  exact (have h2 := fgv h; fo h2 (fun r6 μ3 e57 h5 => have fr7 : Fr (T_to_endOfToken_r11) μ μ3 := Fr.tr (Fr.mono (f_to_isLetter  e57) sbn) (Fr.rf (T_to_endOfToken_r11) μ); fo h5 (fun r11 μ8 e56 h10 => have fr12 : Fr (T_to_endOfToken_r11) μ μ8 := Fr.tr (Fr.mono (f_to_isDigit  e56) sbn) fr7; f_to_endOfToken_r11_L20 h10 fr12 sbn  )))
def T_to_isWord_r11_L3 : List At := []
theorem f_to_isWord_r11_L3 {μ0 : Mem} {T : List At} {x1 : Int32} {x2 : Int32} {x3 : Int32}   {x4 : Int32} {μ : Mem} {z : Int32 × Mem} (h : to_isWord_r11_L3 x1 x2 x3 x4 μ = some z) (fr : Fr T μ0 μ) (hT : Sb (T_to_isWord_r11_L3) T)   : Fr T μ0 z.2 := by
  have key : ∀ (n : Nat), (∀ (x4 : Int32) (μ : Mem) z, fixN (fun _ _ => none) (to_isWord_r11_B3 x1 x2 x3) n x4 μ = some z → Fr T μ0 μ → Fr T μ0 z.2) := by
    intro n
    refine fixN_ind (fun (f : Int32 → Mem → Option (Int32 × Mem)) => ∀ (x4 : Int32) (μ : Mem) z, f x4 μ = some z → Fr T μ0 μ → Fr T μ0 z.2) ?_ ?_ n
    · intro x4 μ z h; cases h
    · intro self hself x4 μ z h fr
      unfold to_isWord_r11_B3 at h
      exact fi h (fun h2 => fr_ret h2 fr) (fun h3 => fi h3 (fun h5 => fr_ret h5 fr) (fun h6 => fi h6 (fun h8 => (have h11 := fgv h8; fi h11 (fun h13 => hself _ _ _ h13 fr) (fun h14 => fr_ret h14 fr))) (fun h9 => (have h16 := fgv h9; (have h18 := fgv h16; fi h18 (fun h20 => hself _ _ _ h20 fr) (fun h21 => fr_ret h21 fr))))))
  exact key 60000 _ _ _ h fr
def T_to_isWord_r11 : List At := []
theorem f_to_isWord_r11 {μ : Mem} {x1 : Int32} {x2 : Int32} {x3 : Int32}  {z : Int32 × Mem} (h : to_isWord_r11 x1 x2 x3 μ = some z) : Fr (T_to_isWord_r11) μ z.2 := by
  unfold to_isWord_r11 at h
  exact f_to_isWord_r11_L3 h (Fr.rf (T_to_isWord_r11) μ) sbn  
def T_to_wordOrName_r11_L2 : List At := []
theorem f_to_wordOrName_r11_L2 {μ0 : Mem} {T : List At} {x1 : Int32} {x2 : Int32}   {x3 : Int32} {μ : Mem} {z : Int32 × Mem} (h : to_wordOrName_r11_L2 x1 x2 x3 μ = some z) (fr : Fr T μ0 μ) (hT : Sb (T_to_wordOrName_r11_L2) T)   : Fr T μ0 z.2 := by
  have key : ∀ (n : Nat), (∀ (x3 : Int32) (μ : Mem) z, fixN (fun _ _ => none) (to_wordOrName_r11_B2 x1 x2) n x3 μ = some z → Fr T μ0 μ → Fr T μ0 z.2) := by
    intro n
    refine fixN_ind (fun (f : Int32 → Mem → Option (Int32 × Mem)) => ∀ (x3 : Int32) (μ : Mem) z, f x3 μ = some z → Fr T μ0 μ → Fr T μ0 z.2) ?_ ?_ n
    · intro x3 μ z h; cases h
    · intro self hself x3 μ z h fr
      unfold to_wordOrName_r11_B2 at h
      exact fi h (fun h2 => fr_ret h2 fr) (fun h3 => fo h3 (fun r7 μ4 e12 h6 => have fr8 : Fr T μ0 μ4 := Fr.tr (Fr.mono (f_to_isWord_r11  e12) (sbt sbn hT)) fr; fi h6 (fun h10 => hself _ _ _ h10 fr8) (fun h11 => fr_ret h11 fr8)))
  exact key 60000 _ _ _ h fr
def T_to_wordOrName_r11 : List At := []
theorem f_to_wordOrName_r11 {μ : Mem} {x1 : Int32} {x2 : Int32}  {z : Int32 × Mem} (h : to_wordOrName_r11 x1 x2 μ = some z) : Fr (T_to_wordOrName_r11) μ z.2 := by
  unfold to_wordOrName_r11 at h
  exact f_to_wordOrName_r11_L2 h (Fr.rf (T_to_wordOrName_r11) μ) sbn  
def T_to_kindOf_r11_L55 : List At := []
theorem f_to_kindOf_r11_L55 {μ0 : Mem} {T : List At} {x1 : Int32}   {x3 : Int32} {μ : Mem} {z : Int32 × Mem} (h : to_kindOf_r11_L55 x1 x3 μ = some z) (fr : Fr T μ0 μ) (hT : Sb (T_to_kindOf_r11_L55) T)   : Fr T μ0 z.2 := by
  have key : ∀ (n : Nat), (∀ (x3 : Int32) (μ : Mem) z, fixN (fun _ _ => none) (to_kindOf_r11_B55 x1) n x3 μ = some z → Fr T μ0 μ → Fr T μ0 z.2) := by
    intro n
    refine fixN_ind (fun (f : Int32 → Mem → Option (Int32 × Mem)) => ∀ (x3 : Int32) (μ : Mem) z, f x3 μ = some z → Fr T μ0 μ → Fr T μ0 z.2) ?_ ?_ n
    · intro x3 μ z h; cases h
    · intro self hself x3 μ z h fr
      unfold to_kindOf_r11_B55 at h
      exact fi h (fun h20 => fr_ret h20 fr) (fun h21 => (have h23 := fgv h21; (have h25 := fgv h23; fi h25 (fun h28 => fr_ret h28 fr) (fun h27 => hself _ _ _ h27 fr))))
  exact key 60000 _ _ _ h fr
def T_to_kindOf_r11 : List At := []
theorem f_to_kindOf_r11 {μ : Mem} {x1 : Int32} {x2 : Int32}  {z : Int32 × Mem} (h : to_kindOf_r11 x1 x2 μ = some z) : Fr (T_to_kindOf_r11) μ z.2 := by
  unfold to_kindOf_r11 at h
  exact (have h2 := fgv h; fo h2 (fun r6 μ3 e42 h5 => have fr7 : Fr (T_to_kindOf_r11) μ μ3 := Fr.tr (Fr.mono (f_to_isLetter  e42) sbn) (Fr.rf (T_to_kindOf_r11) μ); fi h5 (fun h9 => fo h9 (fun r14 μ11 e32 h13 => have fr15 : Fr (T_to_kindOf_r11) μ μ11 := Fr.tr (Fr.mono (f_to_isDigit  e32) sbn) fr7; fi h13 (fun h17 => f_to_kindOf_r11_L55 h17 fr15 sbn  ) (fun h18 => fi h18 (fun h30 => fr_ret h30 fr15) (fun h31 => fr_ret h31 fr15)))) (fun h10 => fi h10 (fun h34 => fo h34 (fun r39 μ36 e41 h38 => have fr40 : Fr (T_to_kindOf_r11) μ μ36 := Fr.tr (Fr.mono (f_to_wordOrName_r11  e41) sbn) fr7; fr_ret h38 fr40)) (fun h35 => fr_ret h35 fr7))))
def T_to_valueOf_r11_L5 : List At := []
theorem f_to_valueOf_r11_L5 {μ0 : Mem} {T : List At} {x2 : Int32}   {x3 : Int64} {x5 : Int32} {μ : Mem} {z : Int64 × Mem} (h : to_valueOf_r11_L5 x2 x3 x5 μ = some z) (fr : Fr T μ0 μ) (hT : Sb (T_to_valueOf_r11_L5) T)   : Fr T μ0 z.2 := by
  have key : ∀ (n : Nat), (∀ (x3 : Int64) (x5 : Int32) (μ : Mem) z, fixN (fun _ _ _ => none) (to_valueOf_r11_B5 x2) n x3 x5 μ = some z → Fr T μ0 μ → Fr T μ0 z.2) := by
    intro n
    refine fixN_ind (fun (f : Int64 → Int32 → Mem → Option (Int64 × Mem)) => ∀ (x3 : Int64) (x5 : Int32) (μ : Mem) z, f x3 x5 μ = some z → Fr T μ0 μ → Fr T μ0 z.2) ?_ ?_ n
    · intro x3 x5 μ z h; cases h
    · intro self hself x3 x5 μ z h fr
      unfold to_valueOf_r11_B5 at h
      exact fi h (fun h2 => fr_ret h2 fr) (fun h3 => (have h5 := fgv h3; fo h5 (fun r9 μ6 e18 h8 => have fr10 : Fr T μ0 μ6 := Fr.tr (Fr.mono (f_to_isDigit  e18) (sbt sbn hT)) fr; fi h8 (fun h12 => (let v14 : Int64 := ((x3 * (27 : Int64)) + (Int32.toInt64 (((mI μ6 11 0 (cl x5)) - (nI 97)) + (nI 1)))); have h15 := vb_o h12; (hself _ _ _ _ h15 fr10))) (fun h13 => (let v16 : Int64 := ((x3 * (10 : Int64)) + (Int32.toInt64 ((mI μ6 11 0 (cl x5)) - (nI 48)))); have h17 := vb_o h13; (hself _ _ _ _ h17 fr10))))))
  exact key 60000 _ _ _ _ h fr
def T_to_valueOf_r11 : List At := []
theorem f_to_valueOf_r11 {μ : Mem} {x1 : Int32} {x2 : Int32}  {z : Int64 × Mem} (h : to_valueOf_r11 x1 x2 μ = some z) : Fr (T_to_valueOf_r11) μ z.2 := by
  unfold to_valueOf_r11 at h
  exact f_to_valueOf_r11_L5 h (Fr.rf (T_to_valueOf_r11) μ) sbn  
def T_to_scan_r11_L7 : List At := [(14, none, none), (15, none, none), (16, none, none), (13, none, some 3)]
theorem f_to_scan_r11_L7 {μ0 : Mem} {T : List At} {x2 : Int32}  {k109 : Mem → Option (Unit × Mem)} {x3 : Int32} {μ : Mem} {z : Unit × Mem} (h : to_scan_r11_L7 x2 k109 x3 μ = some z) (fr : Fr T μ0 μ) (hT : Sb (T_to_scan_r11_L7) T)  (hk109 : ∀  (μ : Mem) z, k109  μ = some z → Fr T μ0 μ → Fr T μ0 z.2) : Fr T μ0 z.2 := by
  have key : ∀ (n : Nat), (∀ (x3 : Int32) (μ : Mem) z, fixN (fun _ _ => none) (to_scan_r11_B7 x2 k109) n x3 μ = some z → Fr T μ0 μ → Fr T μ0 z.2) := by
    intro n
    refine fixN_ind (fun (f : Int32 → Mem → Option (Unit × Mem)) => ∀ (x3 : Int32) (μ : Mem) z, f x3 μ = some z → Fr T μ0 μ → Fr T μ0 z.2) ?_ ?_ n
    · intro x3 μ z h; cases h
    · intro self hself x3 μ z h fr
      unfold to_scan_r11_B7 at h
      exact fi h (fun h2 => hk109 _ _ h2 fr) (fun h3 => fi h3 (fun h5 => hk109 _ _ h5 fr) (fun h6 => (have h8 := fgv h6; fo h8 (fun r12 μ9 e53 h11 => have fr13 : Fr T μ0 μ9 := Fr.tr (Fr.mono (f_to_isBlank  e53) (sbt sbn hT)) fr; fi h11 (fun h15 => fo h15 (fun r20 μ17 e52 h19 => have fr21 : Fr T μ0 μ17 := Fr.tr (Fr.mono (f_to_endOfToken_r11  e52) (sbt sbn hT)) fr13; fo h19 (fun r25 μ22 e51 h24 => have fr26 : Fr T μ0 μ22 := Fr.tr (Fr.mono (f_to_kindOf_r11  e51) (sbt sbn hT)) fr21; (have h28 := fgv h24; (have h30 := fgv h28; (let μ31 : Mem := stI (stI μ22 14 0 (cl (mI μ17 13 0 3)) r25) 15 0 (cl (mI (stI μ22 14 0 (cl (mI μ17 13 0 3)) r25) 13 0 3)) x3; have fr32 : Fr T μ0 μ31 := Fr.stI (Fr.stI fr26 (hT _ _ _ (iT 0 rfl inA_nn))) (hT _ _ _ (iT 1 rfl inA_nn)); have h33 := mb_o h30; fo h33 (fun r37 μ34 e50 h36 => have fr38 : Fr T μ0 μ34 := Fr.tr (Fr.mono (f_to_valueOf_r11  e50) (sbt sbn hT)) fr32; (have h40 := fgv h36; (let μ41 : Mem := stI (stL μ34 16 0 (cl (mI μ31 13 0 3)) r37) 13 0 3 ((mI (stL μ34 16 0 (cl (mI μ31 13 0 3)) r37) 13 0 3) + (nI 1)); have fr42 : Fr T μ0 μ41 := Fr.stI (Fr.stL fr38 (hT _ _ _ (iT 2 rfl inA_nn))) (hT _ _ _ (iT 3 rfl inA_ns)); have h43 := mb_o h40; fo h43 (fun r47 μ44 e49 h46 => have fr48 : Fr T μ0 μ44 := Fr.tr (Fr.mono (f_j_max  e49) (sbt sbn hT)) fr42; hself _ _ _ h46 fr48)))))))))) (fun h16 => hself _ _ _ h16 fr13)))))
  exact key 60000 _ _ _ h fr
def T_to_scan_r11 : List At := [(13, none, some 3), (14, none, none), (15, none, none), (16, none, none)]
theorem f_to_scan_r11 {μ : Mem} {x2 : Int32}  {z : Unit × Mem} (h : to_scan_r11 x2 μ = some z) : Fr (T_to_scan_r11) μ z.2 := by
  unfold to_scan_r11 at h
  exact f_to_scan_r11_L7 h (Fr.stI (Fr.rf (T_to_scan_r11) μ) (iT 0 rfl inA_ns)) (sbc (sa_m 1 rfl) (sbc (sa_m 2 rfl) (sbc (sa_m 3 rfl) (sbc (sa_m 0 rfl) sbn))))  (fun  μ54 _ h56 fr57 => (have h59 := fgv h56; (let μ60 : Mem := stI μ54 14 0 (cl (mI μ54 13 0 3)) (nI 43); have fr61 : Fr (T_to_scan_r11) μ μ60 := Fr.stI fr57 (iT 1 rfl inA_nn); have h62 := mb_o h59; (have h64 := fgv h62; (have h66 := fgv h64; (let μ67 : Mem := stL (stI μ60 15 0 (cl (mI μ60 13 0 3)) x2) 16 0 (cl (mI (stI μ60 15 0 (cl (mI μ60 13 0 3)) x2) 13 0 3)) (0 : Int64); have fr68 : Fr (T_to_scan_r11) μ μ67 := Fr.stL (Fr.stI fr61 (iT 2 rfl inA_nn)) (iT 3 rfl inA_nn); have h69 := mb_o h66; fr_ret h69 fr68))))))
def T_rd_readText_r11_L52 (ip : Nat) : List At := [(19, some ip, none), (18, some ip, some 0), (12, none, some 0), (12, none, some 1), (12, none, some 4), (12, none, some 5), (12, none, some 6), (20, some ip, none), (18, some ip, some 1), (21, some ip, none), (22, some ip, none), (27, some ip, none), (18, some ip, some 2), (23, some ip, none), (28, some ip, none), (29, some ip, none), (26, some ip, some 4), (18, some ip, some 3), (24, some ip, none), (25, some ip, none), (18, some ip, some 11), (12, none, some 8), (17, none, none)]
theorem f_rd_readText_r11_L52 {μ0 : Mem} {T : List At}  {ip : Nat} {k86 : Mem → Option (Int32 × Mem)} {x4 : Int32} {x5 : Int32} {μ : Mem} {z : Int32 × Mem} (h : rd_readText_r11_L52 k86 x4 x5 μ = some z) (fr : Fr T μ0 μ) (hT : Sb (T_rd_readText_r11_L52 ip) T) (hn : inT T 12 0 3 = false) (hip : mR μ0 12 0 3 = ip) (hk86 : ∀  (μ : Mem) z, k86  μ = some z → Fr T μ0 μ → Fr T μ0 z.2) : Fr T μ0 z.2 := by
  have key : ∀ (n : Nat), (∀ (x4 : Int32) (x5 : Int32) (μ : Mem) z, fixN (fun _ _ _ => none) (rd_readText_r11_B52 k86) n x4 x5 μ = some z → Fr T μ0 μ → Fr T μ0 z.2) := by
    intro n
    refine fixN_ind (fun (f : Int32 → Int32 → Mem → Option (Int32 × Mem)) => ∀ (x4 : Int32) (x5 : Int32) (μ : Mem) z, f x4 x5 μ = some z → Fr T μ0 μ → Fr T μ0 z.2) ?_ ?_ n
    · intro x4 x5 μ z h; cases h
    · intro self hself x4 x5 μ z h fr
      unfold rd_readText_r11_B52 at h
      exact fi h (fun h20 => hk86 _ _ h20 fr) (fun h21 => fi h21 (fun h23 => hk86 _ _ h23 fr) (fun h24 => fo h24 (fun r28 μ25 e39 h27 => have fr29 : Fr T μ0 μ25 := Fr.tr (Fr.mono (f_rd_kind  e39) (sbt sbn hT)) fr; fi h27 (fun h31 => hk86 _ _ h31 fr29) (fun h32 => fo h32 (fun r36 μ33 e38 h35 => have fr37 : Fr T μ0 μ33 := Fr.tr (Fr.mono (f_rd_readTell (Fr.ip fr29 hn hip) e38) (sbt (sbc (sa_m 0 rfl) (sbc (sa_m 1 rfl) (sbc (sa_m 2 rfl) (sbc (sa_m 3 rfl) (sbc (sa_m 4 rfl) (sbc (sa_m 5 rfl) (sbc (sa_m 6 rfl) (sbc (sa_m 7 rfl) (sbc (sa_m 8 rfl) (sbc (sa_m 9 rfl) (sbc (sa_m 10 rfl) (sbc (sa_m 11 rfl) (sbc (sa_m 12 rfl) (sbc (sa_m 13 rfl) (sbc (sa_m 14 rfl) (sbc (sa_m 15 rfl) (sbc (sa_m 16 rfl) (sbc (sa_m 17 rfl) (sbc (sa_m 18 rfl) (sbc (sa_m 19 rfl) (sbc (sa_m 20 rfl) (sbc (sa_m 21 rfl) (sbc (sa_m 22 rfl) sbn))))))))))))))))))))))) hT)) fr29; hself _ _ _ _ h35 fr37)))))
  exact key 60000 _ _ _ _ h fr
def T_rd_readText_r11 (i3 : Nat) (ip : Nat) : List At := [(12, none, some 3), (12, none, some 4), (12, none, some 0), (12, none, some 1), (12, none, some 5), (12, none, some 6), (19, some ip, none), (18, some ip, some 0), (20, some ip, none), (18, some ip, some 1), (21, some ip, none), (22, some ip, none), (27, some ip, none), (18, some ip, some 2), (23, some ip, none), (28, some ip, none), (29, some ip, none), (26, some ip, some 4), (18, some ip, some 3), (24, some ip, none), (25, some ip, none), (18, some ip, some 11), (12, none, some 8), (17, none, none), (26, some ip, some 5), (26, some ip, some 6), (30, some ip, none), (13, none, some 3), (14, none, none), (15, none, none), (16, none, none)]
def T_tk_fitsKnown_r53_L2 (i1 : Nat) : List At := []
theorem f_tk_fitsKnown_r53_L2 {μ0 : Mem} {T : List At} {i1 : Nat} {x2 : Int32}   {x3 : Int32} {μ : Mem} {z : Int32 × Mem} (h : tk_fitsKnown_r53_L2 i1 x2 x3 μ = some z) (fr : Fr T μ0 μ) (hT : Sb (T_tk_fitsKnown_r53_L2 i1) T)   : Fr T μ0 z.2 := by
  have key : ∀ (n : Nat), (∀ (x3 : Int32) (μ : Mem) z, fixN (fun _ _ => none) (tk_fitsKnown_r53_B2 i1 x2) n x3 μ = some z → Fr T μ0 μ → Fr T μ0 z.2) := by
    intro n
    refine fixN_ind (fun (f : Int32 → Mem → Option (Int32 × Mem)) => ∀ (x3 : Int32) (μ : Mem) z, f x3 μ = some z → Fr T μ0 μ → Fr T μ0 z.2) ?_ ?_ n
    · intro x3 μ z h; cases h
    · intro self hself x3 μ z h fr
      unfold tk_fitsKnown_r53_B2 at h
      exact fi h (fun h2 => fr_ret h2 fr) (fun h3 => fi h3 (fun h5 => fr_ret h5 fr) (fun h6 => (have h8 := fgv h6; (have h10 := fgv h8; fi h10 (fun h13 => fi h13 (fun h18 => hself _ _ _ h18 fr) (fun h19 => fr_ret h19 fr)) (fun h12 => fi h12 (fun h15 => hself _ _ _ h15 fr) (fun h16 => fr_ret h16 fr))))))
  exact key 60000 _ _ _ h fr
def T_tk_fitsKnown_r53 (i1 : Nat) : List At := []
theorem f_tk_fitsKnown_r53 {μ : Mem} {i1 : Nat} {x2 : Int32}  {z : Int32 × Mem} (h : tk_fitsKnown_r53 i1 x2 μ = some z) : Fr (T_tk_fitsKnown_r53 i1) μ z.2 := by
  unfold tk_fitsKnown_r53 at h
  exact f_tk_fitsKnown_r53_L2 h (Fr.rf (T_tk_fitsKnown_r53 i1) μ) sbn  
def T_s_putOnTape_L3 : List At := [(11, none, none), (10, none, some 1)]
theorem f_s_putOnTape_L3 {μ0 : Mem} {T : List At} {x1 : Int32}   {x2 : Int32} {μ : Mem} {z : Unit × Mem} (h : s_putOnTape_L3 x1 x2 μ = some z) (fr : Fr T μ0 μ) (hT : Sb (T_s_putOnTape_L3) T)   : Fr T μ0 z.2 := by
  have key : ∀ (n : Nat), (∀ (x2 : Int32) (μ : Mem) z, fixN (fun _ _ => none) (s_putOnTape_B3 x1) n x2 μ = some z → Fr T μ0 μ → Fr T μ0 z.2) := by
    intro n
    refine fixN_ind (fun (f : Int32 → Mem → Option (Unit × Mem)) => ∀ (x2 : Int32) (μ : Mem) z, f x2 μ = some z → Fr T μ0 μ → Fr T μ0 z.2) ?_ ?_ n
    · intro x2 μ z h; cases h
    · intro self hself x2 μ z h fr
      unfold s_putOnTape_B3 at h
      exact fi h (fun h2 => fr_ret h2 fr) (fun h3 => fi h3 (fun h5 => fr_ret h5 fr) (fun h6 => (have h8 := fgv h6; (let μ9 : Mem := stI μ 11 0 (cl (mI μ 10 0 1)) (Int8.toInt32 (Int32.toInt8 (Int8.toInt32 (Int32.toInt8 (ushr x1 x2))))); have fr10 : Fr T μ0 μ9 := Fr.stI fr (hT _ _ _ (iT 0 rfl inA_nn)); have h11 := mb_o h8; hself _ _ _ h11 (Fr.stI fr10 (hT _ _ _ (iT 1 rfl inA_ns)))))))
  exact key 60000 _ _ _ h fr
def T_s_putOnTape : List At := [(11, none, none), (10, none, some 1)]
theorem f_s_putOnTape {μ : Mem} {x1 : Int32}  {z : Unit × Mem} (h : s_putOnTape x1 μ = some z) : Fr (T_s_putOnTape) μ z.2 := by
  unfold s_putOnTape at h
  exact f_s_putOnTape_L3 h (Fr.rf (T_s_putOnTape) μ) (sbc (sa_m 0 rfl) (sbc (sa_m 1 rfl) sbn))  
def T_s_feed : List At := [(11, none, none), (10, none, some 1)]
theorem f_s_feed {μ : Mem} {x1 : Int32} {x2 : Int32} {x3 : Int32} {x4 : Int32} {x5 : Int32}  {z : Int32 × Mem} (h : s_feed x1 x2 x3 x4 x5 μ = some z) : Fr (T_s_feed) μ z.2 := by
  unfold s_feed at h
  exact fi h (fun h2 => fo h2 (fun _ μ4 e33 h6 => have fr8 : Fr (T_s_feed) μ μ4 := Fr.tr (Fr.mono (f_s_putOnTape  e33) (sbc (sa_m 0 rfl) (sbc (sa_m 1 rfl) sbn))) (Fr.rf (T_s_feed) μ); fo h6 (fun _ μ9 e32 h11 => have fr13 : Fr (T_s_feed) μ μ9 := Fr.tr (Fr.mono (f_s_putOnTape  e32) (sbc (sa_m 0 rfl) (sbc (sa_m 1 rfl) sbn))) fr8; fo h11 (fun _ μ14 e31 h16 => have fr18 : Fr (T_s_feed) μ μ14 := Fr.tr (Fr.mono (f_s_putOnTape  e31) (sbc (sa_m 0 rfl) (sbc (sa_m 1 rfl) sbn))) fr13; fo h16 (fun _ μ19 e30 h21 => have fr23 : Fr (T_s_feed) μ μ19 := Fr.tr (Fr.mono (f_s_putOnTape  e30) (sbc (sa_m 0 rfl) (sbc (sa_m 1 rfl) sbn))) fr18; fo h21 (fun _ μ24 e29 h26 => have fr28 : Fr (T_s_feed) μ μ24 := Fr.tr (Fr.mono (f_s_putOnTape  e29) (sbc (sa_m 0 rfl) (sbc (sa_m 1 rfl) sbn))) fr23; fr_ret h26 fr28)))))) (fun h3 => fr_ret h3 (Fr.rf (T_s_feed) μ))
def T_s_back : List At := [(10, none, some 1)]
theorem f_s_back {μ : Mem} {x1 : Int32}  {z : Int32 × Mem} (h : s_back x1 μ = some z) : Fr (T_s_back) μ z.2 := by
  unfold s_back at h
  exact fi h (fun h2 => fr_ret h2 (Fr.rf (T_s_back) μ)) (fun h3 => fi h3 (fun h5 => fr_ret h5 (Fr.stI (Fr.rf (T_s_back) μ) (iT 0 rfl inA_ns))) (fun h6 => fr_ret h6 (Fr.rf (T_s_back) μ)))
def T_s_beginPlan_L64 : List At := [(47, none, none)]
theorem f_s_beginPlan_L64 {μ0 : Mem} {T : List At}    {x1 : Int32} {μ : Mem} {z : Unit × Mem} (h : s_beginPlan_L64  x1 μ = some z) (fr : Fr T μ0 μ) (hT : Sb (T_s_beginPlan_L64) T)   : Fr T μ0 z.2 := by
  have key : ∀ (n : Nat), (∀ (x1 : Int32) (μ : Mem) z, fixN (fun _ _ => none) (s_beginPlan_B64 ) n x1 μ = some z → Fr T μ0 μ → Fr T μ0 z.2) := by
    intro n
    refine fixN_ind (fun (f : Int32 → Mem → Option (Unit × Mem)) => ∀ (x1 : Int32) (μ : Mem) z, f x1 μ = some z → Fr T μ0 μ → Fr T μ0 z.2) ?_ ?_ n
    · intro x1 μ z h; cases h
    · intro self hself x1 μ z h fr
      unfold s_beginPlan_B64 at h
      exact fi h (fun h24 => fr_ret h24 fr) (fun h25 => (have h27 := fgv h25; hself _ _ _ h27 (Fr.stI fr (hT _ _ _ (iT 0 rfl inA_nn)))))
  exact key 60000 _ _ _ h fr
def T_s_beginPlan : List At := [(31, some 0, some 0), (31, some 1, some 0), (44, none, some 2), (48, none, some 3), (47, none, none), (32, some 0, some 0), (35, some 0, none), (32, some 0, some 4), (32, some 0, some 3), (34, some 0, none), (33, some 0, none), (32, some 0, some 2), (32, some 0, some 1), (41, none, none), (39, some 0, none), (38, some 0, none), (36, some 0, none), (37, some 0, none), (27, some 2, none), (28, some 2, none), (29, some 2, none), (30, some 2, none), (26, some 2, some 4), (26, some 2, some 5), (26, some 2, some 6)]
theorem f_s_beginPlan {μ : Mem}   {z : Unit × Mem} (h : s_beginPlan  μ = some z) : Fr (T_s_beginPlan) μ z.2 := by
  unfold s_beginPlan at h
  exact (have h2 := fgv h; (have h4 := fgv h2; (let μ5 : Mem := stR (stR μ 31 0 0 (mR μ 10 0 3)) 31 1 0 (mR (stR μ 31 0 0 (mR μ 10 0 3)) 10 0 3); have fr6 : Fr (T_s_beginPlan) μ μ5 := Fr.stR (Fr.stR (Fr.rf (T_s_beginPlan) μ) (iT 0 rfl inA_es)) (iT 1 rfl inA_es); have h7 := mb_o h4; (have h9 := fgv h7; fo h9 (fun _ μ10 e29 h12 => have fr14 : Fr (T_s_beginPlan) μ μ10 := Fr.tr (Fr.mono (f_st_become  e29) (sbc (sa_m 18 rfl) (sbc (sa_m 19 rfl) (sbc (sa_m 20 rfl) (sbc (sa_m 21 rfl) (sbc (sa_m 22 rfl) (sbc (sa_m 23 rfl) (sbc (sa_m 24 rfl) sbn)))))))) fr6; fo h12 (fun _ μ15 e28 h17 => have fr19 : Fr (T_s_beginPlan) μ μ15 := Fr.tr (Fr.mono (f_wo_settle  e28) (sbc (sa_m 5 rfl) (sbc (sa_m 6 rfl) (sbc (sa_m 7 rfl) (sbc (sa_m 8 rfl) (sbc (sa_m 9 rfl) (sbc (sa_m 10 rfl) (sbc (sa_m 11 rfl) (sbc (sa_m 12 rfl) (sbc (sa_m 13 rfl) (sbc (sa_m 14 rfl) (sbc (sa_m 15 rfl) (sbc (sa_m 16 rfl) (sbc (sa_m 17 rfl) sbn)))))))))))))) fr14; (let μ20 : Mem := stI (stI μ15 44 0 2 (nI 0)) 48 0 3 (nI 0); have fr21 : Fr (T_s_beginPlan) μ μ20 := Fr.stI (Fr.stI fr19 (iT 2 rfl inA_ns)) (iT 3 rfl inA_ns); have h22 := mb_o h17; f_s_beginPlan_L64 h22 fr21 (sbc (sa_m 4 rfl) sbn)  )))))))
def T_s_read : List At := [(10, none, some 1), (10, none, some 2), (10, none, some 3), (10, none, some 4), (31, some 0, some 0), (31, some 1, some 0), (44, none, some 2), (48, none, some 3), (47, none, none), (32, some 0, some 0), (35, some 0, none), (32, some 0, some 4), (32, some 0, some 3), (34, some 0, none), (33, some 0, none), (32, some 0, some 2), (32, some 0, some 1), (41, none, none), (39, some 0, none), (38, some 0, none), (36, some 0, none), (37, some 0, none), (27, some 2, none), (28, some 2, none), (29, some 2, none), (30, some 2, none), (26, some 2, some 4), (26, some 2, some 5), (26, some 2, some 6)]
def T_s_place : List At := []
theorem f_s_place {μ : Mem}   {z : Int32 × Mem} (h : s_place  μ = some z) : Fr (T_s_place) μ z.2 := by
  unfold s_place at h
  exact fr_ret h (Fr.rf (T_s_place) μ)
def T_s_isLog : List At := []
theorem f_s_isLog {μ : Mem} {x1 : Int32}  {z : Int32 × Mem} (h : s_isLog x1 μ = some z) : Fr (T_s_isLog) μ z.2 := by
  unfold s_isLog at h
  exact fi h (fun h2 => fr_ret h2 (Fr.rf (T_s_isLog) μ)) (fun h3 => (have h5 := fgv h3; fi h5 (fun h7 => fr_ret h7 (Fr.rf (T_s_isLog) μ)) (fun h8 => fi h8 (fun h10 => fr_ret h10 (Fr.rf (T_s_isLog) μ)) (fun h11 => fr_ret h11 (Fr.rf (T_s_isLog) μ)))))
def T_s_greatestDivisor_L9 : List At := []
theorem f_s_greatestDivisor_L9 {μ0 : Mem} {T : List At}    {x4 : Int64} {x6 : Int64} {x8 : Int32} {μ : Mem} {z : Int64 × Mem} (h : s_greatestDivisor_L9  x4 x6 x8 μ = some z) (fr : Fr T μ0 μ) (hT : Sb (T_s_greatestDivisor_L9) T)   : Fr T μ0 z.2 := by
  have key : ∀ (n : Nat), (∀ (x4 : Int64) (x6 : Int64) (x8 : Int32) (μ : Mem) z, fixN (fun _ _ _ _ => none) (s_greatestDivisor_B9 ) n x4 x6 x8 μ = some z → Fr T μ0 μ → Fr T μ0 z.2) := by
    intro n
    refine fixN_ind (fun (f : Int64 → Int64 → Int32 → Mem → Option (Int64 × Mem)) => ∀ (x4 : Int64) (x6 : Int64) (x8 : Int32) (μ : Mem) z, f x4 x6 x8 μ = some z → Fr T μ0 μ → Fr T μ0 z.2) ?_ ?_ n
    · intro x4 x6 x8 μ z h; cases h
    · intro self hself x4 x6 x8 μ z h fr
      unfold s_greatestDivisor_B9 at h
      exact fi h (fun h2 => fr_ret h2 fr) (fun h3 => fi h3 (fun h5 => fr_ret h5 fr) (fun h6 => (have h8 := fgv h6; hself _ _ _ _ _ h8 fr)))
  exact key 60000 _ _ _ _ _ h fr
def T_s_greatestDivisor : List At := []
theorem f_s_greatestDivisor {μ : Mem} {x0 : Int64} {x2 : Int64}  {z : Int64 × Mem} (h : s_greatestDivisor x0 x2 μ = some z) : Fr (T_s_greatestDivisor) μ z.2 := by
  unfold s_greatestDivisor at h
  exact f_s_greatestDivisor_L9 h (Fr.rf (T_s_greatestDivisor) μ) sbn  
def T_s_overInLeast : List At := []
theorem f_s_overInLeast {μ : Mem} {x0 : Int64} {x2 : Int64}  {z : Int32 × Mem} (h : s_overInLeast x0 x2 μ = some z) : Fr (T_s_overInLeast) μ z.2 := by
  unfold s_overInLeast at h
  exact fo h (fun r4 μ1 e11 h3 => have fr5 : Fr (T_s_overInLeast) μ μ1 := Fr.tr (Fr.mono (f_s_greatestDivisor  e11) sbn) (Fr.rf (T_s_overInLeast) μ); fi h3 (fun h8 => fr_ret h8 fr5) (fun h7 => (have h10 := fgv h7; fr_ret h10 fr5)))
def T_s_underInLeast : List At := []
theorem f_s_underInLeast {μ : Mem} {x0 : Int64} {x2 : Int64}  {z : Int32 × Mem} (h : s_underInLeast x0 x2 μ = some z) : Fr (T_s_underInLeast) μ z.2 := by
  unfold s_underInLeast at h
  exact fo h (fun r4 μ1 e11 h3 => have fr5 : Fr (T_s_underInLeast) μ μ1 := Fr.tr (Fr.mono (f_s_greatestDivisor  e11) sbn) (Fr.rf (T_s_underInLeast) μ); fi h3 (fun h8 => fr_ret h8 fr5) (fun h7 => (have h10 := fgv h7; fr_ret h10 fr5)))
def T_s_log : List At := []
theorem f_s_log {μ : Mem} {x1 : Int32} {x2 : Int32}  {z : Int32 × Mem} (h : s_log x1 x2 μ = some z) : Fr (T_s_log) μ z.2 := by
  unfold s_log at h
  exact fo h (fun r4 μ1 e45 h3 => have fr5 : Fr (T_s_log) μ μ1 := Fr.tr (Fr.mono (f_s_isLog  e45) sbn) (Fr.rf (T_s_log) μ); fi h3 (fun h8 => fr_ret h8 fr5) (fun h7 => (fi h7 (fun h10 => (have h12 := fgv h10; fo h12 (fun r16 μ13 e18 h15 => have fr17 : Fr (T_s_log) μ μ13 := Fr.tr (Fr.mono (f_s_overInLeast  e18) sbn) fr5; fr_ret h15 fr17))) (fun h_ => (fi h_ (fun h19 => (have h21 := fgv h19; fo h21 (fun r25 μ22 e27 h24 => have fr26 : Fr (T_s_log) μ μ22 := Fr.tr (Fr.mono (f_s_underInLeast  e27) sbn) fr5; fr_ret h24 fr26))) (fun h_ => (fi h_ (fun h28 => fo h28 (fun r32 μ29 e34 h31 => have fr33 : Fr (T_s_log) μ μ29 := Fr.tr (Fr.mono (f_wo_widthsOf  e34) sbn) fr5; fr_ret h31 fr33)) (fun h_ => (fi h_ (fun h35 => (have h37 := fgv h35; fo h37 (fun r41 μ38 e43 h40 => have fr42 : Fr (T_s_log) μ μ38 := Fr.tr (Fr.mono (f_pl_notchesOf  e43) sbn) fr5; fr_ret h40 fr42))) (fun h44 => fr_ret h44 fr5))))))))))
def T_s_isField : List At := []
theorem f_s_isField {μ : Mem} {x1 : Int32}  {z : Int32 × Mem} (h : s_isField x1 μ = some z) : Fr (T_s_isField) μ z.2 := by
  unfold s_isField at h
  exact fi h (fun h2 => fr_ret h2 (Fr.rf (T_s_isField) μ)) (fun h3 => (have h5 := fgv h3; fi h5 (fun h7 => fr_ret h7 (Fr.rf (T_s_isField) μ)) (fun h8 => fi h8 (fun h10 => fr_ret h10 (Fr.rf (T_s_isField) μ)) (fun h11 => fr_ret h11 (Fr.rf (T_s_isField) μ)))))
def T_s_field : List At := [(43, some 0, none), (42, some 0, none)]
theorem f_s_field {μ : Mem} {x1 : Int32} {x2 : Int32}  {z : Int32 × Mem} (h : s_field x1 x2 μ = some z) : Fr (T_s_field) μ z.2 := by
  unfold s_field at h
  exact fo h (fun r4 μ1 e67 h3 => have fr5 : Fr (T_s_field) μ μ1 := Fr.tr (Fr.mono (f_s_isField  e67) sbn) (Fr.rf (T_s_field) μ); fi h3 (fun h8 => fr_ret h8 fr5) (fun h7 => (fi h7 (fun h10 => (have h12 := fgv h10; fo h12 (fun r16 μ13 e18 h15 => have fr17 : Fr (T_s_field) μ μ13 := Fr.tr (Fr.mono (f_s_overInLeast  e18) sbn) fr5; fr_ret h15 fr17))) (fun h_ => (fi h_ (fun h19 => (have h21 := fgv h19; fo h21 (fun r25 μ22 e27 h24 => have fr26 : Fr (T_s_field) μ μ22 := Fr.tr (Fr.mono (f_s_underInLeast  e27) sbn) fr5; fr_ret h24 fr26))) (fun h_ => (fi h_ (fun h28 => (have h30 := fgv h28; fr_ret h30 fr5)) (fun h_ => (fi h_ (fun h31 => (have h33 := fgv h31; (have h35 := fgv h33; fr_ret h35 fr5))) (fun h_ => (fi h_ (fun h36 => fo h36 (fun r40 μ37 e42 h39 => have fr41 : Fr (T_s_field) μ μ37 := Fr.tr (Fr.mono (f_wo_needsOf  e42) (sbc (sa_m 0 rfl) (sbc (sa_m 1 rfl) sbn))) fr5; fr_ret h39 fr41)) (fun h_ => (fi h_ (fun h43 => fo h43 (fun r47 μ44 e49 h46 => have fr48 : Fr (T_s_field) μ μ44 := Fr.tr (Fr.mono (f_wo_worthOf  e49) (sbc (sa_m 0 rfl) (sbc (sa_m 1 rfl) sbn))) fr5; fr_ret h46 fr48)) (fun h_ => (fi h_ (fun h50 => (have h52 := fgv h50; fr_ret h52 fr5)) (fun h_ => (fi h_ (fun h53 => (have h55 := fgv h53; fr_ret h55 fr5)) (fun h_ => (fi h_ (fun h56 => (have h58 := fgv h56; fr_ret h58 fr5)) (fun h_ => (fi h_ (fun h59 => fo h59 (fun r63 μ60 e65 h62 => have fr64 : Fr (T_s_field) μ μ60 := Fr.tr (Fr.mono (f_wo_widthsTo  e65) sbn) fr5; fr_ret h62 fr64)) (fun h66 => fr_ret h66 fr5))))))))))))))))))))))
def T_s_isNotch : List At := []
theorem f_s_isNotch {μ : Mem} {x1 : Int32}  {z : Int32 × Mem} (h : s_isNotch x1 μ = some z) : Fr (T_s_isNotch) μ z.2 := by
  unfold s_isNotch at h
  exact fi h (fun h2 => fr_ret h2 (Fr.rf (T_s_isNotch) μ)) (fun h3 => (have h5 := fgv h3; fi h5 (fun h7 => fr_ret h7 (Fr.rf (T_s_isNotch) μ)) (fun h8 => fi h8 (fun h10 => fr_ret h10 (Fr.rf (T_s_isNotch) μ)) (fun h11 => fr_ret h11 (Fr.rf (T_s_isNotch) μ)))))
def T_s_notch : List At := [(43, some 0, none), (42, some 0, none)]
theorem f_s_notch {μ : Mem} {x1 : Int32} {x2 : Int32}  {z : Int32 × Mem} (h : s_notch x1 x2 μ = some z) : Fr (T_s_notch) μ z.2 := by
  unfold s_notch at h
  exact fo h (fun r4 μ1 e38 h3 => have fr5 : Fr (T_s_notch) μ μ1 := Fr.tr (Fr.mono (f_s_isNotch  e38) sbn) (Fr.rf (T_s_notch) μ); fi h3 (fun h8 => fr_ret h8 fr5) (fun h7 => (fi h7 (fun h10 => (have h12 := fgv h10; (have h14 := fgv h12; fr_ret h14 fr5))) (fun h_ => (fi h_ (fun h15 => (have h17 := fgv h15; (have h19 := fgv h17; fr_ret h19 fr5))) (fun h_ => (fi h_ (fun h20 => (have h22 := fgv h20; fr_ret h22 fr5)) (fun h_ => (fi h_ (fun h23 => fo h23 (fun r27 μ24 e29 h26 => have fr28 : Fr (T_s_notch) μ μ24 := Fr.tr (Fr.mono (f_wo_costsOf  e29) (sbc (sa_m 0 rfl) (sbc (sa_m 1 rfl) sbn))) fr5; fr_ret h26 fr28)) (fun h_ => (fi h_ (fun h30 => fo h30 (fun r34 μ31 e36 h33 => have fr35 : Fr (T_s_notch) μ μ31 := Fr.tr (Fr.mono (f_wo_siltsOf  e36) (sbc (sa_m 0 rfl) (sbc (sa_m 1 rfl) sbn))) fr5; fr_ret h33 fr35)) (fun h37 => fr_ret h37 fr5))))))))))))
def T_s_isFrom : List At := []
theorem f_s_isFrom {μ : Mem} {x0 : Int32} {x1 : Int32} {x2 : Int32}  {z : Int32 × Mem} (h : s_isFrom x0 x1 x2 μ = some z) : Fr (T_s_isFrom) μ z.2 := by
  unfold s_isFrom at h
  exact fi h (fun h2 => fr_ret h2 (Fr.rf (T_s_isFrom) μ)) (fun h3 => fi h3 (fun h5 => fr_ret h5 (Fr.rf (T_s_isFrom) μ)) (fun h6 => fr_ret h6 (Fr.rf (T_s_isFrom) μ)))
def T_s_stepNumber : List At := []
theorem f_s_stepNumber {μ : Mem} {x0 : Int32} {x1 : Int32}  {z : Int32 × Mem} (h : s_stepNumber x0 x1 μ = some z) : Fr (T_s_stepNumber) μ z.2 := by
  unfold s_stepNumber at h
  exact fi h (fun h2 => fr_ret h2 (Fr.rf (T_s_stepNumber) μ)) (fun h3 => fr_ret h3 (Fr.rf (T_s_stepNumber) μ))
def T_s_step : List At := [(26, some 2, some 6), (32, some 0, some 0), (35, some 0, none), (32, some 0, some 4), (32, some 0, some 3), (34, some 0, none), (33, some 0, none), (32, some 0, some 2), (32, some 0, some 1), (41, none, none), (39, some 0, none), (38, some 0, none), (36, some 0, none), (37, some 0, none), (27, some 2, none), (44, none, some 1), (44, none, some 2), (27, none, none), (28, none, none), (29, none, none), (30, none, none), (26, none, some 4), (26, none, some 5), (26, none, some 6), (43, some 0, none), (42, some 0, none)]
theorem f_s_step {μ : Mem} {x1 : Int32} {x2 : Int32}  {z : Int32 × Mem} (h : s_step x1 x2 μ = some z) : Fr (T_s_step) μ z.2 := by
  unfold s_step at h
  exact fo h (fun r4 μ1 e54 h3 => have fr5 : Fr (T_s_step) μ μ1 := Fr.tr (Fr.mono (f_s_isNotch  e54) sbn) (Fr.rf (T_s_step) μ); fi h3 (fun h7 => fr_ret h7 fr5) (fun h8 => fo h8 (fun r12 μ9 e53 h11 => have fr13 : Fr (T_s_step) μ μ9 := Fr.tr (Fr.mono (f_s_stepNumber  e53) sbn) fr5; fo h11 (fun r17 μ14 e52 h16 => have fr18 : Fr (T_s_step) μ μ14 := Fr.tr (Fr.mono (f_wo_canStep  e52) sbn) fr13; fi h16 (fun h21 => fr_ret h21 fr18) (fun h20 => fo h20 (fun r25 μ22 e51 h24 => have fr26 : Fr (T_s_step) μ μ22 := Fr.tr (Fr.mono (f_wo_costsOf  e51) (sbc (sa_m 24 rfl) (sbc (sa_m 25 rfl) sbn))) fr18; fo h24 (fun _ μ27 e50 h29 => have fr31 : Fr (T_s_step) μ μ27 := Fr.tr (Fr.mono (f_pa_push  e50) (sbc (sa_m 15 rfl) (sbc (sa_m 16 rfl) (sbc (sa_m 17 rfl) (sbc (sa_m 18 rfl) (sbc (sa_m 19 rfl) (sbc (sa_m 20 rfl) (sbc (sa_m 21 rfl) (sbc (sa_m 22 rfl) (sbc (sa_m 23 rfl) sbn)))))))))) fr26; fo h29 (fun r35 μ32 e49 h34 => have fr36 : Fr (T_s_step) μ μ32 := Fr.tr (Fr.mono (f_s_stepNumber  e49) sbn) fr31; fo h34 (fun _ μ37 e48 h39 => have fr41 : Fr (T_s_step) μ μ37 := Fr.tr (Fr.mono (f_wo_doStep  e48) (sbc (sa_m 14 rfl) sbn)) fr36; fo h39 (fun _ μ42 e47 h44 => have fr46 : Fr (T_s_step) μ μ42 := Fr.tr (Fr.mono (f_wo_settle  e47) (sbc (sa_m 1 rfl) (sbc (sa_m 2 rfl) (sbc (sa_m 3 rfl) (sbc (sa_m 4 rfl) (sbc (sa_m 5 rfl) (sbc (sa_m 6 rfl) (sbc (sa_m 7 rfl) (sbc (sa_m 8 rfl) (sbc (sa_m 9 rfl) (sbc (sa_m 10 rfl) (sbc (sa_m 11 rfl) (sbc (sa_m 12 rfl) (sbc (sa_m 13 rfl) sbn)))))))))))))) (Fr.stI fr41 (iT 0 rfl inA_es)); fr_ret h44 fr46))))))))))
def T_s_drain : List At := [(28, some 2, none), (29, some 2, none), (32, some 0, some 0), (35, some 0, none), (32, some 0, some 4), (32, some 0, some 3), (34, some 0, none), (33, some 0, none), (32, some 0, some 2), (32, some 0, some 1), (41, none, none), (39, some 0, none), (38, some 0, none), (36, some 0, none), (37, some 0, none), (44, none, some 1), (44, none, some 2), (27, none, none), (28, none, none), (29, none, none), (30, none, none), (26, none, some 4), (26, none, some 5), (26, none, some 6)]
theorem f_s_drain {μ : Mem} {x1 : Int32} {x2 : Int32} {x3 : Int32}  {z : Int32 × Mem} (h : s_drain x1 x2 x3 μ = some z) : Fr (T_s_drain) μ z.2 := by
  unfold s_drain at h
  exact fo h (fun r4 μ1 e65 h3 => have fr5 : Fr (T_s_drain) μ μ1 := Fr.tr (Fr.mono (f_s_isField  e65) sbn) (Fr.rf (T_s_drain) μ); fi h3 (fun h7 => fr_ret h7 fr5) (fun h8 => fo h8 (fun r12 μ9 e64 h11 => have fr13 : Fr (T_s_drain) μ μ9 := Fr.tr (Fr.mono (f_s_isLog  e64) sbn) fr5; fi h11 (fun h15 => fr_ret h15 fr13) (fun h16 => fo h16 (fun r20 μ17 e63 h19 => have fr21 : Fr (T_s_drain) μ μ17 := Fr.tr (Fr.mono (f_s_isFrom  e63) sbn) fr13; fi h19 (fun h24 => fr_ret h24 fr21) (fun h23 => (have h26 := fgv h23; fi h26 (fun h29 => fi h29 (fun h47 => fr_ret h47 fr21) (fun h46 => fo h46 (fun _ μ48 e62 h50 => have fr52 : Fr (T_s_drain) μ μ48 := Fr.tr (Fr.mono (f_pa_push  e62) (sbc (sa_m 15 rfl) (sbc (sa_m 16 rfl) (sbc (sa_m 17 rfl) (sbc (sa_m 18 rfl) (sbc (sa_m 19 rfl) (sbc (sa_m 20 rfl) (sbc (sa_m 21 rfl) (sbc (sa_m 22 rfl) (sbc (sa_m 23 rfl) sbn)))))))))) fr21; (let μ53 : Mem := stI (stI μ48 28 2 (cl x1) x2) 29 2 (cl x1) x3; have fr54 : Fr (T_s_drain) μ μ53 := Fr.stI (Fr.stI fr52 (iT 0 rfl inA_en)) (iT 1 rfl inA_en); have h55 := mb_o h50; fo h55 (fun _ μ56 e61 h58 => have fr60 : Fr (T_s_drain) μ μ56 := Fr.tr (Fr.mono (f_wo_settle  e61) (sbc (sa_m 2 rfl) (sbc (sa_m 3 rfl) (sbc (sa_m 4 rfl) (sbc (sa_m 5 rfl) (sbc (sa_m 6 rfl) (sbc (sa_m 7 rfl) (sbc (sa_m 8 rfl) (sbc (sa_m 9 rfl) (sbc (sa_m 10 rfl) (sbc (sa_m 11 rfl) (sbc (sa_m 12 rfl) (sbc (sa_m 13 rfl) (sbc (sa_m 14 rfl) sbn)))))))))))))) fr54; fr_ret h58 fr60))))) (fun h28 => fo h28 (fun _ μ30 e44 h32 => have fr34 : Fr (T_s_drain) μ μ30 := Fr.tr (Fr.mono (f_pa_push  e44) (sbc (sa_m 15 rfl) (sbc (sa_m 16 rfl) (sbc (sa_m 17 rfl) (sbc (sa_m 18 rfl) (sbc (sa_m 19 rfl) (sbc (sa_m 20 rfl) (sbc (sa_m 21 rfl) (sbc (sa_m 22 rfl) (sbc (sa_m 23 rfl) sbn)))))))))) fr21; (let μ35 : Mem := stI (stI μ30 28 2 (cl x1) x2) 29 2 (cl x1) x3; have fr36 : Fr (T_s_drain) μ μ35 := Fr.stI (Fr.stI fr34 (iT 0 rfl inA_en)) (iT 1 rfl inA_en); have h37 := mb_o h32; fo h37 (fun _ μ38 e43 h40 => have fr42 : Fr (T_s_drain) μ μ38 := Fr.tr (Fr.mono (f_wo_settle  e43) (sbc (sa_m 2 rfl) (sbc (sa_m 3 rfl) (sbc (sa_m 4 rfl) (sbc (sa_m 5 rfl) (sbc (sa_m 6 rfl) (sbc (sa_m 7 rfl) (sbc (sa_m 8 rfl) (sbc (sa_m 9 rfl) (sbc (sa_m 10 rfl) (sbc (sa_m 11 rfl) (sbc (sa_m 12 rfl) (sbc (sa_m 13 rfl) (sbc (sa_m 14 rfl) sbn)))))))))))))) fr36; fr_ret h40 fr42)))))))))))
def T_s_spring : List At := [(26, some 2, some 4), (32, some 0, some 0), (35, some 0, none), (32, some 0, some 4), (32, some 0, some 3), (34, some 0, none), (33, some 0, none), (32, some 0, some 2), (32, some 0, some 1), (41, none, none), (39, some 0, none), (38, some 0, none), (36, some 0, none), (37, some 0, none), (44, none, some 1), (44, none, some 2), (27, none, none), (28, none, none), (29, none, none), (30, none, none), (26, none, some 4), (26, none, some 5), (26, none, some 6)]
theorem f_s_spring {μ : Mem} {x1 : Int32}  {z : Int32 × Mem} (h : s_spring x1 μ = some z) : Fr (T_s_spring) μ z.2 := by
  unfold s_spring at h
  exact fo h (fun r4 μ1 e24 h3 => have fr5 : Fr (T_s_spring) μ μ1 := Fr.tr (Fr.mono (f_s_isFrom  e24) sbn) (Fr.rf (T_s_spring) μ); fi h3 (fun h7 => fr_ret h7 fr5) (fun h8 => fi h8 (fun h11 => fr_ret h11 fr5) (fun h10 => fo h10 (fun _ μ12 e23 h14 => have fr16 : Fr (T_s_spring) μ μ12 := Fr.tr (Fr.mono (f_pa_push  e23) (sbc (sa_m 14 rfl) (sbc (sa_m 15 rfl) (sbc (sa_m 16 rfl) (sbc (sa_m 17 rfl) (sbc (sa_m 18 rfl) (sbc (sa_m 19 rfl) (sbc (sa_m 20 rfl) (sbc (sa_m 21 rfl) (sbc (sa_m 22 rfl) sbn)))))))))) fr5; fo h14 (fun _ μ17 e22 h19 => have fr21 : Fr (T_s_spring) μ μ17 := Fr.tr (Fr.mono (f_wo_settle  e22) (sbc (sa_m 1 rfl) (sbc (sa_m 2 rfl) (sbc (sa_m 3 rfl) (sbc (sa_m 4 rfl) (sbc (sa_m 5 rfl) (sbc (sa_m 6 rfl) (sbc (sa_m 7 rfl) (sbc (sa_m 8 rfl) (sbc (sa_m 9 rfl) (sbc (sa_m 10 rfl) (sbc (sa_m 11 rfl) (sbc (sa_m 12 rfl) (sbc (sa_m 13 rfl) sbn)))))))))))))) (Fr.stI fr16 (iT 0 rfl inA_es)); fr_ret h19 fr21)))))
def T_s_days : List At := [(26, some 2, some 5), (32, some 0, some 0), (35, some 0, none), (32, some 0, some 4), (32, some 0, some 3), (34, some 0, none), (33, some 0, none), (32, some 0, some 2), (32, some 0, some 1), (41, none, none), (39, some 0, none), (38, some 0, none), (36, some 0, none), (37, some 0, none), (27, some 2, none), (43, some 0, none), (42, some 0, none), (30, some 2, none), (44, none, some 1), (44, none, some 2), (27, none, none), (28, none, none), (29, none, none), (30, none, none), (26, none, some 4), (26, none, some 5), (26, none, some 6)]
theorem f_s_days {μ : Mem} {x1 : Int32}  {z : Int32 × Mem} (h : s_days x1 μ = some z) : Fr (T_s_days) μ z.2 := by
  unfold s_days at h
  exact fo h (fun r4 μ1 e26 h3 => have fr5 : Fr (T_s_days) μ μ1 := Fr.tr (Fr.mono (f_s_isFrom  e26) sbn) (Fr.rf (T_s_days) μ); fi h3 (fun h8 => fr_ret h8 fr5) (fun h7 => fi h7 (fun h10 => fr_ret h10 fr5) (fun h11 => fo h11 (fun _ μ12 e25 h14 => have fr16 : Fr (T_s_days) μ μ12 := Fr.tr (Fr.mono (f_pa_push  e25) (sbc (sa_m 18 rfl) (sbc (sa_m 19 rfl) (sbc (sa_m 20 rfl) (sbc (sa_m 21 rfl) (sbc (sa_m 22 rfl) (sbc (sa_m 23 rfl) (sbc (sa_m 24 rfl) (sbc (sa_m 25 rfl) (sbc (sa_m 26 rfl) sbn)))))))))) fr5; (have h18 := fgv h14; fo h18 (fun _ μ19 e24 h21 => have fr23 : Fr (T_s_days) μ μ19 := Fr.tr (Fr.mono (f_wo_passDays  e24) (sbc (sa_m 0 rfl) (sbc (sa_m 1 rfl) (sbc (sa_m 2 rfl) (sbc (sa_m 3 rfl) (sbc (sa_m 4 rfl) (sbc (sa_m 5 rfl) (sbc (sa_m 6 rfl) (sbc (sa_m 7 rfl) (sbc (sa_m 8 rfl) (sbc (sa_m 9 rfl) (sbc (sa_m 10 rfl) (sbc (sa_m 11 rfl) (sbc (sa_m 12 rfl) (sbc (sa_m 13 rfl) (sbc (sa_m 14 rfl) (sbc (sa_m 15 rfl) (sbc (sa_m 16 rfl) (sbc (sa_m 17 rfl) sbn))))))))))))))))))) fr16; fr_ret h21 fr23))))))
def T_s_undo : List At := [(32, some 0, some 0), (35, some 0, none), (32, some 0, some 4), (32, some 0, some 3), (34, some 0, none), (33, some 0, none), (32, some 0, some 2), (32, some 0, some 1), (41, none, none), (39, some 0, none), (38, some 0, none), (36, some 0, none), (37, some 0, none), (44, none, some 1), (44, none, some 2), (27, some 2, none), (28, some 2, none), (29, some 2, none), (30, some 2, none), (26, some 2, some 4), (26, some 2, some 5), (26, some 2, some 6)]
theorem f_s_undo {μ : Mem}   {z : Int32 × Mem} (h : s_undo  μ = some z) : Fr (T_s_undo) μ z.2 := by
  unfold s_undo at h
  exact fo h (fun r4 μ1 e15 h3 => have fr5 : Fr (T_s_undo) μ μ1 := Fr.tr (Fr.mono (f_pa_pop  e15) (sbc (sa_m 13 rfl) (sbc (sa_m 14 rfl) (sbc (sa_m 15 rfl) (sbc (sa_m 16 rfl) (sbc (sa_m 17 rfl) (sbc (sa_m 18 rfl) (sbc (sa_m 19 rfl) (sbc (sa_m 20 rfl) (sbc (sa_m 21 rfl) sbn)))))))))) (Fr.rf (T_s_undo) μ); fi h3 (fun h8 => fr_ret h8 fr5) (fun h7 => fo h7 (fun _ μ9 e14 h11 => have fr13 : Fr (T_s_undo) μ μ9 := Fr.tr (Fr.mono (f_wo_settle  e14) (sbc (sa_m 0 rfl) (sbc (sa_m 1 rfl) (sbc (sa_m 2 rfl) (sbc (sa_m 3 rfl) (sbc (sa_m 4 rfl) (sbc (sa_m 5 rfl) (sbc (sa_m 6 rfl) (sbc (sa_m 7 rfl) (sbc (sa_m 8 rfl) (sbc (sa_m 9 rfl) (sbc (sa_m 10 rfl) (sbc (sa_m 11 rfl) (sbc (sa_m 12 rfl) sbn)))))))))))))) fr5; fr_ret h11 fr13)))
def T_s_river : List At := []
theorem f_s_river {μ : Mem} {x1 : Int32}  {z : Int32 × Mem} (h : s_river x1 μ = some z) : Fr (T_s_river) μ z.2 := by
  unfold s_river at h
  exact (fi h (fun h2 => fo h2 (fun r6 μ3 e8 h5 => have fr7 : Fr (T_s_river) μ μ3 := Fr.tr (Fr.mono (f_s_overInLeast  e8) sbn) (Fr.rf (T_s_river) μ); fr_ret h5 fr7)) (fun h_ => (fi h_ (fun h9 => fo h9 (fun r13 μ10 e15 h12 => have fr14 : Fr (T_s_river) μ μ10 := Fr.tr (Fr.mono (f_s_underInLeast  e15) sbn) (Fr.rf (T_s_river) μ); fr_ret h12 fr14)) (fun h_ => (fi h_ (fun h16 => fo h16 (fun r20 μ17 e22 h19 => have fr21 : Fr (T_s_river) μ μ17 := Fr.tr (Fr.mono (f_s_overInLeast  e22) sbn) (Fr.rf (T_s_river) μ); fr_ret h19 fr21)) (fun h_ => (fi h_ (fun h23 => fo h23 (fun r27 μ24 e29 h26 => have fr28 : Fr (T_s_river) μ μ24 := Fr.tr (Fr.mono (f_s_underInLeast  e29) sbn) (Fr.rf (T_s_river) μ); fr_ret h26 fr28)) (fun h30 => fr_ret h30 (Fr.rf (T_s_river) μ)))))))))
def T_s_round : List At := []
theorem f_s_round {μ : Mem}   {z : Int32 × Mem} (h : s_round  μ = some z) : Fr (T_s_round) μ z.2 := by
  unfold s_round at h
  exact fo h (fun r4 μ1 e6 h3 => have fr5 : Fr (T_s_round) μ μ1 := Fr.tr (Fr.mono (f_wa_hundredfold  e6) sbn) (Fr.rf (T_s_round) μ); fr_ret h3 fr5)
def T_s_lacking : List At := [(43, some 0, none), (42, some 0, none)]
theorem f_s_lacking {μ : Mem}   {z : Int32 × Mem} (h : s_lacking  μ = some z) : Fr (T_s_lacking) μ z.2 := by
  unfold s_lacking at h
  exact fo h (fun r4 μ1 e6 h3 => have fr5 : Fr (T_s_lacking) μ μ1 := Fr.tr (Fr.mono (f_wo_lackingFields  e6) (sbc (sa_m 0 rfl) (sbc (sa_m 1 rfl) sbn))) (Fr.rf (T_s_lacking) μ); fr_ret h3 fr5)
def T_s_dry_L19 : List At := []
theorem f_s_dry_L19 {μ0 : Mem} {T : List At}    {x1 : Int32} {x2 : Int32} {μ : Mem} {z : Int32 × Mem} (h : s_dry_L19  x1 x2 μ = some z) (fr : Fr T μ0 μ) (hT : Sb (T_s_dry_L19) T)   : Fr T μ0 z.2 := by
  have key : ∀ (n : Nat), (∀ (x1 : Int32) (x2 : Int32) (μ : Mem) z, fixN (fun _ _ _ => none) (s_dry_B19 ) n x1 x2 μ = some z → Fr T μ0 μ → Fr T μ0 z.2) := by
    intro n
    refine fixN_ind (fun (f : Int32 → Int32 → Mem → Option (Int32 × Mem)) => ∀ (x1 : Int32) (x2 : Int32) (μ : Mem) z, f x1 x2 μ = some z → Fr T μ0 μ → Fr T μ0 z.2) ?_ ?_ n
    · intro x1 x2 μ z h; cases h
    · intro self hself x1 x2 μ z h fr
      unfold s_dry_B19 at h
      exact (have h5 := fgv h; fi h5 (fun h7 => fr_ret h7 fr) (fun h8 => (have h10 := fgv h8; fi h10 (fun h13 => hself _ _ _ _ h13 fr) (fun h12 => hself _ _ _ _ h12 fr))))
  exact key 60000 _ _ _ _ h fr
def T_s_dry : List At := []
theorem f_s_dry {μ : Mem}   {z : Int32 × Mem} (h : s_dry  μ = some z) : Fr (T_s_dry) μ z.2 := by
  unfold s_dry at h
  exact fi h (fun h2 => f_s_dry_L19 h2 (Fr.rf (T_s_dry) μ) sbn  ) (fun h3 => fr_ret h3 (Fr.rf (T_s_dry) μ))
def T_s_wouldStep : List At := [(32, some 1, some 0), (35, some 1, none), (32, some 1, some 4), (32, some 1, some 3), (34, some 1, none), (33, some 1, none), (32, some 1, some 2), (32, some 1, some 1), (41, none, none), (39, some 1, none), (38, some 1, none), (36, some 1, none), (37, some 1, none), (27, some 3, none), (28, some 3, none), (29, some 3, none), (30, some 3, none), (26, some 3, some 4), (26, some 3, some 5), (26, some 3, some 6)]
theorem f_s_wouldStep {μ : Mem} {x1 : Int32}  {z : Int32 × Mem} (h : s_wouldStep x1 μ = some z) : Fr (T_s_wouldStep) μ z.2 := by
  unfold s_wouldStep at h
  exact fo h (fun r4 μ1 e27 h3 => have fr5 : Fr (T_s_wouldStep) μ μ1 := Fr.tr (Fr.mono (f_wo_canStep  e27) sbn) (Fr.rf (T_s_wouldStep) μ); fi h3 (fun h8 => fr_ret h8 fr5) (fun h7 => fo h7 (fun _ μ9 e26 h11 => have fr13 : Fr (T_s_wouldStep) μ μ9 := Fr.tr (Fr.mono (f_st_become  e26) (sbc (sa_m 13 rfl) (sbc (sa_m 14 rfl) (sbc (sa_m 15 rfl) (sbc (sa_m 16 rfl) (sbc (sa_m 17 rfl) (sbc (sa_m 18 rfl) (sbc (sa_m 19 rfl) sbn)))))))) fr5; fo h11 (fun _ μ14 e25 h16 => have fr18 : Fr (T_s_wouldStep) μ μ14 := Fr.tr (Fr.mono (f_wo_doStep  e25) (sbc (sa_m 13 rfl) sbn)) fr13; fo h16 (fun _ μ19 e24 h21 => have fr23 : Fr (T_s_wouldStep) μ μ19 := Fr.tr (Fr.mono (f_wo_settle  e24) (sbc (sa_m 0 rfl) (sbc (sa_m 1 rfl) (sbc (sa_m 2 rfl) (sbc (sa_m 3 rfl) (sbc (sa_m 4 rfl) (sbc (sa_m 5 rfl) (sbc (sa_m 6 rfl) (sbc (sa_m 7 rfl) (sbc (sa_m 8 rfl) (sbc (sa_m 9 rfl) (sbc (sa_m 10 rfl) (sbc (sa_m 11 rfl) (sbc (sa_m 12 rfl) sbn)))))))))))))) fr18; fr_ret h21 fr23)))))
def T_s_feelsWhatWould : List At := []
theorem f_s_feelsWhatWould {μ : Mem} {x1 : Int32}  {z : Int32 × Mem} (h : s_feelsWhatWould x1 μ = some z) : Fr (T_s_feelsWhatWould) μ z.2 := by
  unfold s_feelsWhatWould at h
  exact fi h (fun h3 => fi h3 (fun h5 => (have h8 := fgv h5; fi h8 (fun h10 => fi h10 (fun h13 => fr_ret h13 (Fr.rf (T_s_feelsWhatWould) μ)) (fun h14 => fr_ret h14 (Fr.rf (T_s_feelsWhatWould) μ))) (fun h11 => fr_ret h11 (Fr.rf (T_s_feelsWhatWould) μ)))) (fun h6 => fr_ret h6 (Fr.rf (T_s_feelsWhatWould) μ))) (fun h2 => fr_ret h2 (Fr.rf (T_s_feelsWhatWould) μ))
def T_s_feels : List At := [(32, some 1, some 0), (35, some 1, none), (32, some 1, some 4), (32, some 1, some 3), (34, some 1, none), (33, some 1, none), (32, some 1, some 2), (32, some 1, some 1), (41, none, none), (39, some 1, none), (38, some 1, none), (36, some 1, none), (37, some 1, none), (27, some 3, none), (28, some 3, none), (29, some 3, none), (30, some 3, none), (26, some 3, some 4), (26, some 3, some 5), (26, some 3, some 6)]
theorem f_s_feels {μ : Mem} {x1 : Int32} {x2 : Int32} {x3 : Int32}  {z : Int32 × Mem} (h : s_feels x1 x2 x3 μ = some z) : Fr (T_s_feels) μ z.2 := by
  unfold s_feels at h
  exact fo h (fun r4 μ1 e39 h3 => have fr5 : Fr (T_s_feels) μ μ1 := Fr.tr (Fr.mono (f_s_isNotch  e39) sbn) (Fr.rf (T_s_feels) μ); fi h3 (fun h7 => fr_ret h7 fr5) (fun h8 => fo h8 (fun r12 μ9 e38 h11 => have fr13 : Fr (T_s_feels) μ μ9 := Fr.tr (Fr.mono (f_s_isField  e38) sbn) fr5; fi h11 (fun h15 => fr_ret h15 fr13) (fun h16 => fo h16 (fun r20 μ17 e37 h19 => have fr21 : Fr (T_s_feels) μ μ17 := Fr.tr (Fr.mono (f_s_stepNumber  e37) sbn) fr13; fo h19 (fun r25 μ22 e36 h24 => have fr26 : Fr (T_s_feels) μ μ22 := Fr.tr (Fr.mono (f_s_wouldStep  e36) (sbc (sa_m 0 rfl) (sbc (sa_m 1 rfl) (sbc (sa_m 2 rfl) (sbc (sa_m 3 rfl) (sbc (sa_m 4 rfl) (sbc (sa_m 5 rfl) (sbc (sa_m 6 rfl) (sbc (sa_m 7 rfl) (sbc (sa_m 8 rfl) (sbc (sa_m 9 rfl) (sbc (sa_m 10 rfl) (sbc (sa_m 11 rfl) (sbc (sa_m 12 rfl) (sbc (sa_m 13 rfl) (sbc (sa_m 14 rfl) (sbc (sa_m 15 rfl) (sbc (sa_m 16 rfl) (sbc (sa_m 17 rfl) (sbc (sa_m 18 rfl) (sbc (sa_m 19 rfl) sbn))))))))))))))))))))) fr21; fi h24 (fun h29 => fr_ret h29 fr26) (fun h28 => fo h28 (fun r33 μ30 e35 h32 => have fr34 : Fr (T_s_feels) μ μ30 := Fr.tr (Fr.mono (f_s_feelsWhatWould  e35) sbn) fr26; fr_ret h32 fr34))))))))
def T_s_feelAllSteps_L16 : List At := [(53, none, none)]
theorem f_s_feelAllSteps_L16 {μ0 : Mem} {T : List At} {x1 : Int32} {x2 : Int32}  {k49 : Mem → Option (Unit × Mem)} {x3 : Int32} {μ : Mem} {z : Unit × Mem} (h : s_feelAllSteps_L16 x1 x2 k49 x3 μ = some z) (fr : Fr T μ0 μ) (hT : Sb (T_s_feelAllSteps_L16) T)  (hk49 : ∀  (μ : Mem) z, k49  μ = some z → Fr T μ0 μ → Fr T μ0 z.2) : Fr T μ0 z.2 := by
  have key : ∀ (n : Nat), (∀ (x3 : Int32) (μ : Mem) z, fixN (fun _ _ => none) (s_feelAllSteps_B16 x1 x2 k49) n x3 μ = some z → Fr T μ0 μ → Fr T μ0 z.2) := by
    intro n
    refine fixN_ind (fun (f : Int32 → Mem → Option (Unit × Mem)) => ∀ (x3 : Int32) (μ : Mem) z, f x3 μ = some z → Fr T μ0 μ → Fr T μ0 z.2) ?_ ?_ n
    · intro x3 μ z h; cases h
    · intro self hself x3 μ z h fr
      unfold s_feelAllSteps_B16 at h
      exact fi h (fun h10 => hk49 _ _ h10 fr) (fun h11 => (have h13 := fgv h11; fi h13 (fun h15 => (have h18 := fgv h15; hself _ _ _ h18 (Fr.stI fr (hT _ _ _ (iT 0 rfl inA_nn))))) (fun h16 => fo h16 (fun r22 μ19 e26 h21 => have fr23 : Fr T μ0 μ19 := Fr.tr (Fr.mono (f_s_feelsWhatWould  e26) (sbt sbn hT)) fr; (have h25 := fgv h21; hself _ _ _ h25 (Fr.stI fr23 (hT _ _ _ (iT 0 rfl inA_nn))))))))
  exact key 60000 _ _ _ h fr
def T_s_feelAllSteps_L2 : List At := [(53, none, none), (32, some 1, some 0), (35, some 1, none), (32, some 1, some 4), (32, some 1, some 3), (34, some 1, none), (33, some 1, none), (32, some 1, some 2), (32, some 1, some 1), (41, none, none), (39, some 1, none), (38, some 1, none), (36, some 1, none), (37, some 1, none), (27, some 3, none), (28, some 3, none), (29, some 3, none), (30, some 3, none), (26, some 3, some 4), (26, some 3, some 5), (26, some 3, some 6)]
theorem f_s_feelAllSteps_L2 {μ0 : Mem} {T : List At}    {x1 : Int32} {μ : Mem} {z : Unit × Mem} (h : s_feelAllSteps_L2  x1 μ = some z) (fr : Fr T μ0 μ) (hT : Sb (T_s_feelAllSteps_L2) T)   : Fr T μ0 z.2 := by
  have key : ∀ (n : Nat), (∀ (x1 : Int32) (μ : Mem) z, fixN (fun _ _ => none) (s_feelAllSteps_B2 ) n x1 μ = some z → Fr T μ0 μ → Fr T μ0 z.2) := by
    intro n
    refine fixN_ind (fun (f : Int32 → Mem → Option (Unit × Mem)) => ∀ (x1 : Int32) (μ : Mem) z, f x1 μ = some z → Fr T μ0 μ → Fr T μ0 z.2) ?_ ?_ n
    · intro x1 μ z h; cases h
    · intro self hself x1 μ z h fr
      unfold s_feelAllSteps_B2 at h
      exact fi h (fun h2 => fr_ret h2 fr) (fun h3 => fo h3 (fun r7 μ4 e31 h6 => have fr8 : Fr T μ0 μ4 := Fr.tr (Fr.mono (f_s_wouldStep  e31) (sbt (sbc (sa_m 1 rfl) (sbc (sa_m 2 rfl) (sbc (sa_m 3 rfl) (sbc (sa_m 4 rfl) (sbc (sa_m 5 rfl) (sbc (sa_m 6 rfl) (sbc (sa_m 7 rfl) (sbc (sa_m 8 rfl) (sbc (sa_m 9 rfl) (sbc (sa_m 10 rfl) (sbc (sa_m 11 rfl) (sbc (sa_m 12 rfl) (sbc (sa_m 13 rfl) (sbc (sa_m 14 rfl) (sbc (sa_m 15 rfl) (sbc (sa_m 16 rfl) (sbc (sa_m 17 rfl) (sbc (sa_m 18 rfl) (sbc (sa_m 19 rfl) (sbc (sa_m 20 rfl) sbn)))))))))))))))))))) hT)) fr; f_s_feelAllSteps_L16 h6 fr8 (sbt (sbc (sa_m 0 rfl) sbn) hT)  (fun  μ27 _ h29 fr30 => hself _ _ _ h29 fr30)))
  exact key 60000 _ _ _ h fr
def T_s_feelAllSteps : List At := [(53, none, none), (32, some 1, some 0), (35, some 1, none), (32, some 1, some 4), (32, some 1, some 3), (34, some 1, none), (33, some 1, none), (32, some 1, some 2), (32, some 1, some 1), (41, none, none), (39, some 1, none), (38, some 1, none), (36, some 1, none), (37, some 1, none), (27, some 3, none), (28, some 3, none), (29, some 3, none), (30, some 3, none), (26, some 3, some 4), (26, some 3, some 5), (26, some 3, some 6)]
theorem f_s_feelAllSteps {μ : Mem}   {z : Unit × Mem} (h : s_feelAllSteps  μ = some z) : Fr (T_s_feelAllSteps) μ z.2 := by
  unfold s_feelAllSteps at h
  exact f_s_feelAllSteps_L2 h (Fr.rf (T_s_feelAllSteps) μ) (sbc (sa_m 0 rfl) (sbc (sa_m 1 rfl) (sbc (sa_m 2 rfl) (sbc (sa_m 3 rfl) (sbc (sa_m 4 rfl) (sbc (sa_m 5 rfl) (sbc (sa_m 6 rfl) (sbc (sa_m 7 rfl) (sbc (sa_m 8 rfl) (sbc (sa_m 9 rfl) (sbc (sa_m 10 rfl) (sbc (sa_m 11 rfl) (sbc (sa_m 12 rfl) (sbc (sa_m 13 rfl) (sbc (sa_m 14 rfl) (sbc (sa_m 15 rfl) (sbc (sa_m 16 rfl) (sbc (sa_m 17 rfl) (sbc (sa_m 18 rfl) (sbc (sa_m 19 rfl) (sbc (sa_m 20 rfl) sbn)))))))))))))))))))))  
def T_s_isUnfelt_L2 : List At := []
theorem f_s_isUnfelt_L2 {μ0 : Mem} {T : List At} {x1 : Int32}   {x2 : Int32} {μ : Mem} {z : Int32 × Mem} (h : s_isUnfelt_L2 x1 x2 μ = some z) (fr : Fr T μ0 μ) (hT : Sb (T_s_isUnfelt_L2) T)   : Fr T μ0 z.2 := by
  have key : ∀ (n : Nat), (∀ (x2 : Int32) (μ : Mem) z, fixN (fun _ _ => none) (s_isUnfelt_B2 x1) n x2 μ = some z → Fr T μ0 μ → Fr T μ0 z.2) := by
    intro n
    refine fixN_ind (fun (f : Int32 → Mem → Option (Int32 × Mem)) => ∀ (x2 : Int32) (μ : Mem) z, f x2 μ = some z → Fr T μ0 μ → Fr T μ0 z.2) ?_ ?_ n
    · intro x2 μ z h; cases h
    · intro self hself x2 μ z h fr
      unfold s_isUnfelt_B2 at h
      exact (have h2 := fgv h; fi h2 (fun h4 => fr_ret h4 fr) (fun h5 => (have h7 := fgv h5; (have h9 := fgv h7; fi h9 (fun h11 => hself _ _ _ h11 fr) (fun h12 => fr_ret h12 fr)))))
  exact key 60000 _ _ _ h fr
def T_s_isUnfelt : List At := []
theorem f_s_isUnfelt {μ : Mem} {x1 : Int32}  {z : Int32 × Mem} (h : s_isUnfelt x1 μ = some z) : Fr (T_s_isUnfelt) μ z.2 := by
  unfold s_isUnfelt at h
  exact f_s_isUnfelt_L2 h (Fr.rf (T_s_isUnfelt) μ) sbn  
def T_s_unfelt_L8 : List At := []
theorem f_s_unfelt_L8 {μ0 : Mem} {T : List At}    {x1 : Int32} {x2 : Int32} {μ : Mem} {z : Int32 × Mem} (h : s_unfelt_L8  x1 x2 μ = some z) (fr : Fr T μ0 μ) (hT : Sb (T_s_unfelt_L8) T)   : Fr T μ0 z.2 := by
  have key : ∀ (n : Nat), (∀ (x1 : Int32) (x2 : Int32) (μ : Mem) z, fixN (fun _ _ _ => none) (s_unfelt_B8 ) n x1 x2 μ = some z → Fr T μ0 μ → Fr T μ0 z.2) := by
    intro n
    refine fixN_ind (fun (f : Int32 → Int32 → Mem → Option (Int32 × Mem)) => ∀ (x1 : Int32) (x2 : Int32) (μ : Mem) z, f x1 x2 μ = some z → Fr T μ0 μ → Fr T μ0 z.2) ?_ ?_ n
    · intro x1 x2 μ z h; cases h
    · intro self hself x1 x2 μ z h fr
      unfold s_unfelt_B8 at h
      exact fi h (fun h7 => fr_ret h7 fr) (fun h8 => fo h8 (fun r12 μ9 e26 h11 => have fr13 : Fr T μ0 μ9 := Fr.tr (Fr.mono (f_wo_canStep  e26) (sbt sbn hT)) fr; fi h11 (fun h15 => hself _ _ _ _ h15 fr13) (fun h16 => fo h16 (fun r20 μ17 e25 h19 => have fr21 : Fr T μ0 μ17 := Fr.tr (Fr.mono (f_s_isUnfelt  e25) (sbt sbn hT)) fr13; fi h19 (fun h23 => hself _ _ _ _ h23 fr21) (fun h24 => hself _ _ _ _ h24 fr21)))))
  exact key 60000 _ _ _ _ h fr
def T_s_unfelt : List At := [(53, none, none), (32, some 1, some 0), (35, some 1, none), (32, some 1, some 4), (32, some 1, some 3), (34, some 1, none), (33, some 1, none), (32, some 1, some 2), (32, some 1, some 1), (41, none, none), (39, some 1, none), (38, some 1, none), (36, some 1, none), (37, some 1, none), (27, some 3, none), (28, some 3, none), (29, some 3, none), (30, some 3, none), (26, some 3, some 4), (26, some 3, some 5), (26, some 3, some 6)]
theorem f_s_unfelt {μ : Mem}   {z : Int32 × Mem} (h : s_unfelt  μ = some z) : Fr (T_s_unfelt) μ z.2 := by
  unfold s_unfelt at h
  exact fo h (fun _ μ1 e27 h3 => have fr5 : Fr (T_s_unfelt) μ μ1 := Fr.tr (Fr.mono (f_s_feelAllSteps  e27) (sbc (sa_m 0 rfl) (sbc (sa_m 1 rfl) (sbc (sa_m 2 rfl) (sbc (sa_m 3 rfl) (sbc (sa_m 4 rfl) (sbc (sa_m 5 rfl) (sbc (sa_m 6 rfl) (sbc (sa_m 7 rfl) (sbc (sa_m 8 rfl) (sbc (sa_m 9 rfl) (sbc (sa_m 10 rfl) (sbc (sa_m 11 rfl) (sbc (sa_m 12 rfl) (sbc (sa_m 13 rfl) (sbc (sa_m 14 rfl) (sbc (sa_m 15 rfl) (sbc (sa_m 16 rfl) (sbc (sa_m 17 rfl) (sbc (sa_m 18 rfl) (sbc (sa_m 19 rfl) (sbc (sa_m 20 rfl) sbn)))))))))))))))))))))) (Fr.rf (T_s_unfelt) μ); f_s_unfelt_L8 h3 fr5 sbn  )
def T_s_best_L55 : List At := [(32, some 1, some 0), (35, some 1, none), (32, some 1, some 4), (32, some 1, some 3), (34, some 1, none), (33, some 1, none), (32, some 1, some 2), (32, some 1, some 1), (41, none, none), (39, some 1, none), (38, some 1, none), (36, some 1, none), (37, some 1, none), (27, some 3, none), (28, some 3, none), (29, some 3, none), (30, some 3, none), (26, some 3, some 4), (26, some 3, some 5), (26, some 3, some 6)]
theorem f_s_best_L55 {μ0 : Mem} {T : List At} {x1 : Int32} {x2 : Int32}  {k154 : Int32 → Int32 → Mem → Option (Int32 × Mem)} {x3 : Int32} {x4 : Int32} {x5 : Int64} {x7 : Int64} {x9 : Int32} {μ : Mem} {z : Int32 × Mem} (h : s_best_L55 x1 x2 k154 x3 x4 x5 x7 x9 μ = some z) (fr : Fr T μ0 μ) (hT : Sb (T_s_best_L55) T)  (hk154 : ∀ (x3 : Int32) (x4 : Int32) (μ : Mem) z, k154 x3 x4 μ = some z → Fr T μ0 μ → Fr T μ0 z.2) : Fr T μ0 z.2 := by
  have key : ∀ (n : Nat), (∀ (x3 : Int32) (x4 : Int32) (x5 : Int64) (x7 : Int64) (x9 : Int32) (μ : Mem) z, fixN (fun _ _ _ _ _ _ => none) (s_best_B55 x1 x2 k154) n x3 x4 x5 x7 x9 μ = some z → Fr T μ0 μ → Fr T μ0 z.2) := by
    intro n
    refine fixN_ind (fun (f : Int32 → Int32 → Int64 → Int64 → Int32 → Mem → Option (Int32 × Mem)) => ∀ (x3 : Int32) (x4 : Int32) (x5 : Int64) (x7 : Int64) (x9 : Int32) (μ : Mem) z, f x3 x4 x5 x7 x9 μ = some z → Fr T μ0 μ → Fr T μ0 z.2) ?_ ?_ n
    · intro x3 x4 x5 x7 x9 μ z h; cases h
    · intro self hself x3 x4 x5 x7 x9 μ z h fr
      unfold s_best_B55 at h
      exact fi h (fun h20 => hk154 _ _ _ _ h20 fr) (fun h21 => fo h21 (fun r25 μ22 e44 h24 => have fr26 : Fr T μ0 μ22 := Fr.tr (Fr.mono (f_s_wouldStep  e44) (sbt (sbc (sa_m 0 rfl) (sbc (sa_m 1 rfl) (sbc (sa_m 2 rfl) (sbc (sa_m 3 rfl) (sbc (sa_m 4 rfl) (sbc (sa_m 5 rfl) (sbc (sa_m 6 rfl) (sbc (sa_m 7 rfl) (sbc (sa_m 8 rfl) (sbc (sa_m 9 rfl) (sbc (sa_m 10 rfl) (sbc (sa_m 11 rfl) (sbc (sa_m 12 rfl) (sbc (sa_m 13 rfl) (sbc (sa_m 14 rfl) (sbc (sa_m 15 rfl) (sbc (sa_m 16 rfl) (sbc (sa_m 17 rfl) (sbc (sa_m 18 rfl) (sbc (sa_m 19 rfl) sbn)))))))))))))))))))) hT)) fr; fi h24 (fun h28 => hself _ _ _ _ _ _ _ h28 fr26) (fun h29 => fo h29 (fun r33 μ30 e43 h32 => have fr34 : Fr T μ0 μ30 := Fr.tr (Fr.mono (f_s_feelsWhatWould  e43) (sbt sbn hT)) fr26; fi h32 (fun h36 => (have h39 := fgv h36; fi h39 (fun h41 => hself _ _ _ _ _ _ _ h41 fr34) (fun h42 => hself _ _ _ _ _ _ _ h42 fr34))) (fun h37 => hself _ _ _ _ _ _ _ h37 fr34)))))
  exact key 60000 _ _ _ _ _ _ _ h fr
def T_s_best : List At := [(32, some 1, some 0), (35, some 1, none), (32, some 1, some 4), (32, some 1, some 3), (34, some 1, none), (33, some 1, none), (32, some 1, some 2), (32, some 1, some 1), (41, none, none), (39, some 1, none), (38, some 1, none), (36, some 1, none), (37, some 1, none), (27, some 3, none), (28, some 3, none), (29, some 3, none), (30, some 3, none), (26, some 3, some 4), (26, some 3, some 5), (26, some 3, some 6)]
theorem f_s_best {μ : Mem} {x1 : Int32} {x2 : Int32}  {z : Int32 × Mem} (h : s_best x1 x2 μ = some z) : Fr (T_s_best) μ z.2 := by
  unfold s_best at h
  exact fo h (fun r4 μ1 e55 h3 => have fr5 : Fr (T_s_best) μ μ1 := Fr.tr (Fr.mono (f_s_isField  e55) sbn) (Fr.rf (T_s_best) μ); fi h3 (fun h7 => fr_ret h7 fr5) (fun h8 => fo h8 (fun r12 μ9 e54 h11 => have fr13 : Fr (T_s_best) μ μ9 := Fr.tr (Fr.mono (f_s_isFrom  e54) sbn) fr5; fi h11 (fun h16 => fr_ret h16 fr13) (fun h15 => (have h18 := fgv h15; f_s_best_L55 h18 fr13 (sbc (sa_m 0 rfl) (sbc (sa_m 1 rfl) (sbc (sa_m 2 rfl) (sbc (sa_m 3 rfl) (sbc (sa_m 4 rfl) (sbc (sa_m 5 rfl) (sbc (sa_m 6 rfl) (sbc (sa_m 7 rfl) (sbc (sa_m 8 rfl) (sbc (sa_m 9 rfl) (sbc (sa_m 10 rfl) (sbc (sa_m 11 rfl) (sbc (sa_m 12 rfl) (sbc (sa_m 13 rfl) (sbc (sa_m 14 rfl) (sbc (sa_m 15 rfl) (sbc (sa_m 16 rfl) (sbc (sa_m 17 rfl) (sbc (sa_m 18 rfl) (sbc (sa_m 19 rfl) sbn))))))))))))))))))))  (fun x45 x46 μ47 _ h49 fr50 => fi h49 (fun h53 => fr_ret h53 fr50) (fun h52 => fr_ret h52 fr50)))))))
def T_s_wouldHaveMoreAt_L2 : List At := []
theorem f_s_wouldHaveMoreAt_L2 {μ0 : Mem} {T : List At} {x1 : Int32} {x2 : Int32}   {x3 : Int32} {μ : Mem} {z : Int32 × Mem} (h : s_wouldHaveMoreAt_L2 x1 x2 x3 μ = some z) (fr : Fr T μ0 μ) (hT : Sb (T_s_wouldHaveMoreAt_L2) T)   : Fr T μ0 z.2 := by
  have key : ∀ (n : Nat), (∀ (x3 : Int32) (μ : Mem) z, fixN (fun _ _ => none) (s_wouldHaveMoreAt_B2 x1 x2) n x3 μ = some z → Fr T μ0 μ → Fr T μ0 z.2) := by
    intro n
    refine fixN_ind (fun (f : Int32 → Mem → Option (Int32 × Mem)) => ∀ (x3 : Int32) (μ : Mem) z, f x3 μ = some z → Fr T μ0 μ → Fr T μ0 z.2) ?_ ?_ n
    · intro x3 μ z h; cases h
    · intro self hself x3 μ z h fr
      unfold s_wouldHaveMoreAt_B2 at h
      exact (have h2 := fgv h; fi h2 (fun h4 => fr_ret h4 fr) (fun h5 => (have h7 := fgv h5; fi h7 (fun h10 => (have h12 := fgv h10; (have h14 := fgv h12; fi h14 (fun h17 => fr_ret h17 fr) (fun h16 => hself _ _ _ h16 fr)))) (fun h9 => hself _ _ _ h9 fr))))
  exact key 60000 _ _ _ h fr
def T_s_wouldHaveMoreAt : List At := []
theorem f_s_wouldHaveMoreAt {μ : Mem} {x1 : Int32} {x2 : Int32}  {z : Int32 × Mem} (h : s_wouldHaveMoreAt x1 x2 μ = some z) : Fr (T_s_wouldHaveMoreAt) μ z.2 := by
  unfold s_wouldHaveMoreAt at h
  exact f_s_wouldHaveMoreAt_L2 h (Fr.rf (T_s_wouldHaveMoreAt) μ) sbn  
def T_s_tempted_L8 : List At := []
theorem f_s_tempted_L8 {μ0 : Mem} {T : List At}    {x1 : Int32} {x2 : Int32} {μ : Mem} {z : Int32 × Mem} (h : s_tempted_L8  x1 x2 μ = some z) (fr : Fr T μ0 μ) (hT : Sb (T_s_tempted_L8) T)   : Fr T μ0 z.2 := by
  have key : ∀ (n : Nat), (∀ (x1 : Int32) (x2 : Int32) (μ : Mem) z, fixN (fun _ _ _ => none) (s_tempted_B8 ) n x1 x2 μ = some z → Fr T μ0 μ → Fr T μ0 z.2) := by
    intro n
    refine fixN_ind (fun (f : Int32 → Int32 → Mem → Option (Int32 × Mem)) => ∀ (x1 : Int32) (x2 : Int32) (μ : Mem) z, f x1 x2 μ = some z → Fr T μ0 μ → Fr T μ0 z.2) ?_ ?_ n
    · intro x1 x2 μ z h; cases h
    · intro self hself x1 x2 μ z h fr
      unfold s_tempted_B8 at h
      exact (have h7 := fgv h; fi h7 (fun h9 => fr_ret h9 fr) (fun h10 => (have h12 := fgv h10; (let v13 : Int32 := ((mI μ 23 (mR μ 10 0 3) (cl x2)) - (nI 10)); have h14 := vb_o h12; (fo h14 (fun r18 μ15 e37 h17 => have fr19 : Fr T μ0 μ15 := Fr.tr (Fr.mono (f_s_isField  e37) (sbt sbn hT)) fr; fi h17 (fun h21 => hself _ _ _ _ h21 fr19) (fun h22 => fi h22 (fun h24 => hself _ _ _ _ h24 fr19) (fun h25 => (have h27 := fgv h25; fo h27 (fun r31 μ28 e36 h30 => have fr32 : Fr T μ0 μ28 := Fr.tr (Fr.mono (f_s_wouldHaveMoreAt  e36) (sbt sbn hT)) fr19; fi h30 (fun h34 => hself _ _ _ _ h34 fr32) (fun h35 => hself _ _ _ _ h35 fr32)))))))))))
  exact key 60000 _ _ _ _ h fr
def T_s_tempted : List At := [(53, none, none), (32, some 1, some 0), (35, some 1, none), (32, some 1, some 4), (32, some 1, some 3), (34, some 1, none), (33, some 1, none), (32, some 1, some 2), (32, some 1, some 1), (41, none, none), (39, some 1, none), (38, some 1, none), (36, some 1, none), (37, some 1, none), (27, some 3, none), (28, some 3, none), (29, some 3, none), (30, some 3, none), (26, some 3, some 4), (26, some 3, some 5), (26, some 3, some 6)]
theorem f_s_tempted {μ : Mem}   {z : Int32 × Mem} (h : s_tempted  μ = some z) : Fr (T_s_tempted) μ z.2 := by
  unfold s_tempted at h
  exact fo h (fun _ μ1 e38 h3 => have fr5 : Fr (T_s_tempted) μ μ1 := Fr.tr (Fr.mono (f_s_feelAllSteps  e38) (sbc (sa_m 0 rfl) (sbc (sa_m 1 rfl) (sbc (sa_m 2 rfl) (sbc (sa_m 3 rfl) (sbc (sa_m 4 rfl) (sbc (sa_m 5 rfl) (sbc (sa_m 6 rfl) (sbc (sa_m 7 rfl) (sbc (sa_m 8 rfl) (sbc (sa_m 9 rfl) (sbc (sa_m 10 rfl) (sbc (sa_m 11 rfl) (sbc (sa_m 12 rfl) (sbc (sa_m 13 rfl) (sbc (sa_m 14 rfl) (sbc (sa_m 15 rfl) (sbc (sa_m 16 rfl) (sbc (sa_m 17 rfl) (sbc (sa_m 18 rfl) (sbc (sa_m 19 rfl) (sbc (sa_m 20 rfl) sbn)))))))))))))))))))))) (Fr.rf (T_s_tempted) μ); f_s_tempted_L8 h3 fr5 sbn  )
def T_s_splitMend_L8 : List At := [(54, none, none)]
theorem f_s_splitMend_L8 {μ0 : Mem} {T : List At} {x2 : Int32} {x3 : Int32}   {x4 : Int32} {x5 : Int32} {μ : Mem} {z : Int32 × Mem} (h : s_splitMend_L8 x2 x3 x4 x5 μ = some z) (fr : Fr T μ0 μ) (hT : Sb (T_s_splitMend_L8) T)   : Fr T μ0 z.2 := by
  have key : ∀ (n : Nat), (∀ (x4 : Int32) (x5 : Int32) (μ : Mem) z, fixN (fun _ _ _ => none) (s_splitMend_B8 x2 x3) n x4 x5 μ = some z → Fr T μ0 μ → Fr T μ0 z.2) := by
    intro n
    refine fixN_ind (fun (f : Int32 → Int32 → Mem → Option (Int32 × Mem)) => ∀ (x4 : Int32) (x5 : Int32) (μ : Mem) z, f x4 x5 μ = some z → Fr T μ0 μ → Fr T μ0 z.2) ?_ ?_ n
    · intro x4 x5 μ z h; cases h
    · intro self hself x4 x5 μ z h fr
      unfold s_splitMend_B8 at h
      exact fi h (fun h2 => fr_ret h2 fr) (fun h3 => fi h3 (fun h5 => fr_ret h5 fr) (fun h6 => (have h8 := fgv h6; (have h10 := fgv h8; fi h10 (fun h12 => hself _ _ _ _ h12 (Fr.stI fr (hT _ _ _ (iT 0 rfl inA_nn)))) (fun h13 => (have h15 := fgv h13; fi h15 (fun h17 => hself _ _ _ _ h17 (Fr.stI fr (hT _ _ _ (iT 0 rfl inA_nn)))) (fun h18 => fr_ret h18 (Fr.stI fr (hT _ _ _ (iT 0 rfl inA_nn))))))))))
  exact key 60000 _ _ _ _ h fr
def T_s_splitMend : List At := [(54, none, none)]
theorem f_s_splitMend {μ : Mem} {x1 : Int32} {x2 : Int32} {x3 : Int32}  {z : Int32 × Mem} (h : s_splitMend x1 x2 x3 μ = some z) : Fr (T_s_splitMend) μ z.2 := by
  unfold s_splitMend at h
  exact f_s_splitMend_L8 h (Fr.rf (T_s_splitMend) μ) (sbc (sa_m 0 rfl) sbn)  
def T_s_wouldMend_L19 : List At := [(27, some 3, none)]
theorem f_s_wouldMend_L19 {μ0 : Mem} {T : List At} {x1 : Int32}  {k61 : Mem → Option (Int32 × Mem)} {x2 : Int32} {μ : Mem} {z : Int32 × Mem} (h : s_wouldMend_L19 x1 k61 x2 μ = some z) (fr : Fr T μ0 μ) (hT : Sb (T_s_wouldMend_L19) T)  (hk61 : ∀  (μ : Mem) z, k61  μ = some z → Fr T μ0 μ → Fr T μ0 z.2) : Fr T μ0 z.2 := by
  have key : ∀ (n : Nat), (∀ (x2 : Int32) (μ : Mem) z, fixN (fun _ _ => none) (s_wouldMend_B19 x1 k61) n x2 μ = some z → Fr T μ0 μ → Fr T μ0 z.2) := by
    intro n
    refine fixN_ind (fun (f : Int32 → Mem → Option (Int32 × Mem)) => ∀ (x2 : Int32) (μ : Mem) z, f x2 μ = some z → Fr T μ0 μ → Fr T μ0 z.2) ?_ ?_ n
    · intro x2 μ z h; cases h
    · intro self hself x2 μ z h fr
      unfold s_wouldMend_B19 at h
      exact fi h (fun h7 => hk61 _ _ h7 fr) (fun h8 => (have h10 := fgv h8; fo h10 (fun r14 μ11 e25 h13 => have fr15 : Fr T μ0 μ11 := Fr.tr (Fr.mono (f_wo_canStep  e25) (sbt sbn hT)) fr; fi h13 (fun h18 => fr_ret h18 fr15) (fun h17 => fo h17 (fun _ μ19 e24 h21 => have fr23 : Fr T μ0 μ19 := Fr.tr (Fr.mono (f_wo_doStep  e24) (sbt (sbc (sa_m 0 rfl) sbn) hT)) fr15; hself _ _ _ h21 fr23)))))
  exact key 60000 _ _ _ h fr
def T_s_wouldMend : List At := [(43, some 1, none), (42, some 1, none), (32, some 1, some 0), (35, some 1, none), (32, some 1, some 4), (32, some 1, some 3), (34, some 1, none), (33, some 1, none), (32, some 1, some 2), (32, some 1, some 1), (41, none, none), (39, some 1, none), (38, some 1, none), (36, some 1, none), (37, some 1, none), (27, some 3, none), (28, some 3, none), (29, some 3, none), (30, some 3, none), (26, some 3, some 4), (26, some 3, some 5), (26, some 3, some 6)]
theorem f_s_wouldMend {μ : Mem} {x1 : Int32}  {z : Int32 × Mem} (h : s_wouldMend x1 μ = some z) : Fr (T_s_wouldMend) μ z.2 := by
  unfold s_wouldMend at h
  exact fo h (fun _ μ1 e48 h3 => have fr5 : Fr (T_s_wouldMend) μ μ1 := Fr.tr (Fr.mono (f_st_become  e48) (sbc (sa_m 15 rfl) (sbc (sa_m 16 rfl) (sbc (sa_m 17 rfl) (sbc (sa_m 18 rfl) (sbc (sa_m 19 rfl) (sbc (sa_m 20 rfl) (sbc (sa_m 21 rfl) sbn)))))))) (Fr.rf (T_s_wouldMend) μ); f_s_wouldMend_L19 h3 fr5 (sbc (sa_m 15 rfl) sbn)  (fun  μ26 _ h28 fr29 => fo h28 (fun _ μ30 e47 h32 => have fr34 : Fr (T_s_wouldMend) μ μ30 := Fr.tr (Fr.mono (f_wo_settle  e47) (sbc (sa_m 2 rfl) (sbc (sa_m 3 rfl) (sbc (sa_m 4 rfl) (sbc (sa_m 5 rfl) (sbc (sa_m 6 rfl) (sbc (sa_m 7 rfl) (sbc (sa_m 8 rfl) (sbc (sa_m 9 rfl) (sbc (sa_m 10 rfl) (sbc (sa_m 11 rfl) (sbc (sa_m 12 rfl) (sbc (sa_m 13 rfl) (sbc (sa_m 14 rfl) sbn)))))))))))))) fr29; fi h32 (fun h37 => fo h37 (fun r41 μ38 e46 h40 => have fr42 : Fr (T_s_wouldMend) μ μ38 := Fr.tr (Fr.mono (f_wo_lacksSomewhere  e46) (sbc (sa_m 0 rfl) (sbc (sa_m 1 rfl) sbn))) fr34; fi h40 (fun h45 => fr_ret h45 fr42) (fun h44 => fr_ret h44 fr42))) (fun h36 => fr_ret h36 fr34))))
def T_s_findMend_L15 : List At := []
theorem f_s_findMend_L15 {μ0 : Mem} {T : List At} {x1 : Int32} {x2 : Int32}  {k31 : Int32 → Mem → Option (Int32 × Mem)} {x3 : Int32} {x4 : Int32} {μ : Mem} {z : Int32 × Mem} (h : s_findMend_L15 x1 x2 k31 x3 x4 μ = some z) (fr : Fr T μ0 μ) (hT : Sb (T_s_findMend_L15) T)  (hk31 : ∀ (x3 : Int32) (μ : Mem) z, k31 x3 μ = some z → Fr T μ0 μ → Fr T μ0 z.2) : Fr T μ0 z.2 := by
  have key : ∀ (n : Nat), (∀ (x3 : Int32) (x4 : Int32) (μ : Mem) z, fixN (fun _ _ _ => none) (s_findMend_B15 x1 x2 k31) n x3 x4 μ = some z → Fr T μ0 μ → Fr T μ0 z.2) := by
    intro n
    refine fixN_ind (fun (f : Int32 → Int32 → Mem → Option (Int32 × Mem)) => ∀ (x3 : Int32) (x4 : Int32) (μ : Mem) z, f x3 x4 μ = some z → Fr T μ0 μ → Fr T μ0 z.2) ?_ ?_ n
    · intro x3 x4 μ z h; cases h
    · intro self hself x3 x4 μ z h fr
      unfold s_findMend_B15 at h
      exact fi h (fun h4 => hk31 _ _ _ h4 fr) (fun h5 => hself _ _ _ _ h5 fr)
  exact key 60000 _ _ _ _ h fr
def T_s_findMend_L34 : List At := [(43, some 1, none), (42, some 1, none), (32, some 1, some 0), (35, some 1, none), (32, some 1, some 4), (32, some 1, some 3), (34, some 1, none), (33, some 1, none), (32, some 1, some 2), (32, some 1, some 1), (41, none, none), (39, some 1, none), (38, some 1, none), (36, some 1, none), (37, some 1, none), (27, some 3, none), (28, some 3, none), (29, some 3, none), (30, some 3, none), (26, some 3, some 4), (26, some 3, some 5), (26, some 3, some 6), (54, none, none)]
theorem f_s_findMend_L34 {μ0 : Mem} {T : List At} {x1 : Int32} {x2 : Int32} {x3 : Int32}   {x4 : Int32} {μ : Mem} {z : Int32 × Mem} (h : s_findMend_L34 x1 x2 x3 x4 μ = some z) (fr : Fr T μ0 μ) (hT : Sb (T_s_findMend_L34) T)   : Fr T μ0 z.2 := by
  have key : ∀ (n : Nat), (∀ (x4 : Int32) (μ : Mem) z, fixN (fun _ _ => none) (s_findMend_B34 x1 x2 x3) n x4 μ = some z → Fr T μ0 μ → Fr T μ0 z.2) := by
    intro n
    refine fixN_ind (fun (f : Int32 → Mem → Option (Int32 × Mem)) => ∀ (x4 : Int32) (μ : Mem) z, f x4 μ = some z → Fr T μ0 μ → Fr T μ0 z.2) ?_ ?_ n
    · intro x4 μ z h; cases h
    · intro self hself x4 μ z h fr
      unfold s_findMend_B34 at h
      exact fi h (fun h12 => fr_ret h12 fr) (fun h13 => fo h13 (fun r17 μ14 e31 h16 => have fr18 : Fr T μ0 μ14 := Fr.tr (Fr.mono (f_s_splitMend  e31) (sbt (sbc (sa_m 22 rfl) sbn) hT)) fr; fi h16 (fun h20 => hself _ _ _ h20 fr18) (fun h21 => fo h21 (fun r25 μ22 e30 h24 => have fr26 : Fr T μ0 μ22 := Fr.tr (Fr.mono (f_s_wouldMend  e30) (sbt (sbc (sa_m 0 rfl) (sbc (sa_m 1 rfl) (sbc (sa_m 2 rfl) (sbc (sa_m 3 rfl) (sbc (sa_m 4 rfl) (sbc (sa_m 5 rfl) (sbc (sa_m 6 rfl) (sbc (sa_m 7 rfl) (sbc (sa_m 8 rfl) (sbc (sa_m 9 rfl) (sbc (sa_m 10 rfl) (sbc (sa_m 11 rfl) (sbc (sa_m 12 rfl) (sbc (sa_m 13 rfl) (sbc (sa_m 14 rfl) (sbc (sa_m 15 rfl) (sbc (sa_m 16 rfl) (sbc (sa_m 17 rfl) (sbc (sa_m 18 rfl) (sbc (sa_m 19 rfl) (sbc (sa_m 20 rfl) (sbc (sa_m 21 rfl) sbn)))))))))))))))))))))) hT)) fr18; fi h24 (fun h28 => hself _ _ _ h28 fr26) (fun h29 => fr_ret h29 fr26)))))
  exact key 60000 _ _ _ h fr
def T_s_findMend : List At := [(43, some 1, none), (42, some 1, none), (32, some 1, some 0), (35, some 1, none), (32, some 1, some 4), (32, some 1, some 3), (34, some 1, none), (33, some 1, none), (32, some 1, some 2), (32, some 1, some 1), (41, none, none), (39, some 1, none), (38, some 1, none), (36, some 1, none), (37, some 1, none), (27, some 3, none), (28, some 3, none), (29, some 3, none), (30, some 3, none), (26, some 3, some 4), (26, some 3, some 5), (26, some 3, some 6), (54, none, none)]
theorem f_s_findMend {μ : Mem} {x1 : Int32}  {z : Int32 × Mem} (h : s_findMend x1 μ = some z) : Fr (T_s_findMend) μ z.2 := by
  unfold s_findMend at h
  exact (have h2 := fgv h; f_s_findMend_L15 h2 (Fr.rf (T_s_findMend) μ) sbn  (fun x6 μ7 _ h9 fr10 => f_s_findMend_L34 h9 fr10 (sbc (sa_m 0 rfl) (sbc (sa_m 1 rfl) (sbc (sa_m 2 rfl) (sbc (sa_m 3 rfl) (sbc (sa_m 4 rfl) (sbc (sa_m 5 rfl) (sbc (sa_m 6 rfl) (sbc (sa_m 7 rfl) (sbc (sa_m 8 rfl) (sbc (sa_m 9 rfl) (sbc (sa_m 10 rfl) (sbc (sa_m 11 rfl) (sbc (sa_m 12 rfl) (sbc (sa_m 13 rfl) (sbc (sa_m 14 rfl) (sbc (sa_m 15 rfl) (sbc (sa_m 16 rfl) (sbc (sa_m 17 rfl) (sbc (sa_m 18 rfl) (sbc (sa_m 19 rfl) (sbc (sa_m 20 rfl) (sbc (sa_m 21 rfl) (sbc (sa_m 22 rfl) sbn)))))))))))))))))))))))  ))
def T_s_mend_L9 : List At := [(43, some 1, none), (42, some 1, none), (32, some 1, some 0), (35, some 1, none), (32, some 1, some 4), (32, some 1, some 3), (34, some 1, none), (33, some 1, none), (32, some 1, some 2), (32, some 1, some 1), (41, none, none), (39, some 1, none), (38, some 1, none), (36, some 1, none), (37, some 1, none), (27, some 3, none), (28, some 3, none), (29, some 3, none), (30, some 3, none), (26, some 3, some 4), (26, some 3, some 5), (26, some 3, some 6), (54, none, none)]
theorem f_s_mend_L9 {μ0 : Mem} {T : List At} {x1 : Int32}  {k28 : Int32 → Mem → Option (Int32 × Mem)} {x2 : Int32} {μ : Mem} {z : Int32 × Mem} (h : s_mend_L9 x1 k28 x2 μ = some z) (fr : Fr T μ0 μ) (hT : Sb (T_s_mend_L9) T)  (hk28 : ∀ (x2 : Int32) (μ : Mem) z, k28 x2 μ = some z → Fr T μ0 μ → Fr T μ0 z.2) : Fr T μ0 z.2 := by
  have key : ∀ (n : Nat), (∀ (x2 : Int32) (μ : Mem) z, fixN (fun _ _ => none) (s_mend_B9 x1 k28) n x2 μ = some z → Fr T μ0 μ → Fr T μ0 z.2) := by
    intro n
    refine fixN_ind (fun (f : Int32 → Mem → Option (Int32 × Mem)) => ∀ (x2 : Int32) (μ : Mem) z, f x2 μ = some z → Fr T μ0 μ → Fr T μ0 z.2) ?_ ?_ n
    · intro x2 μ z h; cases h
    · intro self hself x2 μ z h fr
      unfold s_mend_B9 at h
      exact fi h (fun h5 => hk28 _ _ _ h5 fr) (fun h6 => fo h6 (fun r10 μ7 e15 h9 => have fr11 : Fr T μ0 μ7 := Fr.tr (Fr.mono (f_s_findMend  e15) (sbt (sbc (sa_m 0 rfl) (sbc (sa_m 1 rfl) (sbc (sa_m 2 rfl) (sbc (sa_m 3 rfl) (sbc (sa_m 4 rfl) (sbc (sa_m 5 rfl) (sbc (sa_m 6 rfl) (sbc (sa_m 7 rfl) (sbc (sa_m 8 rfl) (sbc (sa_m 9 rfl) (sbc (sa_m 10 rfl) (sbc (sa_m 11 rfl) (sbc (sa_m 12 rfl) (sbc (sa_m 13 rfl) (sbc (sa_m 14 rfl) (sbc (sa_m 15 rfl) (sbc (sa_m 16 rfl) (sbc (sa_m 17 rfl) (sbc (sa_m 18 rfl) (sbc (sa_m 19 rfl) (sbc (sa_m 20 rfl) (sbc (sa_m 21 rfl) (sbc (sa_m 22 rfl) sbn))))))))))))))))))))))) hT)) fr; fi h9 (fun h14 => hself _ _ _ h14 fr11) (fun h13 => hk28 _ _ _ h13 fr11)))
  exact key 60000 _ _ _ h fr
def T_s_mend : List At := [(43, some 1, none), (42, some 1, none), (32, some 1, some 0), (35, some 1, none), (32, some 1, some 4), (32, some 1, some 3), (34, some 1, none), (33, some 1, none), (32, some 1, some 2), (32, some 1, some 1), (41, none, none), (39, some 1, none), (38, some 1, none), (36, some 1, none), (37, some 1, none), (27, some 3, none), (28, some 3, none), (29, some 3, none), (30, some 3, none), (26, some 3, some 4), (26, some 3, some 5), (26, some 3, some 6), (54, none, none)]
theorem f_s_mend {μ : Mem} {x1 : Int32}  {z : Int32 × Mem} (h : s_mend x1 μ = some z) : Fr (T_s_mend) μ z.2 := by
  unfold s_mend at h
  exact fi h (fun h2 => f_s_mend_L9 h2 (Fr.rf (T_s_mend) μ) (sbc (sa_m 0 rfl) (sbc (sa_m 1 rfl) (sbc (sa_m 2 rfl) (sbc (sa_m 3 rfl) (sbc (sa_m 4 rfl) (sbc (sa_m 5 rfl) (sbc (sa_m 6 rfl) (sbc (sa_m 7 rfl) (sbc (sa_m 8 rfl) (sbc (sa_m 9 rfl) (sbc (sa_m 10 rfl) (sbc (sa_m 11 rfl) (sbc (sa_m 12 rfl) (sbc (sa_m 13 rfl) (sbc (sa_m 14 rfl) (sbc (sa_m 15 rfl) (sbc (sa_m 16 rfl) (sbc (sa_m 17 rfl) (sbc (sa_m 18 rfl) (sbc (sa_m 19 rfl) (sbc (sa_m 20 rfl) (sbc (sa_m 21 rfl) (sbc (sa_m 22 rfl) sbn)))))))))))))))))))))))  (fun x16 μ17 _ h19 fr20 => fi h19 (fun h22 => fi h22 (fun h26 => fr_ret h26 fr20) (fun h25 => fi h25 (fun h28 => fr_ret h28 fr20) (fun h29 => (have h31 := fgv h29; fr_ret h31 fr20)))) (fun h23 => fr_ret h23 fr20))) (fun h3 => fr_ret h3 (Fr.rf (T_s_mend) μ))
def T_s_feeds_L39 : List At := []
theorem f_s_feeds_L39 {μ0 : Mem} {T : List At} {x4 : Int32}  {k161 : Int32 → Int32 → Mem → Option (Int32 × Mem)} {x2 : Int32} {x3 : Int32} {x5 : Int32} {μ : Mem} {z : Int32 × Mem} (h : s_feeds_L39 x4 k161 x2 x3 x5 μ = some z) (fr : Fr T μ0 μ) (hT : Sb (T_s_feeds_L39) T)  (hk161 : ∀ (x2 : Int32) (x3 : Int32) (μ : Mem) z, k161 x2 x3 μ = some z → Fr T μ0 μ → Fr T μ0 z.2) : Fr T μ0 z.2 := by
  have key : ∀ (n : Nat), (∀ (x2 : Int32) (x3 : Int32) (x5 : Int32) (μ : Mem) z, fixN (fun _ _ _ _ => none) (s_feeds_B39 x4 k161) n x2 x3 x5 μ = some z → Fr T μ0 μ → Fr T μ0 z.2) := by
    intro n
    refine fixN_ind (fun (f : Int32 → Int32 → Int32 → Mem → Option (Int32 × Mem)) => ∀ (x2 : Int32) (x3 : Int32) (x5 : Int32) (μ : Mem) z, f x2 x3 x5 μ = some z → Fr T μ0 μ → Fr T μ0 z.2) ?_ ?_ n
    · intro x2 x3 x5 μ z h; cases h
    · intro self hself x2 x3 x5 μ z h fr
      unfold s_feeds_B39 at h
      exact (have h20 := fgv h; fi h20 (fun h22 => hk161 _ _ _ _ h22 fr) (fun h23 => (have h25 := fgv h23; fi h25 (fun h27 => hself _ _ _ _ _ h27 fr) (fun h28 => fi h28 (fun h31 => hself _ _ _ _ _ h31 fr) (fun h30 => fo h30 (fun r35 μ32 e59 h34 => have fr36 : Fr T μ0 μ32 := Fr.tr (Fr.mono (f_s_isLog  e59) (sbt sbn hT)) fr; fi h34 (fun h38 => fo h38 (fun r43 μ40 e56 h42 => have fr44 : Fr T μ0 μ40 := Fr.tr (Fr.mono (f_s_isField  e56) (sbt sbn hT)) fr36; fi h42 (fun h46 => hself _ _ _ _ _ h46 fr44) (fun h47 => (let v48 : Int32 := (x3 ||| ((nI 1) <<< (((mI μ 23 (mR μ 10 0 3) (cl x5)) - (nI 10)) &&& 31))); have h49 := vb_o h47; (fo h49 (fun r53 μ50 e55 h52 => have fr54 : Fr T μ0 μ50 := Fr.tr (Fr.mono (f_wo_drainTarget  e55) (sbt sbn hT)) fr44; hself _ _ _ _ _ h52 fr54)))))) (fun h39 => (let v57 : Int32 := (x2 ||| ((nI 1) <<< ((mI μ 23 (mR μ 10 0 3) (cl x5)) &&& 31))); have h58 := vb_o h39; (hself _ _ _ _ _ h58 fr36)))))))))
  exact key 60000 _ _ _ _ _ h fr
def T_s_feeds_L24 : List At := []
theorem f_s_feeds_L24 {μ0 : Mem} {T : List At}    {x2 : Int32} {x3 : Int32} {x4 : Int32} {μ : Mem} {z : Int32 × Mem} (h : s_feeds_L24  x2 x3 x4 μ = some z) (fr : Fr T μ0 μ) (hT : Sb (T_s_feeds_L24) T)   : Fr T μ0 z.2 := by
  have key : ∀ (n : Nat), (∀ (x2 : Int32) (x3 : Int32) (x4 : Int32) (μ : Mem) z, fixN (fun _ _ _ _ => none) (s_feeds_B24 ) n x2 x3 x4 μ = some z → Fr T μ0 μ → Fr T μ0 z.2) := by
    intro n
    refine fixN_ind (fun (f : Int32 → Int32 → Int32 → Mem → Option (Int32 × Mem)) => ∀ (x2 : Int32) (x3 : Int32) (x4 : Int32) (μ : Mem) z, f x2 x3 x4 μ = some z → Fr T μ0 μ → Fr T μ0 z.2) ?_ ?_ n
    · intro x2 x3 x4 μ z h; cases h
    · intro self hself x2 x3 x4 μ z h fr
      unfold s_feeds_B24 at h
      exact (have h15 := fgv h; fi h15 (fun h17 => fr_ret h17 fr) (fun h18 => f_s_feeds_L39 h18 fr (sbt sbn hT)  (fun x60 x61 μ62 _ h64 fr65 => hself _ _ _ _ _ h64 fr65)))
  exact key 60000 _ _ _ _ _ h fr
def T_s_feeds : List At := []
theorem f_s_feeds {μ : Mem} {x1 : Int32}  {z : Int32 × Mem} (h : s_feeds x1 μ = some z) : Fr (T_s_feeds) μ z.2 := by
  unfold s_feeds at h
  exact fo h (fun r4 μ1 e67 h3 => have fr5 : Fr (T_s_feeds) μ μ1 := Fr.tr (Fr.mono (f_s_isField  e67) sbn) (Fr.rf (T_s_feeds) μ); fi h3 (fun h8 => fr_ret h8 fr5) (fun h7 => fo h7 (fun r12 μ9 e66 h11 => have fr13 : Fr (T_s_feeds) μ μ9 := Fr.tr (Fr.mono (f_wo_drainTarget  e66) sbn) fr5; f_s_feeds_L24 h11 fr13 sbn  )))
def T_s_hangs_L46 : List At := [(27, some 3, none), (32, some 1, some 0), (35, some 1, none), (32, some 1, some 4), (32, some 1, some 3), (34, some 1, none), (33, some 1, none), (32, some 1, some 2), (32, some 1, some 1), (41, none, none), (39, some 1, none), (38, some 1, none), (36, some 1, none), (37, some 1, none), (28, some 3, none), (29, some 3, none), (30, some 3, none), (26, some 3, some 4), (26, some 3, some 5), (26, some 3, some 6)]
theorem f_s_hangs_L46 {μ0 : Mem} {T : List At} {x1 : Int32}   {x2 : Int32} {x3 : Int32} {μ : Mem} {z : Int32 × Mem} (h : s_hangs_L46 x1 x2 x3 μ = some z) (fr : Fr T μ0 μ) (hT : Sb (T_s_hangs_L46) T)   : Fr T μ0 z.2 := by
  have key : ∀ (n : Nat), (∀ (x2 : Int32) (x3 : Int32) (μ : Mem) z, fixN (fun _ _ _ => none) (s_hangs_B46 x1) n x2 x3 μ = some z → Fr T μ0 μ → Fr T μ0 z.2) := by
    intro n
    refine fixN_ind (fun (f : Int32 → Int32 → Mem → Option (Int32 × Mem)) => ∀ (x2 : Int32) (x3 : Int32) (μ : Mem) z, f x2 x3 μ = some z → Fr T μ0 μ → Fr T μ0 z.2) ?_ ?_ n
    · intro x2 x3 μ z h; cases h
    · intro self hself x2 x3 μ z h fr
      unfold s_hangs_B46 at h
      exact (have h18 := fgv h; fi h18 (fun h20 => fr_ret h20 fr) (fun h21 => fo h21 (fun _ μ22 e43 h24 => have fr26 : Fr T μ0 μ22 := Fr.tr (Fr.mono (f_st_become  e43) (sbt (sbc (sa_m 0 rfl) (sbc (sa_m 14 rfl) (sbc (sa_m 15 rfl) (sbc (sa_m 16 rfl) (sbc (sa_m 17 rfl) (sbc (sa_m 18 rfl) (sbc (sa_m 19 rfl) sbn))))))) hT)) fr; (have h28 := fgv h24; fo h28 (fun _ μ29 e42 h31 => have fr33 : Fr T μ0 μ29 := Fr.tr (Fr.mono (f_wo_settle  e42) (sbt (sbc (sa_m 1 rfl) (sbc (sa_m 2 rfl) (sbc (sa_m 3 rfl) (sbc (sa_m 4 rfl) (sbc (sa_m 5 rfl) (sbc (sa_m 6 rfl) (sbc (sa_m 7 rfl) (sbc (sa_m 8 rfl) (sbc (sa_m 9 rfl) (sbc (sa_m 10 rfl) (sbc (sa_m 11 rfl) (sbc (sa_m 12 rfl) (sbc (sa_m 13 rfl) sbn))))))))))))) hT)) (Fr.stI fr26 (hT _ _ _ (iT 0 rfl inA_en))); fi h31 (fun h36 => (have h38 := fgv h36; fi h38 (fun h41 => hself _ _ _ _ h41 fr33) (fun h40 => hself _ _ _ _ h40 fr33))) (fun h35 => hself _ _ _ _ h35 fr33))))))
  exact key 60000 _ _ _ _ h fr
def T_s_hangs : List At := [(27, some 3, none), (32, some 1, some 0), (35, some 1, none), (32, some 1, some 4), (32, some 1, some 3), (34, some 1, none), (33, some 1, none), (32, some 1, some 2), (32, some 1, some 1), (41, none, none), (39, some 1, none), (38, some 1, none), (36, some 1, none), (37, some 1, none), (28, some 3, none), (29, some 3, none), (30, some 3, none), (26, some 3, some 4), (26, some 3, some 5), (26, some 3, some 6)]
theorem f_s_hangs {μ : Mem} {x1 : Int32}  {z : Int32 × Mem} (h : s_hangs x1 μ = some z) : Fr (T_s_hangs) μ z.2 := by
  unfold s_hangs at h
  exact fo h (fun r4 μ1 e44 h3 => have fr5 : Fr (T_s_hangs) μ μ1 := Fr.tr (Fr.mono (f_s_isField  e44) sbn) (Fr.rf (T_s_hangs) μ); fi h3 (fun h8 => fr_ret h8 fr5) (fun h7 => fi h7 (fun h11 => (have h13 := fgv h11; fi h13 (fun h16 => fr_ret h16 fr5) (fun h15 => f_s_hangs_L46 h15 fr5 (sbc (sa_m 0 rfl) (sbc (sa_m 1 rfl) (sbc (sa_m 2 rfl) (sbc (sa_m 3 rfl) (sbc (sa_m 4 rfl) (sbc (sa_m 5 rfl) (sbc (sa_m 6 rfl) (sbc (sa_m 7 rfl) (sbc (sa_m 8 rfl) (sbc (sa_m 9 rfl) (sbc (sa_m 10 rfl) (sbc (sa_m 11 rfl) (sbc (sa_m 12 rfl) (sbc (sa_m 13 rfl) (sbc (sa_m 14 rfl) (sbc (sa_m 15 rfl) (sbc (sa_m 16 rfl) (sbc (sa_m 17 rfl) (sbc (sa_m 18 rfl) (sbc (sa_m 19 rfl) sbn))))))))))))))))))))  ))) (fun h10 => fr_ret h10 fr5)))
def T_s_spread_L29 : List At := []
theorem f_s_spread_L29 {μ0 : Mem} {T : List At}    {x1 : Int32} {x2 : Int32} {x3 : Int32} {μ : Mem} {z : Int32 × Mem} (h : s_spread_L29  x1 x2 x3 μ = some z) (fr : Fr T μ0 μ) (hT : Sb (T_s_spread_L29) T)   : Fr T μ0 z.2 := by
  have key : ∀ (n : Nat), (∀ (x1 : Int32) (x2 : Int32) (x3 : Int32) (μ : Mem) z, fixN (fun _ _ _ _ => none) (s_spread_B29 ) n x1 x2 x3 μ = some z → Fr T μ0 μ → Fr T μ0 z.2) := by
    intro n
    refine fixN_ind (fun (f : Int32 → Int32 → Int32 → Mem → Option (Int32 × Mem)) => ∀ (x1 : Int32) (x2 : Int32) (x3 : Int32) (μ : Mem) z, f x1 x2 x3 μ = some z → Fr T μ0 μ → Fr T μ0 z.2) ?_ ?_ n
    · intro x1 x2 x3 μ z h; cases h
    · intro self hself x1 x2 x3 μ z h fr
      unfold s_spread_B29 at h
      exact (have h7 := fgv h; fi h7 (fun h9 => fr_ret h9 fr) (fun h10 => (have h12 := fgv h10; fo h12 (fun r16 μ13 e24 h15 => have fr17 : Fr T μ0 μ13 := Fr.tr (Fr.mono (f_j_min  e24) (sbt sbn hT)) fr; fo h15 (fun r21 μ18 e23 h20 => have fr22 : Fr T μ0 μ18 := Fr.tr (Fr.mono (f_j_max  e23) (sbt sbn hT)) fr17; hself _ _ _ _ _ h20 fr22)))))
  exact key 60000 _ _ _ _ _ h fr
def T_s_spread : List At := []
theorem f_s_spread {μ : Mem}   {z : Int32 × Mem} (h : s_spread  μ = some z) : Fr (T_s_spread) μ z.2 := by
  unfold s_spread at h
  exact (have h2 := fgv h; fi h2 (fun h5 => fr_ret h5 (Fr.rf (T_s_spread) μ)) (fun h4 => f_s_spread_L29 h4 (Fr.rf (T_s_spread) μ) sbn  ))
def T_s_richest_L30 : List At := []
theorem f_s_richest_L30 {μ0 : Mem} {T : List At}    {x1 : Int32} {x2 : Int32} {μ : Mem} {z : Int32 × Mem} (h : s_richest_L30  x1 x2 μ = some z) (fr : Fr T μ0 μ) (hT : Sb (T_s_richest_L30) T)   : Fr T μ0 z.2 := by
  have key : ∀ (n : Nat), (∀ (x1 : Int32) (x2 : Int32) (μ : Mem) z, fixN (fun _ _ _ => none) (s_richest_B30 ) n x1 x2 μ = some z → Fr T μ0 μ → Fr T μ0 z.2) := by
    intro n
    refine fixN_ind (fun (f : Int32 → Int32 → Mem → Option (Int32 × Mem)) => ∀ (x1 : Int32) (x2 : Int32) (μ : Mem) z, f x1 x2 μ = some z → Fr T μ0 μ → Fr T μ0 z.2) ?_ ?_ n
    · intro x1 x2 μ z h; cases h
    · intro self hself x1 x2 μ z h fr
      unfold s_richest_B30 at h
      exact (have h10 := fgv h; fi h10 (fun h12 => fr_ret h12 fr) (fun h13 => (have h15 := fgv h13; (have h17 := fgv h15; fi h17 (fun h19 => hself _ _ _ _ h19 fr) (fun h20 => hself _ _ _ _ h20 fr)))))
  exact key 60000 _ _ _ _ h fr
def T_s_richest : List At := []
theorem f_s_richest {μ : Mem}   {z : Int32 × Mem} (h : s_richest  μ = some z) : Fr (T_s_richest) μ z.2 := by
  unfold s_richest at h
  exact (have h2 := fgv h; fi h2 (fun h4 => fr_ret h4 (Fr.rf (T_s_richest) μ)) (fun h5 => fi h5 (fun h7 => f_s_richest_L30 h7 (Fr.rf (T_s_richest) μ) sbn  ) (fun h8 => fr_ret h8 (Fr.rf (T_s_richest) μ))))
def T_s_wouldPassDays : List At := [(26, some 3, some 5), (32, some 1, some 0), (35, some 1, none), (32, some 1, some 4), (32, some 1, some 3), (34, some 1, none), (33, some 1, none), (32, some 1, some 2), (32, some 1, some 1), (41, none, none), (39, some 1, none), (38, some 1, none), (36, some 1, none), (37, some 1, none), (27, some 3, none), (43, some 1, none), (42, some 1, none), (30, some 3, none), (28, some 3, none), (29, some 3, none), (26, some 3, some 4), (26, some 3, some 6)]
theorem f_s_wouldPassDays {μ : Mem} {x1 : Int32} {x2 : Int32} {x3 : Int32}  {z : Unit × Mem} (h : s_wouldPassDays x1 x2 x3 μ = some z) : Fr (T_s_wouldPassDays) μ z.2 := by
  unfold s_wouldPassDays at h
  exact fo h (fun _ μ1 e18 h3 => have fr5 : Fr (T_s_wouldPassDays) μ μ1 := Fr.tr (Fr.mono (f_st_become  e18) (sbc (sa_m 14 rfl) (sbc (sa_m 18 rfl) (sbc (sa_m 19 rfl) (sbc (sa_m 17 rfl) (sbc (sa_m 20 rfl) (sbc (sa_m 0 rfl) (sbc (sa_m 21 rfl) sbn)))))))) (Fr.rf (T_s_wouldPassDays) μ); fo h3 (fun _ μ6 e17 h8 => have fr10 : Fr (T_s_wouldPassDays) μ μ6 := Fr.tr (Fr.mono (f_wo_settle  e17) (sbc (sa_m 1 rfl) (sbc (sa_m 2 rfl) (sbc (sa_m 3 rfl) (sbc (sa_m 4 rfl) (sbc (sa_m 5 rfl) (sbc (sa_m 6 rfl) (sbc (sa_m 7 rfl) (sbc (sa_m 8 rfl) (sbc (sa_m 9 rfl) (sbc (sa_m 10 rfl) (sbc (sa_m 11 rfl) (sbc (sa_m 12 rfl) (sbc (sa_m 13 rfl) sbn)))))))))))))) fr5; fo h8 (fun _ μ11 e16 h13 => have fr15 : Fr (T_s_wouldPassDays) μ μ11 := Fr.tr (Fr.mono (f_wo_passDays  e16) (sbc (sa_m 0 rfl) (sbc (sa_m 1 rfl) (sbc (sa_m 2 rfl) (sbc (sa_m 3 rfl) (sbc (sa_m 4 rfl) (sbc (sa_m 5 rfl) (sbc (sa_m 6 rfl) (sbc (sa_m 7 rfl) (sbc (sa_m 8 rfl) (sbc (sa_m 9 rfl) (sbc (sa_m 10 rfl) (sbc (sa_m 11 rfl) (sbc (sa_m 12 rfl) (sbc (sa_m 13 rfl) (sbc (sa_m 14 rfl) (sbc (sa_m 15 rfl) (sbc (sa_m 16 rfl) (sbc (sa_m 17 rfl) sbn))))))))))))))))))) fr10; fr_ret h13 fr15)))
def T_s_crop : List At := [(26, some 3, some 5), (32, some 1, some 0), (35, some 1, none), (32, some 1, some 4), (32, some 1, some 3), (34, some 1, none), (33, some 1, none), (32, some 1, some 2), (32, some 1, some 1), (41, none, none), (39, some 1, none), (38, some 1, none), (36, some 1, none), (37, some 1, none), (27, some 3, none), (43, some 1, none), (42, some 1, none), (30, some 3, none), (28, some 3, none), (29, some 3, none), (26, some 3, some 4), (26, some 3, some 6)]
theorem f_s_crop {μ : Mem} {x1 : Int32}  {z : Int32 × Mem} (h : s_crop x1 μ = some z) : Fr (T_s_crop) μ z.2 := by
  unfold s_crop at h
  exact fo h (fun r4 μ1 e29 h3 => have fr5 : Fr (T_s_crop) μ μ1 := Fr.tr (Fr.mono (f_s_isFrom  e29) sbn) (Fr.rf (T_s_crop) μ); fi h3 (fun h8 => fr_ret h8 fr5) (fun h7 => (have h10 := fgv h7; fo h10 (fun _ μ11 e28 h13 => have fr15 : Fr (T_s_crop) μ μ11 := Fr.tr (Fr.mono (f_s_wouldPassDays  e28) (sbc (sa_m 0 rfl) (sbc (sa_m 1 rfl) (sbc (sa_m 2 rfl) (sbc (sa_m 3 rfl) (sbc (sa_m 4 rfl) (sbc (sa_m 5 rfl) (sbc (sa_m 6 rfl) (sbc (sa_m 7 rfl) (sbc (sa_m 8 rfl) (sbc (sa_m 9 rfl) (sbc (sa_m 10 rfl) (sbc (sa_m 11 rfl) (sbc (sa_m 12 rfl) (sbc (sa_m 13 rfl) (sbc (sa_m 14 rfl) (sbc (sa_m 15 rfl) (sbc (sa_m 16 rfl) (sbc (sa_m 17 rfl) (sbc (sa_m 18 rfl) (sbc (sa_m 19 rfl) (sbc (sa_m 20 rfl) (sbc (sa_m 21 rfl) sbn))))))))))))))))))))))) fr5; fo h13 (fun r19 μ16 e27 h18 => have fr20 : Fr (T_s_crop) μ μ16 := Fr.tr (Fr.mono (f_wo_grownOfAll  e27) sbn) fr15; fo h18 (fun r24 μ21 e26 h23 => have fr25 : Fr (T_s_crop) μ μ21 := Fr.tr (Fr.mono (f_wo_grownOfAll  e26) sbn) fr20; fr_ret h23 fr25))))))
def T_s_again : List At := [(29, some 3, none), (32, some 1, some 0), (35, some 1, none), (32, some 1, some 4), (32, some 1, some 3), (34, some 1, none), (33, some 1, none), (32, some 1, some 2), (32, some 1, some 1), (41, none, none), (39, some 1, none), (38, some 1, none), (36, some 1, none), (37, some 1, none), (28, some 3, none), (27, some 3, none), (30, some 3, none), (26, some 3, some 4), (26, some 3, some 5), (26, some 3, some 6)]
theorem f_s_again {μ : Mem} {x1 : Int32} {x2 : Int32}  {z : Int32 × Mem} (h : s_again x1 x2 μ = some z) : Fr (T_s_again) μ z.2 := by
  unfold s_again at h
  exact fo h (fun r4 μ1 e49 h3 => have fr5 : Fr (T_s_again) μ μ1 := Fr.tr (Fr.mono (f_s_isField  e49) sbn) (Fr.rf (T_s_again) μ); fi h3 (fun h7 => fr_ret h7 fr5) (fun h8 => fo h8 (fun r12 μ9 e48 h11 => have fr13 : Fr (T_s_again) μ μ9 := Fr.tr (Fr.mono (f_s_isFrom  e48) sbn) fr5; fi h11 (fun h15 => fr_ret h15 fr13) (fun h16 => (have h18 := fgv h16; fi h18 (fun h21 => fr_ret h21 fr13) (fun h20 => fo h20 (fun _ μ22 e47 h24 => have fr26 : Fr (T_s_again) μ μ22 := Fr.tr (Fr.mono (f_st_become  e47) (sbc (sa_m 15 rfl) (sbc (sa_m 14 rfl) (sbc (sa_m 0 rfl) (sbc (sa_m 16 rfl) (sbc (sa_m 17 rfl) (sbc (sa_m 18 rfl) (sbc (sa_m 19 rfl) sbn)))))))) fr13; (have h28 := fgv h24; fi h28 (fun h31 => (let μ38 : Mem := stI (stI μ22 29 3 (cl x1) x2) 28 3 (cl x1) (nI 0); have fr39 : Fr (T_s_again) μ μ38 := Fr.stI (Fr.stI fr26 (iT 0 rfl inA_en)) (iT 14 rfl inA_en); have h40 := mb_o h31; fo h40 (fun _ μ41 e46 h43 => have fr45 : Fr (T_s_again) μ μ41 := Fr.tr (Fr.mono (f_wo_settle  e46) (sbc (sa_m 1 rfl) (sbc (sa_m 2 rfl) (sbc (sa_m 3 rfl) (sbc (sa_m 4 rfl) (sbc (sa_m 5 rfl) (sbc (sa_m 6 rfl) (sbc (sa_m 7 rfl) (sbc (sa_m 8 rfl) (sbc (sa_m 9 rfl) (sbc (sa_m 10 rfl) (sbc (sa_m 11 rfl) (sbc (sa_m 12 rfl) (sbc (sa_m 13 rfl) sbn)))))))))))))) fr39; fr_ret h43 fr45))) (fun h30 => fo h30 (fun _ μ32 e37 h34 => have fr36 : Fr (T_s_again) μ μ32 := Fr.tr (Fr.mono (f_wo_settle  e37) (sbc (sa_m 1 rfl) (sbc (sa_m 2 rfl) (sbc (sa_m 3 rfl) (sbc (sa_m 4 rfl) (sbc (sa_m 5 rfl) (sbc (sa_m 6 rfl) (sbc (sa_m 7 rfl) (sbc (sa_m 8 rfl) (sbc (sa_m 9 rfl) (sbc (sa_m 10 rfl) (sbc (sa_m 11 rfl) (sbc (sa_m 12 rfl) (sbc (sa_m 13 rfl) sbn)))))))))))))) (Fr.stI fr26 (iT 0 rfl inA_en)); fr_ret h34 fr36))))))))))
def T_s_wouldSwap : List At := [(27, some 3, none), (32, some 1, some 0), (35, some 1, none), (32, some 1, some 4), (32, some 1, some 3), (34, some 1, none), (33, some 1, none), (32, some 1, some 2), (32, some 1, some 1), (41, none, none), (39, some 1, none), (38, some 1, none), (36, some 1, none), (37, some 1, none), (28, some 3, none), (29, some 3, none), (30, some 3, none), (26, some 3, some 4), (26, some 3, some 5), (26, some 3, some 6)]
theorem f_s_wouldSwap {μ : Mem} {x1 : Int32} {x2 : Int32}  {z : Unit × Mem} (h : s_wouldSwap x1 x2 μ = some z) : Fr (T_s_wouldSwap) μ z.2 := by
  unfold s_wouldSwap at h
  exact fo h (fun _ μ1 e22 h3 => have fr5 : Fr (T_s_wouldSwap) μ μ1 := Fr.tr (Fr.mono (f_st_become  e22) (sbc (sa_m 0 rfl) (sbc (sa_m 14 rfl) (sbc (sa_m 15 rfl) (sbc (sa_m 16 rfl) (sbc (sa_m 17 rfl) (sbc (sa_m 18 rfl) (sbc (sa_m 19 rfl) sbn)))))))) (Fr.rf (T_s_wouldSwap) μ); (have h7 := fgv h3; (have h9 := fgv h7; (let μ10 : Mem := stI μ1 27 3 (cl x1) (mI μ1 27 2 (cl x2)); have fr11 : Fr (T_s_wouldSwap) μ μ10 := Fr.stI fr5 (iT 0 rfl inA_en); have h12 := mb_o h9; (let μ13 : Mem := stI μ10 27 3 (cl x2) (mI μ10 27 2 (cl x1)); have fr14 : Fr (T_s_wouldSwap) μ μ13 := Fr.stI fr11 (iT 0 rfl inA_en); have h15 := mb_o h12; fo h15 (fun _ μ16 e21 h18 => have fr20 : Fr (T_s_wouldSwap) μ μ16 := Fr.tr (Fr.mono (f_wo_settle  e21) (sbc (sa_m 1 rfl) (sbc (sa_m 2 rfl) (sbc (sa_m 3 rfl) (sbc (sa_m 4 rfl) (sbc (sa_m 5 rfl) (sbc (sa_m 6 rfl) (sbc (sa_m 7 rfl) (sbc (sa_m 8 rfl) (sbc (sa_m 9 rfl) (sbc (sa_m 10 rfl) (sbc (sa_m 11 rfl) (sbc (sa_m 12 rfl) (sbc (sa_m 13 rfl) sbn)))))))))))))) fr14; fr_ret h18 fr20))))))
def T_s_swap_L32 : List At := [(43, some 1, none), (42, some 1, none), (27, some 3, none), (32, some 1, some 0), (35, some 1, none), (32, some 1, some 4), (32, some 1, some 3), (34, some 1, none), (33, some 1, none), (32, some 1, some 2), (32, some 1, some 1), (41, none, none), (39, some 1, none), (38, some 1, none), (36, some 1, none), (37, some 1, none), (28, some 3, none), (29, some 3, none), (30, some 3, none), (26, some 3, some 4), (26, some 3, some 5), (26, some 3, some 6)]
theorem f_s_swap_L32 {μ0 : Mem} {T : List At} {x3 : Int32}  {k86 : Int32 → Int32 → Mem → Option (Int32 × Mem)} {x1 : Int32} {x2 : Int32} {x4 : Int32} {μ : Mem} {z : Int32 × Mem} (h : s_swap_L32 x3 k86 x1 x2 x4 μ = some z) (fr : Fr T μ0 μ) (hT : Sb (T_s_swap_L32) T)  (hk86 : ∀ (x1 : Int32) (x2 : Int32) (μ : Mem) z, k86 x1 x2 μ = some z → Fr T μ0 μ → Fr T μ0 z.2) : Fr T μ0 z.2 := by
  have key : ∀ (n : Nat), (∀ (x1 : Int32) (x2 : Int32) (x4 : Int32) (μ : Mem) z, fixN (fun _ _ _ _ => none) (s_swap_B32 x3 k86) n x1 x2 x4 μ = some z → Fr T μ0 μ → Fr T μ0 z.2) := by
    intro n
    refine fixN_ind (fun (f : Int32 → Int32 → Int32 → Mem → Option (Int32 × Mem)) => ∀ (x1 : Int32) (x2 : Int32) (x4 : Int32) (μ : Mem) z, f x1 x2 x4 μ = some z → Fr T μ0 μ → Fr T μ0 z.2) ?_ ?_ n
    · intro x1 x2 x4 μ z h; cases h
    · intro self hself x1 x2 x4 μ z h fr
      unfold s_swap_B32 at h
      exact (have h17 := fgv h; fi h17 (fun h19 => hk86 _ _ _ _ h19 fr) (fun h20 => fo h20 (fun _ μ21 e41 h23 => have fr25 : Fr T μ0 μ21 := Fr.tr (Fr.mono (f_s_wouldSwap  e41) (sbt (sbc (sa_m 2 rfl) (sbc (sa_m 3 rfl) (sbc (sa_m 4 rfl) (sbc (sa_m 5 rfl) (sbc (sa_m 6 rfl) (sbc (sa_m 7 rfl) (sbc (sa_m 8 rfl) (sbc (sa_m 9 rfl) (sbc (sa_m 10 rfl) (sbc (sa_m 11 rfl) (sbc (sa_m 12 rfl) (sbc (sa_m 13 rfl) (sbc (sa_m 14 rfl) (sbc (sa_m 15 rfl) (sbc (sa_m 16 rfl) (sbc (sa_m 17 rfl) (sbc (sa_m 18 rfl) (sbc (sa_m 19 rfl) (sbc (sa_m 20 rfl) (sbc (sa_m 21 rfl) sbn)))))))))))))))))))) hT)) fr; fo h23 (fun r29 μ26 e40 h28 => have fr30 : Fr T μ0 μ26 := Fr.tr (Fr.mono (f_wo_lackingFields  e40) (sbt (sbc (sa_m 0 rfl) (sbc (sa_m 1 rfl) sbn)) hT)) fr25; fo h28 (fun r34 μ31 e39 h33 => have fr35 : Fr T μ0 μ31 := Fr.tr (Fr.mono (f_j_bitCount  e39) (sbt sbn hT)) fr30; fi h33 (fun h37 => hself _ _ _ _ _ h37 fr35) (fun h38 => hself _ _ _ _ _ h38 fr35))))))
  exact key 60000 _ _ _ _ _ h fr
def T_s_swap_L16 : List At := [(43, some 1, none), (42, some 1, none), (27, some 3, none), (32, some 1, some 0), (35, some 1, none), (32, some 1, some 4), (32, some 1, some 3), (34, some 1, none), (33, some 1, none), (32, some 1, some 2), (32, some 1, some 1), (41, none, none), (39, some 1, none), (38, some 1, none), (36, some 1, none), (37, some 1, none), (28, some 3, none), (29, some 3, none), (30, some 3, none), (26, some 3, some 4), (26, some 3, some 5), (26, some 3, some 6)]
theorem f_s_swap_L16 {μ0 : Mem} {T : List At}    {x1 : Int32} {x2 : Int32} {x3 : Int32} {μ : Mem} {z : Int32 × Mem} (h : s_swap_L16  x1 x2 x3 μ = some z) (fr : Fr T μ0 μ) (hT : Sb (T_s_swap_L16) T)   : Fr T μ0 z.2 := by
  have key : ∀ (n : Nat), (∀ (x1 : Int32) (x2 : Int32) (x3 : Int32) (μ : Mem) z, fixN (fun _ _ _ _ => none) (s_swap_B16 ) n x1 x2 x3 μ = some z → Fr T μ0 μ → Fr T μ0 z.2) := by
    intro n
    refine fixN_ind (fun (f : Int32 → Int32 → Int32 → Mem → Option (Int32 × Mem)) => ∀ (x1 : Int32) (x2 : Int32) (x3 : Int32) (μ : Mem) z, f x1 x2 x3 μ = some z → Fr T μ0 μ → Fr T μ0 z.2) ?_ ?_ n
    · intro x1 x2 x3 μ z h; cases h
    · intro self hself x1 x2 x3 μ z h fr
      unfold s_swap_B16 at h
      exact (have h12 := fgv h; fi h12 (fun h14 => fr_ret h14 fr) (fun h15 => f_s_swap_L32 h15 fr (sbt (sbc (sa_m 0 rfl) (sbc (sa_m 1 rfl) (sbc (sa_m 2 rfl) (sbc (sa_m 3 rfl) (sbc (sa_m 4 rfl) (sbc (sa_m 5 rfl) (sbc (sa_m 6 rfl) (sbc (sa_m 7 rfl) (sbc (sa_m 8 rfl) (sbc (sa_m 9 rfl) (sbc (sa_m 10 rfl) (sbc (sa_m 11 rfl) (sbc (sa_m 12 rfl) (sbc (sa_m 13 rfl) (sbc (sa_m 14 rfl) (sbc (sa_m 15 rfl) (sbc (sa_m 16 rfl) (sbc (sa_m 17 rfl) (sbc (sa_m 18 rfl) (sbc (sa_m 19 rfl) (sbc (sa_m 20 rfl) (sbc (sa_m 21 rfl) sbn)))))))))))))))))))))) hT)  (fun x42 x43 μ44 _ h46 fr47 => hself _ _ _ _ _ h46 fr47)))
  exact key 60000 _ _ _ _ _ h fr
def T_s_swap : List At := [(43, some 1, none), (42, some 1, none), (27, some 3, none), (32, some 1, some 0), (35, some 1, none), (32, some 1, some 4), (32, some 1, some 3), (34, some 1, none), (33, some 1, none), (32, some 1, some 2), (32, some 1, some 1), (41, none, none), (39, some 1, none), (38, some 1, none), (36, some 1, none), (37, some 1, none), (28, some 3, none), (29, some 3, none), (30, some 3, none), (26, some 3, some 4), (26, some 3, some 5), (26, some 3, some 6), (43, some 0, none), (42, some 0, none)]
theorem f_s_swap {μ : Mem}   {z : Int32 × Mem} (h : s_swap  μ = some z) : Fr (T_s_swap) μ z.2 := by
  unfold s_swap at h
  exact fo h (fun r4 μ1 e49 h3 => have fr5 : Fr (T_s_swap) μ μ1 := Fr.tr (Fr.mono (f_wo_lackingFields  e49) (sbc (sa_m 22 rfl) (sbc (sa_m 23 rfl) sbn))) (Fr.rf (T_s_swap) μ); fo h3 (fun r9 μ6 e48 h8 => have fr10 : Fr (T_s_swap) μ μ6 := Fr.tr (Fr.mono (f_j_bitCount  e48) sbn) fr5; f_s_swap_L16 h8 fr10 (sbc (sa_m 0 rfl) (sbc (sa_m 1 rfl) (sbc (sa_m 2 rfl) (sbc (sa_m 3 rfl) (sbc (sa_m 4 rfl) (sbc (sa_m 5 rfl) (sbc (sa_m 6 rfl) (sbc (sa_m 7 rfl) (sbc (sa_m 8 rfl) (sbc (sa_m 9 rfl) (sbc (sa_m 10 rfl) (sbc (sa_m 11 rfl) (sbc (sa_m 12 rfl) (sbc (sa_m 13 rfl) (sbc (sa_m 14 rfl) (sbc (sa_m 15 rfl) (sbc (sa_m 16 rfl) (sbc (sa_m 17 rfl) (sbc (sa_m 18 rfl) (sbc (sa_m 19 rfl) (sbc (sa_m 20 rfl) (sbc (sa_m 21 rfl) sbn))))))))))))))))))))))  ))
def T_s_grownIn : List At := [(26, some 3, some 5), (32, some 1, some 0), (35, some 1, none), (32, some 1, some 4), (32, some 1, some 3), (34, some 1, none), (33, some 1, none), (32, some 1, some 2), (32, some 1, some 1), (41, none, none), (39, some 1, none), (38, some 1, none), (36, some 1, none), (37, some 1, none), (27, some 3, none), (43, some 1, none), (42, some 1, none), (30, some 3, none), (28, some 3, none), (29, some 3, none), (26, some 3, some 4), (26, some 3, some 6)]
theorem f_s_grownIn {μ : Mem} {x1 : Int32} {x2 : Int32}  {z : Int32 × Mem} (h : s_grownIn x1 x2 μ = some z) : Fr (T_s_grownIn) μ z.2 := by
  unfold s_grownIn at h
  exact fo h (fun r4 μ1 e28 h3 => have fr5 : Fr (T_s_grownIn) μ μ1 := Fr.tr (Fr.mono (f_s_isField  e28) sbn) (Fr.rf (T_s_grownIn) μ); fi h3 (fun h7 => fr_ret h7 fr5) (fun h8 => fo h8 (fun r12 μ9 e27 h11 => have fr13 : Fr (T_s_grownIn) μ μ9 := Fr.tr (Fr.mono (f_s_isFrom  e27) sbn) fr5; fi h11 (fun h16 => fr_ret h16 fr13) (fun h15 => (have h18 := fgv h15; fo h18 (fun _ μ19 e26 h21 => have fr23 : Fr (T_s_grownIn) μ μ19 := Fr.tr (Fr.mono (f_s_wouldPassDays  e26) (sbc (sa_m 0 rfl) (sbc (sa_m 1 rfl) (sbc (sa_m 2 rfl) (sbc (sa_m 3 rfl) (sbc (sa_m 4 rfl) (sbc (sa_m 5 rfl) (sbc (sa_m 6 rfl) (sbc (sa_m 7 rfl) (sbc (sa_m 8 rfl) (sbc (sa_m 9 rfl) (sbc (sa_m 10 rfl) (sbc (sa_m 11 rfl) (sbc (sa_m 12 rfl) (sbc (sa_m 13 rfl) (sbc (sa_m 14 rfl) (sbc (sa_m 15 rfl) (sbc (sa_m 16 rfl) (sbc (sa_m 17 rfl) (sbc (sa_m 18 rfl) (sbc (sa_m 19 rfl) (sbc (sa_m 20 rfl) (sbc (sa_m 21 rfl) sbn))))))))))))))))))))))) fr13; (have h25 := fgv h21; fr_ret h25 fr23)))))))
def T_s_wideIn : List At := [(26, some 3, some 5), (32, some 1, some 0), (35, some 1, none), (32, some 1, some 4), (32, some 1, some 3), (34, some 1, none), (33, some 1, none), (32, some 1, some 2), (32, some 1, some 1), (41, none, none), (39, some 1, none), (38, some 1, none), (36, some 1, none), (37, some 1, none), (27, some 3, none), (43, some 1, none), (42, some 1, none), (30, some 3, none), (28, some 3, none), (29, some 3, none), (26, some 3, some 4), (26, some 3, some 6)]
theorem f_s_wideIn {μ : Mem} {x1 : Int32} {x2 : Int32}  {z : Int32 × Mem} (h : s_wideIn x1 x2 μ = some z) : Fr (T_s_wideIn) μ z.2 := by
  unfold s_wideIn at h
  exact fo h (fun r4 μ1 e28 h3 => have fr5 : Fr (T_s_wideIn) μ μ1 := Fr.tr (Fr.mono (f_s_isNotch  e28) sbn) (Fr.rf (T_s_wideIn) μ); fi h3 (fun h7 => fr_ret h7 fr5) (fun h8 => fo h8 (fun r12 μ9 e27 h11 => have fr13 : Fr (T_s_wideIn) μ μ9 := Fr.tr (Fr.mono (f_s_isFrom  e27) sbn) fr5; fi h11 (fun h16 => fr_ret h16 fr13) (fun h15 => (have h18 := fgv h15; fo h18 (fun _ μ19 e26 h21 => have fr23 : Fr (T_s_wideIn) μ μ19 := Fr.tr (Fr.mono (f_s_wouldPassDays  e26) (sbc (sa_m 0 rfl) (sbc (sa_m 1 rfl) (sbc (sa_m 2 rfl) (sbc (sa_m 3 rfl) (sbc (sa_m 4 rfl) (sbc (sa_m 5 rfl) (sbc (sa_m 6 rfl) (sbc (sa_m 7 rfl) (sbc (sa_m 8 rfl) (sbc (sa_m 9 rfl) (sbc (sa_m 10 rfl) (sbc (sa_m 11 rfl) (sbc (sa_m 12 rfl) (sbc (sa_m 13 rfl) (sbc (sa_m 14 rfl) (sbc (sa_m 15 rfl) (sbc (sa_m 16 rfl) (sbc (sa_m 17 rfl) (sbc (sa_m 18 rfl) (sbc (sa_m 19 rfl) (sbc (sa_m 20 rfl) (sbc (sa_m 21 rfl) sbn))))))))))))))))))))))) fr13; (have h25 := fgv h21; fr_ret h25 fr23)))))))
def T_s_year_L36 : List At := [(43, some 1, none), (42, some 1, none), (26, some 3, some 5), (32, some 1, some 0), (35, some 1, none), (32, some 1, some 4), (32, some 1, some 3), (34, some 1, none), (33, some 1, none), (32, some 1, some 2), (32, some 1, some 1), (41, none, none), (39, some 1, none), (38, some 1, none), (36, some 1, none), (37, some 1, none), (27, some 3, none), (30, some 3, none), (28, some 3, none), (29, some 3, none), (26, some 3, some 4), (26, some 3, some 6)]
theorem f_s_year_L36 {μ0 : Mem} {T : List At} {x1 : Int32} {x2 : Int32} {x3 : Int32}   {x4 : Int32} {x5 : Int32} {μ : Mem} {z : Int32 × Mem} (h : s_year_L36 x1 x2 x3 x4 x5 μ = some z) (fr : Fr T μ0 μ) (hT : Sb (T_s_year_L36) T)   : Fr T μ0 z.2 := by
  have key : ∀ (n : Nat), (∀ (x4 : Int32) (x5 : Int32) (μ : Mem) z, fixN (fun _ _ _ => none) (s_year_B36 x1 x2 x3) n x4 x5 μ = some z → Fr T μ0 μ → Fr T μ0 z.2) := by
    intro n
    refine fixN_ind (fun (f : Int32 → Int32 → Mem → Option (Int32 × Mem)) => ∀ (x4 : Int32) (x5 : Int32) (μ : Mem) z, f x4 x5 μ = some z → Fr T μ0 μ → Fr T μ0 z.2) ?_ ?_ n
    · intro x4 x5 μ z h; cases h
    · intro self hself x4 x5 μ z h fr
      unfold s_year_B36 at h
      exact fi h (fun h26 => fr_ret h26 fr) (fun h27 => (have h29 := fgv h27; fo h29 (fun _ μ30 e44 h32 => have fr34 : Fr T μ0 μ30 := Fr.tr (Fr.mono (f_s_wouldPassDays  e44) (sbt (sbc (sa_m 2 rfl) (sbc (sa_m 3 rfl) (sbc (sa_m 4 rfl) (sbc (sa_m 5 rfl) (sbc (sa_m 6 rfl) (sbc (sa_m 7 rfl) (sbc (sa_m 8 rfl) (sbc (sa_m 9 rfl) (sbc (sa_m 10 rfl) (sbc (sa_m 11 rfl) (sbc (sa_m 12 rfl) (sbc (sa_m 13 rfl) (sbc (sa_m 14 rfl) (sbc (sa_m 15 rfl) (sbc (sa_m 16 rfl) (sbc (sa_m 0 rfl) (sbc (sa_m 1 rfl) (sbc (sa_m 17 rfl) (sbc (sa_m 18 rfl) (sbc (sa_m 19 rfl) (sbc (sa_m 20 rfl) (sbc (sa_m 21 rfl) sbn)))))))))))))))))))))) hT)) fr; fo h32 (fun r38 μ35 e43 h37 => have fr39 : Fr T μ0 μ35 := Fr.tr (Fr.mono (f_wo_lacks  e43) (sbt (sbc (sa_m 0 rfl) (sbc (sa_m 1 rfl) sbn)) hT)) fr34; fi h37 (fun h41 => hself _ _ _ _ h41 fr39) (fun h42 => hself _ _ _ _ h42 fr39)))))
  exact key 60000 _ _ _ _ h fr
def T_s_year : List At := [(43, some 1, none), (42, some 1, none), (26, some 3, some 5), (32, some 1, some 0), (35, some 1, none), (32, some 1, some 4), (32, some 1, some 3), (34, some 1, none), (33, some 1, none), (32, some 1, some 2), (32, some 1, some 1), (41, none, none), (39, some 1, none), (38, some 1, none), (36, some 1, none), (37, some 1, none), (27, some 3, none), (30, some 3, none), (28, some 3, none), (29, some 3, none), (26, some 3, some 4), (26, some 3, some 6)]
theorem f_s_year {μ : Mem} {x1 : Int32} {x2 : Int32} {x3 : Int32}  {z : Int32 × Mem} (h : s_year x1 x2 x3 μ = some z) : Fr (T_s_year) μ z.2 := by
  unfold s_year at h
  exact fo h (fun r4 μ1 e47 h3 => have fr5 : Fr (T_s_year) μ μ1 := Fr.tr (Fr.mono (f_s_isField  e47) sbn) (Fr.rf (T_s_year) μ); fi h3 (fun h7 => fr_ret h7 fr5) (fun h8 => fo h8 (fun r12 μ9 e46 h11 => have fr13 : Fr (T_s_year) μ μ9 := Fr.tr (Fr.mono (f_s_isFrom  e46) sbn) fr5; fi h11 (fun h15 => fr_ret h15 fr13) (fun h16 => fo h16 (fun r20 μ17 e45 h19 => have fr21 : Fr (T_s_year) μ μ17 := Fr.tr (Fr.mono (f_s_isFrom  e45) sbn) fr13; fi h19 (fun h24 => fr_ret h24 fr21) (fun h23 => f_s_year_L36 h23 fr21 (sbc (sa_m 0 rfl) (sbc (sa_m 1 rfl) (sbc (sa_m 2 rfl) (sbc (sa_m 3 rfl) (sbc (sa_m 4 rfl) (sbc (sa_m 5 rfl) (sbc (sa_m 6 rfl) (sbc (sa_m 7 rfl) (sbc (sa_m 8 rfl) (sbc (sa_m 9 rfl) (sbc (sa_m 10 rfl) (sbc (sa_m 11 rfl) (sbc (sa_m 12 rfl) (sbc (sa_m 13 rfl) (sbc (sa_m 14 rfl) (sbc (sa_m 15 rfl) (sbc (sa_m 16 rfl) (sbc (sa_m 17 rfl) (sbc (sa_m 18 rfl) (sbc (sa_m 19 rfl) (sbc (sa_m 20 rfl) (sbc (sa_m 21 rfl) sbn))))))))))))))))))))))  ))))))
def T_s_tell : List At := [(49, none, none), (50, none, none), (51, none, none), (48, none, some 3)]
theorem f_s_tell {μ : Mem} {x1 : Int32} {x2 : Int32} {x3 : Int32}  {z : Int32 × Mem} (h : s_tell x1 x2 x3 μ = some z) : Fr (T_s_tell) μ z.2 := by
  unfold s_tell at h
  exact fi h (fun h2 => fr_ret h2 (Fr.rf (T_s_tell) μ)) (fun h3 => fo h3 (fun r7 μ4 e32 h6 => have fr8 : Fr (T_s_tell) μ μ4 := Fr.tr (Fr.mono (f_s_isField  e32) sbn) (Fr.rf (T_s_tell) μ); fi h6 (fun h10 => fr_ret h10 fr8) (fun h11 => fo h11 (fun r15 μ12 e31 h14 => have fr16 : Fr (T_s_tell) μ μ12 := Fr.tr (Fr.mono (f_s_isFrom  e31) sbn) fr8; fi h14 (fun h19 => fr_ret h19 fr16) (fun h18 => (have h21 := fgv h18; (let μ22 : Mem := stI (stI μ12 49 0 (cl (mI μ12 48 0 3)) x1) 50 0 (cl (mI μ12 48 0 3)) x2; have fr23 : Fr (T_s_tell) μ μ22 := Fr.stI (Fr.stI fr16 (iT 0 rfl inA_nn)) (iT 1 rfl inA_nn); have h24 := mb_o h21; (let μ25 : Mem := stI μ22 51 0 (cl (mI μ12 48 0 3)) (x3 &&& 1); have fr26 : Fr (T_s_tell) μ μ25 := Fr.stI fr23 (iT 2 rfl inA_nn); have h27 := mb_o h24; (let μ28 : Mem := stI μ25 48 0 3 ((mI μ25 48 0 3) + (nI 1)); have fr29 : Fr (T_s_tell) μ μ28 := Fr.stI fr26 (iT 3 rfl inA_ns); have h30 := mb_o h27; fr_ret h30 fr29)))))))))
def T_s_forget : List At := [(48, none, some 3)]
theorem f_s_forget {μ : Mem}   {z : Int32 × Mem} (h : s_forget  μ = some z) : Fr (T_s_forget) μ z.2 := by
  unfold s_forget at h
  exact fr_ret h (Fr.stI (Fr.rf (T_s_forget) μ) (iT 0 rfl inA_ns))
def T_s_stepsThatFit_L4 : List At := []
theorem f_s_stepsThatFit_L4 {μ0 : Mem} {T : List At} {x1 : Int32}   {x2 : Int32} {x3 : Int32} {μ : Mem} {z : Int32 × Mem} (h : s_stepsThatFit_L4 x1 x2 x3 μ = some z) (fr : Fr T μ0 μ) (hT : Sb (T_s_stepsThatFit_L4) T)   : Fr T μ0 z.2 := by
  have key : ∀ (n : Nat), (∀ (x2 : Int32) (x3 : Int32) (μ : Mem) z, fixN (fun _ _ _ => none) (s_stepsThatFit_B4 x1) n x2 x3 μ = some z → Fr T μ0 μ → Fr T μ0 z.2) := by
    intro n
    refine fixN_ind (fun (f : Int32 → Int32 → Mem → Option (Int32 × Mem)) => ∀ (x2 : Int32) (x3 : Int32) (μ : Mem) z, f x2 x3 μ = some z → Fr T μ0 μ → Fr T μ0 z.2) ?_ ?_ n
    · intro x2 x3 μ z h; cases h
    · intro self hself x2 x3 μ z h fr
      unfold s_stepsThatFit_B4 at h
      exact fi h (fun h2 => fr_ret h2 fr) (fun h3 => fo h3 (fun r7 μ4 e23 h6 => have fr8 : Fr T μ0 μ4 := Fr.tr (Fr.mono (f_wo_canStep  e23) (sbt sbn hT)) fr; fi h6 (fun h10 => hself _ _ _ _ h10 fr8) (fun h11 => (have h13 := fgv h11; fo h13 (fun r17 μ14 e22 h16 => have fr18 : Fr T μ0 μ14 := Fr.tr (Fr.mono (f_tk_fitsKnown_r53  e22) (sbt sbn hT)) fr8; fi h16 (fun h20 => hself _ _ _ _ h20 fr18) (fun h21 => hself _ _ _ _ h21 fr18))))))
  exact key 60000 _ _ _ _ h fr
def T_s_stepsThatFit : List At := []
theorem f_s_stepsThatFit {μ : Mem} {x1 : Int32}  {z : Int32 × Mem} (h : s_stepsThatFit x1 μ = some z) : Fr (T_s_stepsThatFit) μ z.2 := by
  unfold s_stepsThatFit at h
  exact f_s_stepsThatFit_L4 h (Fr.rf (T_s_stepsThatFit) μ) sbn  
def T_s_fits : List At := [(53, none, none), (32, some 1, some 0), (35, some 1, none), (32, some 1, some 4), (32, some 1, some 3), (34, some 1, none), (33, some 1, none), (32, some 1, some 2), (32, some 1, some 1), (41, none, none), (39, some 1, none), (38, some 1, none), (36, some 1, none), (37, some 1, none), (27, some 3, none), (28, some 3, none), (29, some 3, none), (30, some 3, none), (26, some 3, some 4), (26, some 3, some 5), (26, some 3, some 6)]
theorem f_s_fits {μ : Mem} {x1 : Int32} {x2 : Int32}  {z : Int32 × Mem} (h : s_fits x1 x2 μ = some z) : Fr (T_s_fits) μ z.2 := by
  unfold s_fits at h
  exact fo h (fun r4 μ1 e39 h3 => have fr5 : Fr (T_s_fits) μ μ1 := Fr.tr (Fr.mono (f_s_isFrom  e39) sbn) (Fr.rf (T_s_fits) μ); fi h3 (fun h7 => fr_ret h7 fr5) (fun h8 => fo h8 (fun r12 μ9 e38 h11 => have fr13 : Fr (T_s_fits) μ μ9 := Fr.tr (Fr.mono (f_s_isFrom  e38) sbn) fr5; fi h11 (fun h16 => fr_ret h16 fr13) (fun h15 => fo h15 (fun _ μ17 e37 h19 => have fr21 : Fr (T_s_fits) μ μ17 := Fr.tr (Fr.mono (f_s_feelAllSteps  e37) (sbc (sa_m 0 rfl) (sbc (sa_m 1 rfl) (sbc (sa_m 2 rfl) (sbc (sa_m 3 rfl) (sbc (sa_m 4 rfl) (sbc (sa_m 5 rfl) (sbc (sa_m 6 rfl) (sbc (sa_m 7 rfl) (sbc (sa_m 8 rfl) (sbc (sa_m 9 rfl) (sbc (sa_m 10 rfl) (sbc (sa_m 11 rfl) (sbc (sa_m 12 rfl) (sbc (sa_m 13 rfl) (sbc (sa_m 14 rfl) (sbc (sa_m 15 rfl) (sbc (sa_m 16 rfl) (sbc (sa_m 17 rfl) (sbc (sa_m 18 rfl) (sbc (sa_m 19 rfl) (sbc (sa_m 20 rfl) sbn)))))))))))))))))))))) fr13; fo h19 (fun r25 μ22 e36 h24 => have fr26 : Fr (T_s_fits) μ μ22 := Fr.tr (Fr.mono (f_s_stepsThatFit  e36) sbn) fr21; fi h24 (fun h29 => fo h29 (fun r33 μ30 e35 h32 => have fr34 : Fr (T_s_fits) μ μ30 := Fr.tr (Fr.mono (f_j_bitCount  e35) sbn) fr26; fr_ret h32 fr34)) (fun h28 => fr_ret h28 fr26)))))))
def T_s_leftAtWorst_L17 : List At := []
theorem f_s_leftAtWorst_L17 {μ0 : Mem} {T : List At} {x1 : Int32} {x2 : Int32} {x3 : Int32} {x4 : Int32}  {k57 : Int32 → Mem → Option (Int32 × Mem)} {x5 : Int32} {x6 : Int32} {μ : Mem} {z : Int32 × Mem} (h : s_leftAtWorst_L17 x1 x2 x3 x4 k57 x5 x6 μ = some z) (fr : Fr T μ0 μ) (hT : Sb (T_s_leftAtWorst_L17) T)  (hk57 : ∀ (x5 : Int32) (μ : Mem) z, k57 x5 μ = some z → Fr T μ0 μ → Fr T μ0 z.2) : Fr T μ0 z.2 := by
  have key : ∀ (n : Nat), (∀ (x5 : Int32) (x6 : Int32) (μ : Mem) z, fixN (fun _ _ _ => none) (s_leftAtWorst_B17 x1 x2 x3 x4 k57) n x5 x6 μ = some z → Fr T μ0 μ → Fr T μ0 z.2) := by
    intro n
    refine fixN_ind (fun (f : Int32 → Int32 → Mem → Option (Int32 × Mem)) => ∀ (x5 : Int32) (x6 : Int32) (μ : Mem) z, f x5 x6 μ = some z → Fr T μ0 μ → Fr T μ0 z.2) ?_ ?_ n
    · intro x5 x6 μ z h; cases h
    · intro self hself x5 x6 μ z h fr
      unfold s_leftAtWorst_B17 at h
      exact fi h (fun h5 => hk57 _ _ _ h5 fr) (fun h6 => fi h6 (fun h9 => (have h11 := fgv h9; (have h13 := fgv h11; fi h13 (fun h16 => hself _ _ _ _ h16 fr) (fun h15 => hself _ _ _ _ h15 fr)))) (fun h8 => hself _ _ _ _ h8 fr))
  exact key 60000 _ _ _ _ h fr
def T_s_leftAtWorst_L5 : List At := []
theorem f_s_leftAtWorst_L5 {μ0 : Mem} {T : List At} {x1 : Int32} {x2 : Int32}   {x3 : Int32} {x4 : Int32} {μ : Mem} {z : Int32 × Mem} (h : s_leftAtWorst_L5 x1 x2 x3 x4 μ = some z) (fr : Fr T μ0 μ) (hT : Sb (T_s_leftAtWorst_L5) T)   : Fr T μ0 z.2 := by
  have key : ∀ (n : Nat), (∀ (x3 : Int32) (x4 : Int32) (μ : Mem) z, fixN (fun _ _ _ => none) (s_leftAtWorst_B5 x1 x2) n x3 x4 μ = some z → Fr T μ0 μ → Fr T μ0 z.2) := by
    intro n
    refine fixN_ind (fun (f : Int32 → Int32 → Mem → Option (Int32 × Mem)) => ∀ (x3 : Int32) (x4 : Int32) (μ : Mem) z, f x3 x4 μ = some z → Fr T μ0 μ → Fr T μ0 z.2) ?_ ?_ n
    · intro x3 x4 μ z h; cases h
    · intro self hself x3 x4 μ z h fr
      unfold s_leftAtWorst_B5 at h
      exact fi h (fun h2 => fr_ret h2 fr) (fun h3 => f_s_leftAtWorst_L17 h3 fr (sbt sbn hT)  (fun x17 μ18 _ h20 fr21 => fo h20 (fun r25 μ22 e27 h24 => have fr26 : Fr T μ0 μ22 := Fr.tr (Fr.mono (f_j_max  e27) (sbt sbn hT)) fr21; hself _ _ _ _ h24 fr26)))
  exact key 60000 _ _ _ _ h fr
def T_s_leftAtWorst : List At := []
theorem f_s_leftAtWorst {μ : Mem} {x1 : Int32} {x2 : Int32}  {z : Int32 × Mem} (h : s_leftAtWorst x1 x2 μ = some z) : Fr (T_s_leftAtWorst) μ z.2 := by
  unfold s_leftAtWorst at h
  exact f_s_leftAtWorst_L5 h (Fr.rf (T_s_leftAtWorst) μ) sbn  
def T_s_ask_L44 : List At := []
theorem f_s_ask_L44 {μ0 : Mem} {T : List At} {x2 : Int32}   {x3 : Int32} {x4 : Int32} {x5 : Int32} {μ : Mem} {z : Int32 × Mem} (h : s_ask_L44 x2 x3 x4 x5 μ = some z) (fr : Fr T μ0 μ) (hT : Sb (T_s_ask_L44) T)   : Fr T μ0 z.2 := by
  have key : ∀ (n : Nat), (∀ (x3 : Int32) (x4 : Int32) (x5 : Int32) (μ : Mem) z, fixN (fun _ _ _ _ => none) (s_ask_B44 x2) n x3 x4 x5 μ = some z → Fr T μ0 μ → Fr T μ0 z.2) := by
    intro n
    refine fixN_ind (fun (f : Int32 → Int32 → Int32 → Mem → Option (Int32 × Mem)) => ∀ (x3 : Int32) (x4 : Int32) (x5 : Int32) (μ : Mem) z, f x3 x4 x5 μ = some z → Fr T μ0 μ → Fr T μ0 z.2) ?_ ?_ n
    · intro x3 x4 x5 μ z h; cases h
    · intro self hself x3 x4 x5 μ z h fr
      unfold s_ask_B44 at h
      exact (have h23 := fgv h; fi h23 (fun h25 => fr_ret h25 fr) (fun h26 => fo h26 (fun r30 μ27 e35 h29 => have fr31 : Fr T μ0 μ27 := Fr.tr (Fr.mono (f_s_leftAtWorst  e35) (sbt sbn hT)) fr; fi h29 (fun h33 => hself _ _ _ _ _ h33 fr31) (fun h34 => hself _ _ _ _ _ h34 fr31))))
  exact key 60000 _ _ _ _ _ h fr
def T_s_ask : List At := [(53, none, none), (32, some 1, some 0), (35, some 1, none), (32, some 1, some 4), (32, some 1, some 3), (34, some 1, none), (33, some 1, none), (32, some 1, some 2), (32, some 1, some 1), (41, none, none), (39, some 1, none), (38, some 1, none), (36, some 1, none), (37, some 1, none), (27, some 3, none), (28, some 3, none), (29, some 3, none), (30, some 3, none), (26, some 3, some 4), (26, some 3, some 5), (26, some 3, some 6)]
theorem f_s_ask {μ : Mem} {x1 : Int32}  {z : Int32 × Mem} (h : s_ask x1 μ = some z) : Fr (T_s_ask) μ z.2 := by
  unfold s_ask at h
  exact fo h (fun r4 μ1 e38 h3 => have fr5 : Fr (T_s_ask) μ μ1 := Fr.tr (Fr.mono (f_s_isFrom  e38) sbn) (Fr.rf (T_s_ask) μ); fi h3 (fun h8 => fr_ret h8 fr5) (fun h7 => fo h7 (fun _ μ9 e37 h11 => have fr13 : Fr (T_s_ask) μ μ9 := Fr.tr (Fr.mono (f_s_feelAllSteps  e37) (sbc (sa_m 0 rfl) (sbc (sa_m 1 rfl) (sbc (sa_m 2 rfl) (sbc (sa_m 3 rfl) (sbc (sa_m 4 rfl) (sbc (sa_m 5 rfl) (sbc (sa_m 6 rfl) (sbc (sa_m 7 rfl) (sbc (sa_m 8 rfl) (sbc (sa_m 9 rfl) (sbc (sa_m 10 rfl) (sbc (sa_m 11 rfl) (sbc (sa_m 12 rfl) (sbc (sa_m 13 rfl) (sbc (sa_m 14 rfl) (sbc (sa_m 15 rfl) (sbc (sa_m 16 rfl) (sbc (sa_m 17 rfl) (sbc (sa_m 18 rfl) (sbc (sa_m 19 rfl) (sbc (sa_m 20 rfl) sbn)))))))))))))))))))))) fr5; fo h11 (fun r17 μ14 e36 h16 => have fr18 : Fr (T_s_ask) μ μ14 := Fr.tr (Fr.mono (f_s_stepsThatFit  e36) sbn) fr13; fi h16 (fun h21 => fr_ret h21 fr18) (fun h20 => f_s_ask_L44 h20 fr18 sbn  )))))
def T_s_hold : List At := [(47, none, none), (27, none, none), (28, none, none), (29, none, none), (30, none, none), (26, none, some 4), (26, none, some 5), (26, none, some 6)]
theorem f_s_hold {μ : Mem} {x1 : Int32}  {z : Int32 × Mem} (h : s_hold x1 μ = some z) : Fr (T_s_hold) μ z.2 := by
  unfold s_hold at h
  exact fo h (fun r4 μ1 e17 h3 => have fr5 : Fr (T_s_hold) μ μ1 := Fr.tr (Fr.mono (f_s_isFrom  e17) sbn) (Fr.rf (T_s_hold) μ); fi h3 (fun h8 => fr_ret h8 fr5) (fun h7 => (have h10 := fgv h7; fo h10 (fun _ μ11 e16 h13 => have fr15 : Fr (T_s_hold) μ μ11 := Fr.tr (Fr.mono (f_st_become  e16) (sbc (sa_r 1 rfl) (sbc (sa_r 2 rfl) (sbc (sa_r 3 rfl) (sbc (sa_r 4 rfl) (sbc (sa_r 5 rfl) (sbc (sa_r 6 rfl) (sbc (sa_r 7 rfl) sbn)))))))) fr5; fr_ret h13 (Fr.stI fr15 (iT 0 rfl inA_nn))))))
def T_s_restore : List At := [(44, none, some 2), (32, some 0, some 0), (35, some 0, none), (32, some 0, some 4), (32, some 0, some 3), (34, some 0, none), (33, some 0, none), (32, some 0, some 2), (32, some 0, some 1), (41, none, none), (39, some 0, none), (38, some 0, none), (36, some 0, none), (37, some 0, none), (27, some 2, none), (28, some 2, none), (29, some 2, none), (30, some 2, none), (26, some 2, some 4), (26, some 2, some 5), (26, some 2, some 6)]
theorem f_s_restore {μ : Mem} {x1 : Int32}  {z : Int32 × Mem} (h : s_restore x1 μ = some z) : Fr (T_s_restore) μ z.2 := by
  unfold s_restore at h
  exact fo h (fun r4 μ1 e26 h3 => have fr5 : Fr (T_s_restore) μ μ1 := Fr.tr (Fr.mono (f_s_isFrom  e26) sbn) (Fr.rf (T_s_restore) μ); fi h3 (fun h7 => fr_ret h7 fr5) (fun h8 => (have h10 := fgv h8; fi h10 (fun h13 => fr_ret h13 fr5) (fun h12 => fo h12 (fun _ μ14 e25 h16 => have fr18 : Fr (T_s_restore) μ μ14 := Fr.tr (Fr.mono (f_st_become  e25) (sbc (sa_m 14 rfl) (sbc (sa_m 15 rfl) (sbc (sa_m 16 rfl) (sbc (sa_m 17 rfl) (sbc (sa_m 18 rfl) (sbc (sa_m 19 rfl) (sbc (sa_m 20 rfl) sbn)))))))) fr5; fo h16 (fun _ μ19 e24 h21 => have fr23 : Fr (T_s_restore) μ μ19 := Fr.tr (Fr.mono (f_wo_settle  e24) (sbc (sa_m 1 rfl) (sbc (sa_m 2 rfl) (sbc (sa_m 3 rfl) (sbc (sa_m 4 rfl) (sbc (sa_m 5 rfl) (sbc (sa_m 6 rfl) (sbc (sa_m 7 rfl) (sbc (sa_m 8 rfl) (sbc (sa_m 9 rfl) (sbc (sa_m 10 rfl) (sbc (sa_m 11 rfl) (sbc (sa_m 12 rfl) (sbc (sa_m 13 rfl) sbn)))))))))))))) fr18; fr_ret h21 (Fr.stI fr23 (iT 0 rfl inA_ns))))))))
def T_s_flowOfAll_L4 : List At := []
theorem f_s_flowOfAll_L4 {μ0 : Mem} {T : List At}    {x1 : Int32} {x2 : Int32} {μ : Mem} {z : Int32 × Mem} (h : s_flowOfAll_L4  x1 x2 μ = some z) (fr : Fr T μ0 μ) (hT : Sb (T_s_flowOfAll_L4) T)   : Fr T μ0 z.2 := by
  have key : ∀ (n : Nat), (∀ (x1 : Int32) (x2 : Int32) (μ : Mem) z, fixN (fun _ _ _ => none) (s_flowOfAll_B4 ) n x1 x2 μ = some z → Fr T μ0 μ → Fr T μ0 z.2) := by
    intro n
    refine fixN_ind (fun (f : Int32 → Int32 → Mem → Option (Int32 × Mem)) => ∀ (x1 : Int32) (x2 : Int32) (μ : Mem) z, f x1 x2 μ = some z → Fr T μ0 μ → Fr T μ0 z.2) ?_ ?_ n
    · intro x1 x2 μ z h; cases h
    · intro self hself x1 x2 μ z h fr
      unfold s_flowOfAll_B4 at h
      exact (have h2 := fgv h; fi h2 (fun h4 => fr_ret h4 fr) (fun h5 => (have h7 := fgv h5; hself _ _ _ _ h7 fr)))
  exact key 60000 _ _ _ _ h fr
def T_s_flowOfAll : List At := []
theorem f_s_flowOfAll {μ : Mem}   {z : Int32 × Mem} (h : s_flowOfAll  μ = some z) : Fr (T_s_flowOfAll) μ z.2 := by
  unfold s_flowOfAll at h
  exact f_s_flowOfAll_L4 h (Fr.rf (T_s_flowOfAll) μ) sbn  
def T_s_slotsThatHold_L4 : List At := []
theorem f_s_slotsThatHold_L4 {μ0 : Mem} {T : List At}    {x1 : Int32} {x2 : Int32} {μ : Mem} {z : Int32 × Mem} (h : s_slotsThatHold_L4  x1 x2 μ = some z) (fr : Fr T μ0 μ) (hT : Sb (T_s_slotsThatHold_L4) T)   : Fr T μ0 z.2 := by
  have key : ∀ (n : Nat), (∀ (x1 : Int32) (x2 : Int32) (μ : Mem) z, fixN (fun _ _ _ => none) (s_slotsThatHold_B4 ) n x1 x2 μ = some z → Fr T μ0 μ → Fr T μ0 z.2) := by
    intro n
    refine fixN_ind (fun (f : Int32 → Int32 → Mem → Option (Int32 × Mem)) => ∀ (x1 : Int32) (x2 : Int32) (μ : Mem) z, f x1 x2 μ = some z → Fr T μ0 μ → Fr T μ0 z.2) ?_ ?_ n
    · intro x1 x2 μ z h; cases h
    · intro self hself x1 x2 μ z h fr
      unfold s_slotsThatHold_B4 at h
      exact fi h (fun h2 => fr_ret h2 fr) (fun h3 => (have h5 := fgv h3; fi h5 (fun h7 => hself _ _ _ _ h7 fr) (fun h8 => hself _ _ _ _ h8 fr)))
  exact key 60000 _ _ _ _ h fr
def T_s_slotsThatHold : List At := []
theorem f_s_slotsThatHold {μ : Mem}   {z : Int32 × Mem} (h : s_slotsThatHold  μ = some z) : Fr (T_s_slotsThatHold) μ z.2 := by
  unfold s_slotsThatHold at h
  exact f_s_slotsThatHold_L4 h (Fr.rf (T_s_slotsThatHold) μ) sbn  
def T_s_stepsThatCanBe_L4 : List At := []
theorem f_s_stepsThatCanBe_L4 {μ0 : Mem} {T : List At}    {x1 : Int32} {x2 : Int32} {μ : Mem} {z : Int32 × Mem} (h : s_stepsThatCanBe_L4  x1 x2 μ = some z) (fr : Fr T μ0 μ) (hT : Sb (T_s_stepsThatCanBe_L4) T)   : Fr T μ0 z.2 := by
  have key : ∀ (n : Nat), (∀ (x1 : Int32) (x2 : Int32) (μ : Mem) z, fixN (fun _ _ _ => none) (s_stepsThatCanBe_B4 ) n x1 x2 μ = some z → Fr T μ0 μ → Fr T μ0 z.2) := by
    intro n
    refine fixN_ind (fun (f : Int32 → Int32 → Mem → Option (Int32 × Mem)) => ∀ (x1 : Int32) (x2 : Int32) (μ : Mem) z, f x1 x2 μ = some z → Fr T μ0 μ → Fr T μ0 z.2) ?_ ?_ n
    · intro x1 x2 μ z h; cases h
    · intro self hself x1 x2 μ z h fr
      unfold s_stepsThatCanBe_B4 at h
      exact fi h (fun h2 => fr_ret h2 fr) (fun h3 => fo h3 (fun r7 μ4 e12 h6 => have fr8 : Fr T μ0 μ4 := Fr.tr (Fr.mono (f_wo_canStep  e12) (sbt sbn hT)) fr; fi h6 (fun h10 => hself _ _ _ _ h10 fr8) (fun h11 => hself _ _ _ _ h11 fr8)))
  exact key 60000 _ _ _ _ h fr
def T_s_stepsThatCanBe : List At := []
theorem f_s_stepsThatCanBe {μ : Mem}   {z : Int32 × Mem} (h : s_stepsThatCanBe  μ = some z) : Fr (T_s_stepsThatCanBe) μ z.2 := by
  unfold s_stepsThatCanBe at h
  exact f_s_stepsThatCanBe_L4 h (Fr.rf (T_s_stepsThatCanBe) μ) sbn  
def T_s_count : List At := []
theorem f_s_count {μ : Mem} {x1 : Int32}  {z : Int32 × Mem} (h : s_count x1 μ = some z) : Fr (T_s_count) μ z.2 := by
  unfold s_count at h
  exact (fi h (fun h2 => (have h4 := fgv h2; fr_ret h4 (Fr.rf (T_s_count) μ))) (fun h_ => (fi h_ (fun h5 => (have h7 := fgv h5; fr_ret h7 (Fr.rf (T_s_count) μ))) (fun h_ => (fi h_ (fun h8 => (have h10 := fgv h8; fr_ret h10 (Fr.rf (T_s_count) μ))) (fun h_ => (fi h_ (fun h11 => fr_ret h11 (Fr.rf (T_s_count) μ)) (fun h_ => (fi h_ (fun h12 => fr_ret h12 (Fr.rf (T_s_count) μ)) (fun h_ => (fi h_ (fun h13 => fr_ret h13 (Fr.rf (T_s_count) μ)) (fun h_ => (fi h_ (fun h14 => fi h14 (fun h16 => fr_ret h16 (Fr.rf (T_s_count) μ)) (fun h17 => fr_ret h17 (Fr.rf (T_s_count) μ))) (fun h_ => (fi h_ (fun h18 => fo h18 (fun r22 μ19 e24 h21 => have fr23 : Fr (T_s_count) μ μ19 := Fr.tr (Fr.mono (f_s_flowOfAll  e24) sbn) (Fr.rf (T_s_count) μ); fr_ret h21 fr23)) (fun h_ => (fi h_ (fun h25 => fr_ret h25 (Fr.rf (T_s_count) μ)) (fun h_ => (fi h_ (fun h26 => fr_ret h26 (Fr.rf (T_s_count) μ)) (fun h_ => (fi h_ (fun h27 => fr_ret h27 (Fr.rf (T_s_count) μ)) (fun h_ => (fi h_ (fun h28 => fo h28 (fun r32 μ29 e34 h31 => have fr33 : Fr (T_s_count) μ μ29 := Fr.tr (Fr.mono (f_s_slotsThatHold  e34) sbn) (Fr.rf (T_s_count) μ); fr_ret h31 fr33)) (fun h_ => (fi h_ (fun h35 => fo h35 (fun r39 μ36 e41 h38 => have fr40 : Fr (T_s_count) μ μ36 := Fr.tr (Fr.mono (f_wo_grownOfAll  e41) sbn) (Fr.rf (T_s_count) μ); fr_ret h38 fr40)) (fun h_ => (fi h_ (fun h42 => fo h42 (fun r46 μ43 e48 h45 => have fr47 : Fr (T_s_count) μ μ43 := Fr.tr (Fr.mono (f_s_stepsThatCanBe  e48) sbn) (Fr.rf (T_s_count) μ); fr_ret h45 fr47)) (fun h49 => fr_ret h49 (Fr.rf (T_s_count) μ)))))))))))))))))))))))))))))

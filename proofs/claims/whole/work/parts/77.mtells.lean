/-! the reference reads: what a text tells but laws -/
def szr (r : Nat) : Nat := [1, 1, 6, 6, 6, 1, 12, 12, 12, 1, 1, 4, 4, 130, 130, 130, 130, 130, 420, 420].getD (r - 65) 0
/-- the other side of the plan stays -/
def Sd (d : Nat) (μ μ' : Mem) : Prop := ∀ r j, 65 ≤ r → r ≤ 84 → ¬ (szr r * d ≤ j ∧ j < szr r * d + szr r) → mI μ' r 0 j = mI μ r 0 j
theorem Sd.rf (d : Nat) (μ : Mem) : Sd d μ μ := fun _ _ _ _ _ => rfl
theorem Sd.tr {d : Nat} {a b c : Mem} (g : Sd d b c) (h : Sd d a b) : Sd d a c := fun r j h1 h2 h3 => (g r j h1 h2 h3).trans (h r j h1 h2 h3)
theorem Sd.st {d : Nat} {a b : Mem} {r j : Nat} {v : Int32} (h : Sd d a b) (hj : szr r * d ≤ j ∧ j < szr r * d + szr r) : Sd d a (stI b r 0 j v) := fun r' j' h1 h2 h3 => by
  rw [mI_stI, if_neg (fun z => h3 (by rw [z.1, z.2.2]; exact hj))]
  exact h r' j' h1 h2 h3
theorem Sd.fr {d : Nat} {a b c : Mem} {T : List At} (h : Sd d a b) (g : Fr T b c) (o : offR [65, 66, 67, 68, 69, 70, 71, 72, 73, 74, 75, 76, 77, 78, 79, 80, 81, 82, 83, 84] T = true) : Sd d a c := fun r j h1 h2 h3 => by
  refine (g.I (offR_f o ?_ _ _)).trans (h r j h1 h2 h3)
  simp
  omega
def PkM (d : Nat) (μ : Mem) (C : Nat × Nat × Nat) (A : Nat → Nat → Int32) : Prop := d < 2 ∧ mI μ 55 0 19 = nI d ∧ mI μ 65 0 d = nI C.1 ∧ mI μ 66 0 d = nI C.2.1 ∧ mI μ 70 0 d = nI C.2.2 ∧ mI μ 75 0 d = A 0 0 ∧ mI μ 74 0 d = A 0 1 ∧ (∀ f, f < C.2.1 → mI μ 67 0 (6 * d + f) = A 1 f ∧ mI μ 68 0 (6 * d + f) = A 5 f ∧ mI μ 69 0 (6 * d + f) = A 6 f) ∧ ∀ n, n < C.2.2 → mI μ 71 0 (12 * d + n) = A 2 n ∧ mI μ 72 0 (12 * d + n) = A 3 n ∧ mI μ 73 0 (12 * d + n) = A 4 n
def PnM (d : Nat) (μ : Mem) (s : Sg) : Prop := PkM d μ (yC s) (yA s) ∧ NmM μ (yN s)
theorem PkM.fr {d : Nat} {μ μ' : Mem} {C : Nat × Nat × Nat} {A : Nat → Nat → Int32} {T : List At} (h : PkM d μ C A) (g : Fr T μ μ') (o : offR [65, 66, 67, 68, 69, 70, 71, 72, 73, 74, 75] T = true) (k : inT T 55 0 19 = false) : PkM d μ' C A := by
  obtain ⟨a1, a2, a3, a4, a5, a6, a7, a8, a9⟩ := h
  exact ⟨a1, (g.I k).trans a2, (g.I (offR_f o rfl _ _)).trans a3, (g.I (offR_f o rfl _ _)).trans a4, (g.I (offR_f o rfl _ _)).trans a5, (g.I (offR_f o rfl _ _)).trans a6, (g.I (offR_f o rfl _ _)).trans a7, fun f hf => ⟨(g.I (offR_f o rfl _ _)).trans (a8 f hf).1, (g.I (offR_f o rfl _ _)).trans (a8 f hf).2.1, (g.I (offR_f o rfl _ _)).trans (a8 f hf).2.2⟩, fun n hn => ⟨(g.I (offR_f o rfl _ _)).trans (a9 n hn).1, (g.I (offR_f o rfl _ _)).trans (a9 n hn).2.1, (g.I (offR_f o rfl _ _)).trans (a9 n hn).2.2⟩⟩
/-- a store elsewhere -/
theorem PkM.st {d : Nat} {μ : Mem} {C : Nat × Nat × Nat} {A : Nat → Nat → Int32} (h : PkM d μ C A) {r k : Nat} {v : Int32} (e1 : r = 55 → k ≠ 19) (e2 : r = 65 ∨ r = 66 ∨ r = 70 ∨ r = 75 ∨ r = 74 → k ≠ d) (e3 : r = 67 ∨ r = 68 ∨ r = 69 → 6 * d + C.2.1 ≤ k) (e4 : r = 71 ∨ r = 72 ∨ r = 73 → 12 * d + C.2.2 ≤ k) : PkM d (stI μ r 0 k v) C A := by
  obtain ⟨a1, a2, a3, a4, a5, a6, a7, a8, a9⟩ := h
  refine ⟨a1, ?_, ?_, ?_, ?_, ?_, ?_, fun f hf => ⟨?_, ?_, ?_⟩, fun n hn => ⟨?_, ?_, ?_⟩⟩
  · rw [mI_stI, if_neg (by omega)]; exact a2
  · rw [mI_stI, if_neg (by omega)]; exact a3
  · rw [mI_stI, if_neg (by omega)]; exact a4
  · rw [mI_stI, if_neg (by omega)]; exact a5
  · rw [mI_stI, if_neg (by omega)]; exact a6
  · rw [mI_stI, if_neg (by omega)]; exact a7
  · rw [mI_stI, if_neg (by omega)]; exact (a8 f hf).1
  · rw [mI_stI, if_neg (by omega)]; exact (a8 f hf).2.1
  · rw [mI_stI, if_neg (by omega)]; exact (a8 f hf).2.2
  · rw [mI_stI, if_neg (by omega)]; exact (a9 n hn).1
  · rw [mI_stI, if_neg (by omega)]; exact (a9 n hn).2.1
  · rw [mI_stI, if_neg (by omega)]; exact (a9 n hn).2.2
theorem PkM.log {d : Nat} {μ : Mem} {C : Nat × Nat × Nat} {A : Nat → Nat → Int32} (h : PkM d μ C A) : PkM d (stI μ 65 0 d (nI (C.1 + 1))) (C.1 + 1, C.2) A := by
  obtain ⟨a1, a2, a3, a4, a5, a6, a7, a8, a9⟩ := h
  refine ⟨a1, ?_, by rw [mI_stI, if_pos ⟨rfl, rfl, rfl⟩], ?_, ?_, ?_, ?_, fun f hf => ⟨?_, ?_, ?_⟩, fun n hn => ⟨?_, ?_, ?_⟩⟩
  · rw [mI_stI, if_neg (by omega)]; exact a2
  · rw [mI_stI, if_neg (by omega)]; exact a4
  · rw [mI_stI, if_neg (by omega)]; exact a5
  · rw [mI_stI, if_neg (by omega)]; exact a6
  · rw [mI_stI, if_neg (by omega)]; exact a7
  · rw [mI_stI, if_neg (by omega)]; exact (a8 f hf).1
  · rw [mI_stI, if_neg (by omega)]; exact (a8 f hf).2.1
  · rw [mI_stI, if_neg (by omega)]; exact (a8 f hf).2.2
  · rw [mI_stI, if_neg (by omega)]; exact (a9 n hn).1
  · rw [mI_stI, if_neg (by omega)]; exact (a9 n hn).2.1
  · rw [mI_stI, if_neg (by omega)]; exact (a9 n hn).2.2
theorem PkM.fld {d : Nat} {μ : Mem} {C : Nat × Nat × Nat} {A : Nat → Nat → Int32} {x y z : Int32} (h : PkM d μ C A) (h1 : mI μ 67 0 (6 * d + C.2.1) = x) (h2 : mI μ 68 0 (6 * d + C.2.1) = y) (h3 : mI μ 69 0 (6 * d + C.2.1) = z) : PkM d (stI μ 66 0 d (nI (C.2.1 + 1))) (C.1, C.2.1 + 1, C.2.2) (up2 (up2 (up2 A 1 C.2.1 x) 5 C.2.1 y) 6 C.2.1 z) := by
  obtain ⟨a1, a2, a3, a4, a5, a6, a7, a8, a9⟩ := h
  refine ⟨a1, ?_, ?_, by rw [mI_stI, if_pos ⟨rfl, rfl, rfl⟩], ?_, ?_, ?_, fun f hf => ⟨?_, ?_, ?_⟩, fun n hn => ⟨?_, ?_, ?_⟩⟩
  · rw [mI_stI, if_neg (by omega)]; exact a2
  · rw [mI_stI, if_neg (by omega)]; exact a3
  · rw [mI_stI, if_neg (by omega)]; exact a5
  · rw [mI_stI, if_neg (by omega), up2_e, if_neg (by omega), up2_e, if_neg (by omega), up2_e, if_neg (by omega)]; exact a6
  · rw [mI_stI, if_neg (by omega), up2_e, if_neg (by omega), up2_e, if_neg (by omega), up2_e, if_neg (by omega)]; exact a7
  · have hf' : f < C.2.1 + 1 := hf
    rw [mI_stI, if_neg (by omega), up2_e, if_neg (by omega), up2_e, if_neg (by omega), up2_e]
    by_cases c : f = C.2.1
    · rw [if_pos ⟨rfl, c⟩, c]; exact h1
    · rw [if_neg (by omega)]; exact (a8 f (by omega)).1
  · have hf' : f < C.2.1 + 1 := hf
    rw [mI_stI, if_neg (by omega), up2_e, if_neg (by omega), up2_e]
    by_cases c : f = C.2.1
    · rw [if_pos ⟨rfl, c⟩, c]; exact h2
    · rw [if_neg (by omega), up2_e, if_neg (by omega)]; exact (a8 f (by omega)).2.1
  · have hf' : f < C.2.1 + 1 := hf
    rw [mI_stI, if_neg (by omega), up2_e]
    by_cases c : f = C.2.1
    · rw [if_pos ⟨rfl, c⟩, c]; exact h3
    · rw [if_neg (by omega), up2_e, if_neg (by omega), up2_e, if_neg (by omega)]; exact (a8 f (by omega)).2.2
  · rw [mI_stI, if_neg (by omega), up2_e, if_neg (by omega), up2_e, if_neg (by omega), up2_e, if_neg (by omega)]; exact (a9 n hn).1
  · rw [mI_stI, if_neg (by omega), up2_e, if_neg (by omega), up2_e, if_neg (by omega), up2_e, if_neg (by omega)]; exact (a9 n hn).2.1
  · rw [mI_stI, if_neg (by omega), up2_e, if_neg (by omega), up2_e, if_neg (by omega), up2_e, if_neg (by omega)]; exact (a9 n hn).2.2
theorem PkM.no {d : Nat} {μ : Mem} {C : Nat × Nat × Nat} {A : Nat → Nat → Int32} {x y z : Int32} (h : PkM d μ C A) (h1 : mI μ 71 0 (12 * d + C.2.2) = x) (h2 : mI μ 72 0 (12 * d + C.2.2) = y) (h3 : mI μ 73 0 (12 * d + C.2.2) = z) : PkM d (stI μ 70 0 d (nI (C.2.2 + 1))) (C.1, C.2.1, C.2.2 + 1) (up2 (up2 (up2 A 2 C.2.2 x) 3 C.2.2 y) 4 C.2.2 z) := by
  obtain ⟨a1, a2, a3, a4, a5, a6, a7, a8, a9⟩ := h
  refine ⟨a1, ?_, ?_, ?_, by rw [mI_stI, if_pos ⟨rfl, rfl, rfl⟩], ?_, ?_, fun f hf => ⟨?_, ?_, ?_⟩, fun n hn => ⟨?_, ?_, ?_⟩⟩
  · rw [mI_stI, if_neg (by omega)]; exact a2
  · rw [mI_stI, if_neg (by omega)]; exact a3
  · rw [mI_stI, if_neg (by omega)]; exact a4
  · rw [mI_stI, if_neg (by omega), up2_e, if_neg (by omega), up2_e, if_neg (by omega), up2_e, if_neg (by omega)]; exact a6
  · rw [mI_stI, if_neg (by omega), up2_e, if_neg (by omega), up2_e, if_neg (by omega), up2_e, if_neg (by omega)]; exact a7
  · rw [mI_stI, if_neg (by omega), up2_e, if_neg (by omega), up2_e, if_neg (by omega), up2_e, if_neg (by omega)]; exact (a8 f hf).1
  · rw [mI_stI, if_neg (by omega), up2_e, if_neg (by omega), up2_e, if_neg (by omega), up2_e, if_neg (by omega)]; exact (a8 f hf).2.1
  · rw [mI_stI, if_neg (by omega), up2_e, if_neg (by omega), up2_e, if_neg (by omega), up2_e, if_neg (by omega)]; exact (a8 f hf).2.2
  · have hn' : n < C.2.2 + 1 := hn
    rw [mI_stI, if_neg (by omega), up2_e, if_neg (by omega), up2_e, if_neg (by omega), up2_e]
    by_cases c : n = C.2.2
    · rw [if_pos ⟨rfl, c⟩, c]; exact h1
    · rw [if_neg (by omega)]; exact (a9 n (by omega)).1
  · have hn' : n < C.2.2 + 1 := hn
    rw [mI_stI, if_neg (by omega), up2_e, if_neg (by omega), up2_e]
    by_cases c : n = C.2.2
    · rw [if_pos ⟨rfl, c⟩, c]; exact h2
    · rw [if_neg (by omega), up2_e, if_neg (by omega)]; exact (a9 n (by omega)).2.1
  · have hn' : n < C.2.2 + 1 := hn
    rw [mI_stI, if_neg (by omega), up2_e]
    by_cases c : n = C.2.2
    · rw [if_pos ⟨rfl, c⟩, c]; exact h3
    · rw [if_neg (by omega), up2_e, if_neg (by omega), up2_e, if_neg (by omega)]; exact (a9 n (by omega)).2.2
theorem PkM.dr {d : Nat} {μ : Mem} {C : Nat × Nat × Nat} {A : Nat → Nat → Int32} (h : PkM d μ C A) {f : Nat} (hf : f < C.2.1) (l x : Int32) : PkM d (stI (stI μ 68 0 (6 * d + f) l) 69 0 (6 * d + f) x) C (up2 (up2 A 5 f l) 6 f x) := by
  obtain ⟨a1, a2, a3, a4, a5, a6, a7, a8, a9⟩ := h
  refine ⟨a1, ?_, ?_, ?_, ?_, ?_, ?_, fun j hj => ⟨?_, ?_, ?_⟩, fun n hn => ⟨?_, ?_, ?_⟩⟩
  · rw [mI_stI, if_neg (by omega), mI_stI, if_neg (by omega)]; exact a2
  · rw [mI_stI, if_neg (by omega), mI_stI, if_neg (by omega)]; exact a3
  · rw [mI_stI, if_neg (by omega), mI_stI, if_neg (by omega)]; exact a4
  · rw [mI_stI, if_neg (by omega), mI_stI, if_neg (by omega)]; exact a5
  · rw [mI_stI, if_neg (by omega), mI_stI, if_neg (by omega), up2_e, if_neg (by omega), up2_e, if_neg (by omega)]; exact a6
  · rw [mI_stI, if_neg (by omega), mI_stI, if_neg (by omega), up2_e, if_neg (by omega), up2_e, if_neg (by omega)]; exact a7
  · rw [mI_stI, if_neg (by omega), mI_stI, if_neg (by omega), up2_e, if_neg (by omega), up2_e, if_neg (by omega)]; exact (a8 j hj).1
  · rw [mI_stI, if_neg (by omega), up2_e, if_neg (by omega), up2_e, mI_stI]
    by_cases c : j = f
    · rw [if_pos (by omega), if_pos ⟨rfl, c⟩]
    · rw [if_neg (by omega), if_neg (by omega)]; exact (a8 j hj).2.1
  · rw [mI_stI, up2_e]
    by_cases c : j = f
    · rw [if_pos (by omega), if_pos ⟨rfl, c⟩]
    · rw [if_neg (by omega), if_neg (by omega), mI_stI, if_neg (by omega), up2_e, if_neg (by omega)]; exact (a8 j hj).2.2
  · rw [mI_stI, if_neg (by omega), mI_stI, if_neg (by omega), up2_e, if_neg (by omega), up2_e, if_neg (by omega)]; exact (a9 n hn).1
  · rw [mI_stI, if_neg (by omega), mI_stI, if_neg (by omega), up2_e, if_neg (by omega), up2_e, if_neg (by omega)]; exact (a9 n hn).2.1
  · rw [mI_stI, if_neg (by omega), mI_stI, if_neg (by omega), up2_e, if_neg (by omega), up2_e, if_neg (by omega)]; exact (a9 n hn).2.2
theorem PkM.at {d : Nat} {μ : Mem} {C : Nat × Nat × Nat} {A : Nat → Nat → Int32} (h : PkM d μ C A) {r k : Nat} (hr : (r = 75 ∧ k = 0) ∨ (r = 74 ∧ k = 1)) (x : Int32) : PkM d (stI μ r 0 d x) C (up2 A 0 k x) := by
  obtain ⟨a1, a2, a3, a4, a5, a6, a7, a8, a9⟩ := h
  refine ⟨a1, ?_, ?_, ?_, ?_, ?_, ?_, fun j hj => ⟨?_, ?_, ?_⟩, fun n hn => ⟨?_, ?_, ?_⟩⟩
  · rw [mI_stI, if_neg (by omega)]; exact a2
  · rw [mI_stI, if_neg (by omega)]; exact a3
  · rw [mI_stI, if_neg (by omega)]; exact a4
  · rw [mI_stI, if_neg (by omega)]; exact a5
  · rw [mI_stI, up2_e]
    rcases hr with hr | hr
    · rw [if_pos (by omega), if_pos (by omega)]
    · rw [if_neg (by omega), if_neg (by omega)]; exact a6
  · rw [mI_stI, up2_e]
    rcases hr with hr | hr
    · rw [if_neg (by omega), if_neg (by omega)]; exact a7
    · rw [if_pos (by omega), if_pos (by omega)]
  · rw [mI_stI, if_neg (by omega), up2_e, if_neg (by omega)]; exact (a8 j hj).1
  · rw [mI_stI, if_neg (by omega), up2_e, if_neg (by omega)]; exact (a8 j hj).2.1
  · rw [mI_stI, if_neg (by omega), up2_e, if_neg (by omega)]; exact (a8 j hj).2.2
  · rw [mI_stI, if_neg (by omega), up2_e, if_neg (by omega)]; exact (a9 n hn).1
  · rw [mI_stI, if_neg (by omega), up2_e, if_neg (by omega)]; exact (a9 n hn).2.1
  · rw [mI_stI, if_neg (by omega), up2_e, if_neg (by omega)]; exact (a9 n hn).2.2
def TP : List At := [(55, none, some 11), (55, none, some 13), (55, none, some 14), (55, none, some 15), (55, none, some 16), (55, none, some 20), (63, none, none), (64, none, none), (65, none, none), (66, none, none), (67, none, none), (68, none, none), (69, none, none), (70, none, none), (71, none, none), (72, none, none), (73, none, none), (74, none, none), (75, none, none)]
theorem TE_TP : Sb TE TP := sbc (sa_m 0 rfl) (sbc (sa_m 1 rfl) (sbc (sa_m 2 rfl) (sbc (sa_m 3 rfl) (sbc (sa_m 4 rfl) (sbc (sa_m 5 rfl) (sbc (sa_m 6 rfl) (sbc (sa_m 7 rfl) sbn)))))))
theorem TM_TP : Sb TM TP := sbt TM_TE TE_TP
/-- a tell's end -/
def RQ (Z : Tks) (d : Nat) (μ0 : Mem) (e : Rs) (μ : Mem) : Prop := RM Z e μ ∧ Sd d μ0 μ ∧ Fr TP μ0 μ ∧ ∀ s, e = .ok s → PnM d μ s
theorem RM.ok0 {Z : Tks} {e : Rs} {μ : Mem} (h : RM Z e μ) (c : mI μ 55 0 13 = nI 0) : ∃ s, e = .ok s ∧ CuM Z μ s ∧ SgI Z s := by
  rcases h.k with h | ⟨φ, -, h⟩
  · exact h
  · exact absurd c h.nz
theorem RM.er0 {Z : Tks} {e : Rs} {μ : Mem} (h : RM Z e μ) (c : ¬ mI μ 55 0 13 = nI 0) : ∃ φ, e = .error φ ∧ ErM φ μ := by
  rcases h.k with ⟨s, -, h, -⟩ | h
  · exact absurd h.2.2.1 c
  · exact h
theorem CuM.adv {Z : Tks} {μ : Mem} {s s' : Sg} (h : CuM Z μ s) (e1 : yT s' = yT s) (e2 : yL s' = yL s) : CuM Z μ s' := by
  obtain ⟨a, b, c, d, e⟩ := h
  unfold CuM
  rw [e1, e2]
  exact ⟨a, b, c, d, e⟩
theorem m_tellLog_e {Z : Tks} {d : Nat} {μ : Mem} {s : Sg} (hz : ZOK Z) (h : CuM Z μ s) (hs : SgI Z s) (p : PnM d μ s) (k0 : tkd Z (yT s) ≠ 43) : ∃ μ', (if inB (mI μ 55 0 19) 2 = true then
ob (m_roomFor (mI μ 65 0 (cl (mI μ 55 0 19))) (nI 4) μ) fun _ μ7 =>
if (mI μ7 55 0 13) ≤ (nI 0) then
ob (m_named μ7) fun r18 μ15 =>
if inB (mI μ15 55 0 19) 2 = true then
ob (m_endsName r18 (mI μ15 65 0 (cl (mI μ15 55 0 19))) μ15) fun _ μ22 =>
if (mI μ22 55 0 13) = (nI 0) then
if inB (mI μ22 55 0 19) 2 = true then
mb (stI μ22 65 0 (cl (mI μ22 55 0 19)) ((mI μ22 65 0 (cl (mI μ22 55 0 19))) + (nI 1))) fun μ32 =>
some ((), μ32) else none else
some ((), μ22) else none else
some ((), μ7) else none) = some ((), μ') ∧ RQ Z d μ (gLog Z s) μ' := by
  obtain ⟨pk, nm⟩ := p
  have d2 := pk.1
  have s0 := hs.1
  have s1 := hs.2.1
  obtain ⟨μ1, e1, r1, g1⟩ := m_roomFor_e h hs k0 (n := (yC s).1) (m := 4) (by omega) (by omega)
  rw [pk.2.1, if_pos (inB_nI d2 (by omega)), cl_nI (by omega), pk.2.2.1, ob_eq e1]
  unfold gLog
  by_cases c : (yC s).1 = 4
  · rw [if_pos c] at r1
    rw [if_pos c]
    have r1' : ErM (2, nI (tpl Z (yT s))) μ1 := r1
    rw [if_neg r1'.nle]
    exact ⟨μ1, rfl, r1, (Sd.rf _ _).fr g1 rfl, g1.mono TM_TP, fun s' e => by cases e⟩
  · rw [if_neg c] at r1
    rw [if_neg c]
    rcases r1.k with ⟨r, er, c1, hs1⟩ | ⟨φ, er, c1⟩
    · obtain ⟨rfl, k1⟩ := gPass_ok er
      have pk1 := pk.fr g1 rfl rfl
      have nm1 := nm.fr g1 rfl rfl
      rw [er]
      show ∃ μ', _ ∧ RQ Z d μ (bG (gNew Z (wyT s (yT s + 1))) _) μ'
      obtain ⟨t, μ2, e2, r2, g2, v2⟩ := m_named_e hz (e := .ok (wyT s (yT s + 1))) ⟨c1, hs1⟩ (fun s' e => by cases e; exact nm1)
      have pk2 := pk1.fr g2 rfl rfl
      have nm2 := nm1.fr g2 rfl rfl
      have nl := hs.nm.1
      have r2' : RM Z (gNew Z (wyT s (yT s + 1))) μ2 := r2
      obtain ⟨μ3, e3, r3, g3, v3⟩ := m_endsName_e (v := tvl Z (yT s + 1)) (a := (yC s).1) hz r2' nm2 (by omega) (by omega) (r := t) (fun q eq => by
        obtain ⟨q1, q2, q3, q4, q5, q6, q7, q8, -⟩ := gNew_I hs1 eq
        have := hs1.2.2.2.2.2.2.2.2
        exact ⟨yT s + 1, v2 _ q rfl eq, hs1.2.2.2.2.2.2.2.1, this, q7, rfl⟩)
      have pk3 := pk2.fr g3 rfl rfl
      rw [c1.2.2.1, if_pos (Int32.le_refl _), ob_eq e2, pk2.2.1, if_pos (inB_nI d2 (by omega)), cl_nI (by omega), pk2.2.2.1, ob_eq e3]
      have S3 : Sd d μ μ3 := (((Sd.rf _ _).fr g1 rfl).fr g2 rfl).fr g3 rfl
      have G3 : Fr TP μ μ3 := Fr.tr (g3.mono TE_TP) (Fr.tr (g2.mono TM_TP) (g1.mono TM_TP))
      by_cases c3 : mI μ3 55 0 13 = nI 0
      · obtain ⟨n, en, cn, hn⟩ := r3.ok0 c3
        obtain ⟨q, eq, et⟩ := bG_ok en
        obtain ⟨q1, q2, q3, q4, q5, q6, q7, q8, -⟩ := gNew_I hs1 eq
        obtain ⟨rfl, k3, k4⟩ := gTake_ok et
        rw [if_pos c3, pk3.2.1, if_pos (inB_nI d2 (by omega)), cl_nI (by omega), pk3.2.2.1, mb_e, nI_add]
        have ge : bG (gNew Z (wyT s (yT s + 1))) (fun q => bG (gTake Z 30 q) fun p => .ok (adLog (tvl Z (yT (wyT s (yT s + 1)))) p)) = .ok (adLog (tvl Z (yT s + 1)) (wyT q (yT q + 1))) := by
          rw [eq]
          show bG (gTake Z 30 q) _ = _
          rw [et]
          rfl
        have g4 : Fr [(65, none, none)] μ3 (stI μ3 65 0 d (nI ((yC s).1 + 1))) := Fr.stI (Fr.rf _ _) (iT 0 rfl inA_nn)
        refine ⟨_, rfl, ?_, S3.st ?_, Fr.stI G3 (iT 8 rfl inA_nn), fun s' e => ?_⟩
        · rw [ge]
          refine ⟨(cn.fr g4 rfl rfl rfl rfl rfl).adv rfl rfl, hn.adL ?_ ?_⟩
          · show (yC q).1 ≠ 4
            rw [q4]; exact c
          · exact hz.2.2.2.2.1 _ q7
        · show 1 * d ≤ d ∧ d < 1 * d + 1
          omega
        · rw [ge] at e
          cases e
          have e1 : yC (adLog (tvl Z (yT s + 1)) (wyT q (yT q + 1))) = ((yC s).1 + 1, (yC s).2) := by
            show ((yC q).1 + 1, (yC q).2) = _
            rw [q4]; rfl
          have e2 : yA (adLog (tvl Z (yT s + 1)) (wyT q (yT q + 1))) = yA s := q5
          have e3 : yN (adLog (tvl Z (yT s + 1)) (wyT q (yT q + 1))) = yN s ++ [(tvl Z (yT s + 1), (yC s).1)] := by
            show yN q ++ [(_, (yC q).1)] = _
            rw [q3, q4]; rfl
          unfold PnM
          rw [e1, e2, e3]
          exact ⟨pk3.log, (v3 _ en).fr g4 rfl rfl⟩
      · obtain ⟨φ, en, cn⟩ := r3.er0 c3
        rw [if_neg c3]
        have ge : bG (gNew Z (wyT s (yT s + 1))) (fun q => bG (gTake Z 30 q) fun p => .ok (adLog (tvl Z (yT (wyT s (yT s + 1)))) p)) = .error φ := by
          have : bG (bG (gNew Z (wyT s (yT s + 1))) (gTake Z 30)) (fun p => .ok (adLog (tvl Z (yT (wyT s (yT s + 1)))) p)) = .error φ := by
            rw [en]; rfl
          rw [bG_as] at this
          exact this
        rw [ge]
        exact ⟨μ3, rfl, cn, S3, G3, fun s' e => by cases e⟩
    · rw [if_neg c1.nle, er]
      exact ⟨μ1, rfl, c1, (Sd.rf _ _).fr g1 rfl, g1.mono TM_TP, fun s' e => by cases e⟩

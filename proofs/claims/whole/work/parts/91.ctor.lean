/-! the class' constructors (printed by program) -/
def okP (n r i pr pi pk : Nat) : Bool := invT[n]? == some (r, i) && parT[n]? == some (pr, pi, pk)
theorem okP_of {n r i pr pi pk : Nat} (h : okP n r i pr pi pk = true) : invT[n]? = some (r, i) ∧ parT[n]? = some (pr, pi, pk) := by
  unfold okP at h
  rw [Bool.and_eq_true, beq_iff_eq, beq_iff_eq] at h
  exact h
def okW (m b i2 a e n : Nat) : Bool := (List.range n).all fun j => okP (m + j) b (i2 + j) a e j && chs a e j == i2 + j
theorem okW_of {m b i2 a e n : Nat} (h : okW m b i2 a e n = true) : ∀ j, j < n → invT[m + j]? = some (b, i2 + j) ∧ parT[m + j]? = some (a, e, j) ∧ chs a e j = i2 + j := fun j hj => by
  have := List.all_eq_true.mp h j (List.mem_range.mpr hj)
  rw [Bool.and_eq_true, beq_iff_eq] at this
  exact ⟨(okP_of this.1).1, (okP_of this.1).2, this.2⟩
theorem multi_o (μ : Mem) (a b n : Nat) {r : Nat} (hab : a ≠ b) (hb : b ≠ 0) (h1 : r ≠ a) (h2 : r ≠ b) : mI (multiC μ a b n) r 0 = mI μ r 0 ∧ mL (multiC μ a b n) r 0 = mL μ r 0 ∧ mR (multiC μ a b n) r 0 = mR μ r 0 := by
  obtain ⟨y1, y2, y3⟩ := newN_row (newC μ a) hb r 0 n
  rw [if_neg (fun z => h2 z.1)] at y1 y2 y3
  rw [mI_newC, if_neg (fun z => h1 z.1)] at y1
  rw [mL_newC, if_neg (fun z => h1 z.1)] at y2
  rw [mR_newC, if_neg (fun z => h1 z.1)] at y3
  refine ⟨y1, y2, ?_⟩
  show mR (rowR (newN (newC μ a) b n) a (mC μ a) _) r 0 = _
  rw [mR_rowR, if_neg (fun z => h1 z.1)]
  exact y3
theorem Cnt.row0 {μ : Mem} {N a i b i2 : Nat} (h : Cnt μ N) (e : invT[N]? = some (a, i)) (e2 : invT[N + 1]? = some (b, i2)) (hab : a ≠ b) (hb : b ≠ 0) : mC μ b = i2 := by
  have := ((h.new e).2.new e2).1
  rw [mC_newC, if_neg (Ne.symm hab), if_neg hb] at this
  exact this
theorem Cnt.dueM {μ : Mem} {N a i b i2 n md : Nat} (h : Cnt μ N) (e : invT[N]? = some (a, i)) (m2 : mC μ b = i2) (h10 : 10 ≤ b) (h104 : b < 104) (hab : a ≠ b) (hrow : ∀ j, j < n → invT[N + 1 + j]? = some (b, i2 + j)) (hcap : i2 + n ≤ cap b) : dueM md μ a b n := by
  refine ⟨h10, h104, hab, by rw [m2]; exact hcap, fun j hj => ?_⟩
  rw [m2, (inv_at (hrow j hj)).2.2.2.2.2, h.1]

def bx_36 : Nat → List Ins := fun t => match t with
  | 0 => [(.aload_n 0, 0, 0, 0, 0), (.invokespecial 3, 0, 4, 0, 0), (.aload_n 0, 0, 0, 0, 0), (.bipush 12, 0, 0, 0, 0), (.newarray .int, 27, 0, 0, 0), (.putfield 9, 3, 0, 2, 0)]
  | 12 => [(.aload_n 0, 0, 0, 0, 0), (.bipush 6, 0, 0, 0, 0), (.newarray .int, 28, 0, 0, 0), (.putfield 15, 3, 1, 2, 0)]
  | 20 => [(.aload_n 0, 0, 0, 0, 0), (.bipush 6, 0, 0, 0, 0), (.newarray .int, 29, 0, 0, 0), (.putfield 18, 3, 2, 2, 0)]
  | 28 => [(.aload_n 0, 0, 0, 0, 0), (.bipush 6, 0, 0, 0, 0), (.newarray .int, 30, 0, 0, 0), (.putfield 21, 3, 3, 2, 0)]
  | 36 => [(.return_, 0, 0, 0, 0)]
  | _ => []
set_option maxRecDepth 20000 in
theorem ckx_36 : ∀ t, chkL 36 t (bx_36 t) = true := by
  intro t
  unfold bx_36
  split <;> first | decide +kernel | rfl
def cux_36 : Nat → Option (List Nat) := fun t => match t with | 12 => some [0] | 20 => some [0] | 28 => some [0] | 36 => some [] | _ => none
theorem kb_36 : ∀ i, i < 47 → okP (ord 26 i + 1) 27 (i) 26 (i) 0 = true ∧ okP (ord 26 i + 2) 28 (i) 26 (i) 1 = true ∧ okP (ord 26 i + 3) 29 (i) 26 (i) 2 = true ∧ okP (ord 26 i + 4) 30 (i) 26 (i) 3 = true := by decide +kernel
theorem kc_36 {N i : Nat} {μ : Mem} {E : List (Nat × Nat × Nat)} {Q : Option V → Mem → Prop} (hN : invT[N]? = some (26, i)) (hc : Cnt μ (N + 1)) (hr : RO 0 μ (N + 1) E) (hq : ∀ μ', Cnt μ' (N + 5) → RO 0 μ' (N + 5) E → Kp 26 i μ μ' → Q none μ') : Wp 0 0 36 0 [(0, vr 26 i)] [] μ 0 0 Q := by
  obtain ⟨-, -, -, -, hi, ho⟩ := inv_at hN
  subst ho
  have hi2 : i < 47 := hi
  obtain ⟨b0, b1, b2, b3⟩ := kb_36 i hi
  obtain ⟨e0, p0⟩ := okP_of b0
  obtain ⟨e1, p1⟩ := okP_of b1
  obtain ⟨e2, p2⟩ := okP_of b2
  obtain ⟨e3, p3⟩ := okP_of b3
  have k0 := Kp.rf 26 i μ
  have m0 := (hc.new e0).1
  have cc0 := (hc.new e0).2
  refine rn_ok ckx_36 (cut := cux_36) 1 _ _ _ _ _ _ (And.intro (by decide) (And.intro (by decide) (And.intro (by decide) (And.intro (by decide) (And.intro (by decide) (And.intro (hc.old hN (by omega)) (And.intro (Nat.le_of_ble_eq_true rfl) (And.intro (by decide) (And.intro (by decide) (And.intro (by decide) (And.intro (by decide) (And.intro (by decide) (And.intro (by decide) (And.intro (by decide) (And.intro (by decide) (And.intro (hc.due e0 (fun _ => (lv0 _ _))) (And.intro (by decide) (And.intro (by decide) (And.intro (by decide) (And.intro (by decide) (And.intro rfl (And.intro (cc0.old hN (by omega)) (And.intro rfl (And.intro (Or.inr (by decide)) (And.intro (Nat.lt_of_le_of_lt (Nat.le_of_eq m0) (cc0.old e0 (by omega))) ?_)))))))))))))))))))))))))
  show Wp 0 0 36 12 [(0, vr 26 (i))] [] (rowR (newC μ 27) 26 (i) (up (mR (newC μ 27) 26 (i)) 0 (mC μ 27))) 1 12 Q
  have c1 : Cnt (rowR (newC μ 27) 26 (i) (up (mR (newC μ 27) 26 (i)) 0 (mC μ 27))) (ord 26 i + 2) := cc0.R
  have r1 : RO 0 (rowR (newC μ 27) 26 (i) (up (mR (newC μ 27) 26 (i)) 0 (mC μ 27))) (ord 26 i + 2) E := ((hr.new hc e0 p0)).put m0
  have k1 : Kp 26 (i) μ (rowR (newC μ 27) 26 (i) (up (mR (newC μ 27) 26 (i)) 0 (mC μ 27))) := ((k0.new 27)).R _
  generalize (rowR (newC μ 27) 26 (i) (up (mR (newC μ 27) 26 (i)) 0 (mC μ 27))) = μ1 at *
  have m1 := (c1.new e1).1
  have cc1 := (c1.new e1).2
  refine rn_ok ckx_36 (cut := cux_36) 1 _ _ _ _ _ _ (And.intro (by decide) (And.intro (by decide) (And.intro (by decide) (And.intro (by decide) (And.intro (by decide) (And.intro (by decide) (And.intro (by decide) (And.intro (by decide) (And.intro (c1.due e1 (fun _ => (lv0 _ _))) (And.intro (by decide) (And.intro (by decide) (And.intro (by decide) (And.intro (by decide) (And.intro rfl (And.intro (cc1.old hN (by omega)) (And.intro rfl (And.intro (Or.inr (by decide)) (And.intro (Nat.lt_of_le_of_lt (Nat.le_of_eq m1) (cc1.old e1 (by omega))) ?_))))))))))))))))))
  show Wp 0 0 36 20 [(0, vr 26 (i))] [] (rowR (newC μ1 28) 26 (i) (up (mR (newC μ1 28) 26 (i)) 1 (mC μ1 28))) 2 18 Q
  have c2 : Cnt (rowR (newC μ1 28) 26 (i) (up (mR (newC μ1 28) 26 (i)) 1 (mC μ1 28))) (ord 26 i + 3) := cc1.R
  have r2 : RO 0 (rowR (newC μ1 28) 26 (i) (up (mR (newC μ1 28) 26 (i)) 1 (mC μ1 28))) (ord 26 i + 3) E := ((r1.new c1 e1 p1)).put m1
  have k2 : Kp 26 (i) μ (rowR (newC μ1 28) 26 (i) (up (mR (newC μ1 28) 26 (i)) 1 (mC μ1 28))) := ((k1.new 28)).R _
  generalize (rowR (newC μ1 28) 26 (i) (up (mR (newC μ1 28) 26 (i)) 1 (mC μ1 28))) = μ2 at *
  have m2 := (c2.new e2).1
  have cc2 := (c2.new e2).2
  refine rn_ok ckx_36 (cut := cux_36) 1 _ _ _ _ _ _ (And.intro (by decide) (And.intro (by decide) (And.intro (by decide) (And.intro (by decide) (And.intro (by decide) (And.intro (by decide) (And.intro (by decide) (And.intro (by decide) (And.intro (c2.due e2 (fun _ => (lv0 _ _))) (And.intro (by decide) (And.intro (by decide) (And.intro (by decide) (And.intro (by decide) (And.intro rfl (And.intro (cc2.old hN (by omega)) (And.intro rfl (And.intro (Or.inr (by decide)) (And.intro (Nat.lt_of_le_of_lt (Nat.le_of_eq m2) (cc2.old e2 (by omega))) ?_))))))))))))))))))
  show Wp 0 0 36 28 [(0, vr 26 (i))] [] (rowR (newC μ2 29) 26 (i) (up (mR (newC μ2 29) 26 (i)) 2 (mC μ2 29))) 3 24 Q
  have c3 : Cnt (rowR (newC μ2 29) 26 (i) (up (mR (newC μ2 29) 26 (i)) 2 (mC μ2 29))) (ord 26 i + 4) := cc2.R
  have r3 : RO 0 (rowR (newC μ2 29) 26 (i) (up (mR (newC μ2 29) 26 (i)) 2 (mC μ2 29))) (ord 26 i + 4) E := ((r2.new c2 e2 p2)).put m2
  have k3 : Kp 26 (i) μ (rowR (newC μ2 29) 26 (i) (up (mR (newC μ2 29) 26 (i)) 2 (mC μ2 29))) := ((k2.new 29)).R _
  generalize (rowR (newC μ2 29) 26 (i) (up (mR (newC μ2 29) 26 (i)) 2 (mC μ2 29))) = μ3 at *
  have m3 := (c3.new e3).1
  have cc3 := (c3.new e3).2
  refine rn_ok ckx_36 (cut := cux_36) 1 _ _ _ _ _ _ (And.intro (by decide) (And.intro (by decide) (And.intro (by decide) (And.intro (by decide) (And.intro (by decide) (And.intro (by decide) (And.intro (by decide) (And.intro (by decide) (And.intro (c3.due e3 (fun _ => (lv0 _ _))) (And.intro (by decide) (And.intro (by decide) (And.intro (by decide) (And.intro (by decide) (And.intro rfl (And.intro (cc3.old hN (by omega)) (And.intro rfl (And.intro (Or.inr (by decide)) (And.intro (Nat.lt_of_le_of_lt (Nat.le_of_eq m3) (cc3.old e3 (by omega))) ?_))))))))))))))))))
  show Wp 0 0 36 36 [] [] (rowR (newC μ3 30) 26 (i) (up (mR (newC μ3 30) 26 (i)) 3 (mC μ3 30))) 4 30 Q
  have c4 : Cnt (rowR (newC μ3 30) 26 (i) (up (mR (newC μ3 30) 26 (i)) 3 (mC μ3 30))) (ord 26 i + 5) := cc3.R
  have r4 : RO 0 (rowR (newC μ3 30) 26 (i) (up (mR (newC μ3 30) 26 (i)) 3 (mC μ3 30))) (ord 26 i + 5) E := ((r3.new c3 e3 p3)).put m3
  have k4 : Kp 26 (i) μ (rowR (newC μ3 30) 26 (i) (up (mR (newC μ3 30) 26 (i)) 3 (mC μ3 30))) := ((k3.new 30)).R _
  generalize (rowR (newC μ3 30) 26 (i) (up (mR (newC μ3 30) 26 (i)) 3 (mC μ3 30))) = μ4 at *
  exact rn_ok ckx_36 (cut := cux_36) 1 _ _ _ _ _ _ (And.intro (by decide) (And.intro (by decide) (And.intro rfl (And.intro rfl (And.intro (by decide) (And.intro (by decide) (hq _ c4 r4 k4)))))))
def bx_41 : Nat → List Ins := fun t => match t with
  | 0 => [(.aload_n 0, 0, 0, 0, 0), (.invokespecial 3, 0, 4, 0, 0), (.aload_n 0, 0, 0, 0, 0), (.sipush 402, 0, 0, 0, 0), (.newarray .int, 14, 0, 0, 0), (.putfield 9, 5, 0, 2, 0)]
  | 13 => [(.aload_n 0, 0, 0, 0, 0), (.sipush 402, 0, 0, 0, 0), (.newarray .int, 15, 0, 0, 0), (.putfield 15, 5, 1, 2, 0)]
  | 22 => [(.aload_n 0, 0, 0, 0, 0), (.sipush 402, 0, 0, 0, 0), (.newarray .long, 16, 0, 0, 0), (.putfield 18, 5, 2, 2, 0)]
  | 31 => [(.return_, 0, 0, 0, 0)]
  | _ => []
set_option maxRecDepth 20000 in
theorem ckx_41 : ∀ t, chkL 41 t (bx_41 t) = true := by
  intro t
  unfold bx_41
  split <;> first | decide +kernel | rfl
def cux_41 : Nat → Option (List Nat) := fun t => match t with | 13 => some [0] | 22 => some [0] | 31 => some [] | _ => none
theorem kb_41 : ∀ i, i < 1 → okP (ord 13 i + 1) 14 (0) 13 (0) 0 = true ∧ okP (ord 13 i + 2) 15 (0) 13 (0) 1 = true ∧ okP (ord 13 i + 3) 16 (0) 13 (0) 2 = true := by decide +kernel
theorem kc_41 {N i : Nat} {μ : Mem} {E : List (Nat × Nat × Nat)} {Q : Option V → Mem → Prop} (hN : invT[N]? = some (13, i)) (hc : Cnt μ (N + 1)) (hr : RO 0 μ (N + 1) E) (hq : ∀ μ', Cnt μ' (N + 4) → RO 0 μ' (N + 4) E → Kp 13 i μ μ' → Q none μ') : Wp 0 0 41 0 [(0, vr 13 i)] [] μ 0 0 Q := by
  obtain ⟨-, -, -, -, hi, ho⟩ := inv_at hN
  subst ho
  have hi0 : i = 0 := by have : i < 1 := hi; omega
  subst hi0
  obtain ⟨b0, b1, b2⟩ := kb_41 0 hi
  obtain ⟨e0, p0⟩ := okP_of b0
  obtain ⟨e1, p1⟩ := okP_of b1
  obtain ⟨e2, p2⟩ := okP_of b2
  have k0 := Kp.rf 13 0 μ
  have m0 := (hc.new e0).1
  have cc0 := (hc.new e0).2
  refine rn_ok ckx_41 (cut := cux_41) 1 _ _ _ _ _ _ (And.intro (by decide) (And.intro (by decide) (And.intro (by decide) (And.intro (by decide) (And.intro (by decide) (And.intro (hc.old hN (by omega)) (And.intro (Nat.le_of_ble_eq_true rfl) (And.intro (by decide) (And.intro (by decide) (And.intro (by decide) (And.intro (by decide) (And.intro (by decide) (And.intro (by decide) (And.intro (by decide) (And.intro (by decide) (And.intro (hc.due e0 (fun _ => (lv0 _ _))) (And.intro (by decide) (And.intro (by decide) (And.intro (by decide) (And.intro (by decide) (And.intro rfl (And.intro (cc0.old hN (by omega)) (And.intro rfl (And.intro (Or.inr (by decide)) (And.intro (Nat.lt_of_le_of_lt (Nat.le_of_eq m0) (cc0.old e0 (by omega))) ?_)))))))))))))))))))))))))
  show Wp 0 0 41 13 [(0, vr 13 0)] [] (rowR (newC μ 14) 13 0 (up (mR (newC μ 14) 13 0) 0 (mC μ 14))) 1 402 Q
  have c1 : Cnt (rowR (newC μ 14) 13 0 (up (mR (newC μ 14) 13 0) 0 (mC μ 14))) (ord 13 0 + 2) := cc0.R
  have r1 : RO 0 (rowR (newC μ 14) 13 0 (up (mR (newC μ 14) 13 0) 0 (mC μ 14))) (ord 13 0 + 2) E := ((hr.new hc e0 p0)).put m0
  have k1 : Kp 13 0 μ (rowR (newC μ 14) 13 0 (up (mR (newC μ 14) 13 0) 0 (mC μ 14))) := ((k0.new 14)).R _
  generalize (rowR (newC μ 14) 13 0 (up (mR (newC μ 14) 13 0) 0 (mC μ 14))) = μ1 at *
  have m1 := (c1.new e1).1
  have cc1 := (c1.new e1).2
  refine rn_ok ckx_41 (cut := cux_41) 1 _ _ _ _ _ _ (And.intro (by decide) (And.intro (by decide) (And.intro (by decide) (And.intro (by decide) (And.intro (by decide) (And.intro (by decide) (And.intro (by decide) (And.intro (by decide) (And.intro (c1.due e1 (fun _ => (lv0 _ _))) (And.intro (by decide) (And.intro (by decide) (And.intro (by decide) (And.intro (by decide) (And.intro rfl (And.intro (cc1.old hN (by omega)) (And.intro rfl (And.intro (Or.inr (by decide)) (And.intro (Nat.lt_of_le_of_lt (Nat.le_of_eq m1) (cc1.old e1 (by omega))) ?_))))))))))))))))))
  show Wp 0 0 41 22 [(0, vr 13 0)] [] (rowR (newC μ1 15) 13 0 (up (mR (newC μ1 15) 13 0) 1 (mC μ1 15))) 2 804 Q
  have c2 : Cnt (rowR (newC μ1 15) 13 0 (up (mR (newC μ1 15) 13 0) 1 (mC μ1 15))) (ord 13 0 + 3) := cc1.R
  have r2 : RO 0 (rowR (newC μ1 15) 13 0 (up (mR (newC μ1 15) 13 0) 1 (mC μ1 15))) (ord 13 0 + 3) E := ((r1.new c1 e1 p1)).put m1
  have k2 : Kp 13 0 μ (rowR (newC μ1 15) 13 0 (up (mR (newC μ1 15) 13 0) 1 (mC μ1 15))) := ((k1.new 15)).R _
  generalize (rowR (newC μ1 15) 13 0 (up (mR (newC μ1 15) 13 0) 1 (mC μ1 15))) = μ2 at *
  have m2 := (c2.new e2).1
  have cc2 := (c2.new e2).2
  refine rn_ok ckx_41 (cut := cux_41) 1 _ _ _ _ _ _ (And.intro (by decide) (And.intro (by decide) (And.intro (by decide) (And.intro (by decide) (And.intro (by decide) (And.intro (by decide) (And.intro (by decide) (And.intro (by decide) (And.intro (c2.due e2 (fun _ => (lv0 _ _))) (And.intro (by decide) (And.intro (by decide) (And.intro (by decide) (And.intro (by decide) (And.intro rfl (And.intro (cc2.old hN (by omega)) (And.intro rfl (And.intro (Or.inr (by decide)) (And.intro (Nat.lt_of_le_of_lt (Nat.le_of_eq m2) (cc2.old e2 (by omega))) ?_))))))))))))))))))
  show Wp 0 0 41 31 [] [] (rowR (newC μ2 16) 13 0 (up (mR (newC μ2 16) 13 0) 2 (mC μ2 16))) 3 1206 Q
  have c3 : Cnt (rowR (newC μ2 16) 13 0 (up (mR (newC μ2 16) 13 0) 2 (mC μ2 16))) (ord 13 0 + 4) := cc2.R
  have r3 : RO 0 (rowR (newC μ2 16) 13 0 (up (mR (newC μ2 16) 13 0) 2 (mC μ2 16))) (ord 13 0 + 4) E := ((r2.new c2 e2 p2)).put m2
  have k3 : Kp 13 0 μ (rowR (newC μ2 16) 13 0 (up (mR (newC μ2 16) 13 0) 2 (mC μ2 16))) := ((k2.new 16)).R _
  generalize (rowR (newC μ2 16) 13 0 (up (mR (newC μ2 16) 13 0) 2 (mC μ2 16))) = μ3 at *
  exact rn_ok ckx_41 (cut := cux_41) 1 _ _ _ _ _ _ (And.intro (by decide) (And.intro (by decide) (And.intro rfl (And.intro rfl (And.intro (by decide) (And.intro (by decide) (hq _ c3 r3 k3)))))))
def bx_39 : Nat → List Ins := fun t => match t with
  | 0 => [(.aload_n 0, 0, 0, 0, 0), (.invokespecial 3, 0, 4, 0, 0), (.aload_n 0, 0, 0, 0, 0), (.bipush 20, 0, 0, 0, 0), (.newarray .int, 49, 0, 0, 0), (.putfield 9, 4, 0, 2, 0)]
  | 12 => [(.aload_n 0, 0, 0, 0, 0), (.bipush 20, 0, 0, 0, 0), (.newarray .int, 50, 0, 0, 0), (.putfield 15, 4, 1, 2, 0)]
  | 20 => [(.aload_n 0, 0, 0, 0, 0), (.bipush 20, 0, 0, 0, 0), (.newarray .boolean, 51, 0, 0, 0), (.putfield 18, 4, 2, 2, 0)]
  | 28 => [(.aload_n 0, 0, 0, 0, 0), (.iconst 0, 0, 0, 0, 0), (.putfield 22, 4, 3, 0, 0)]
  | 33 => [(.return_, 0, 0, 0, 0)]
  | _ => []
set_option maxRecDepth 20000 in
theorem ckx_39 : ∀ t, chkL 39 t (bx_39 t) = true := by
  intro t
  unfold bx_39
  split <;> first | decide +kernel | rfl
def cux_39 : Nat → Option (List Nat) := fun t => match t with | 12 => some [0] | 20 => some [0] | 28 => some [0] | 33 => some [] | _ => none
theorem kb_39 : ∀ i, i < 1 → okP (ord 48 i + 1) 49 (0) 48 (0) 0 = true ∧ okP (ord 48 i + 2) 50 (0) 48 (0) 1 = true ∧ okP (ord 48 i + 3) 51 (0) 48 (0) 2 = true := by decide +kernel
theorem kc_39 {N i : Nat} {μ : Mem} {E : List (Nat × Nat × Nat)} {Q : Option V → Mem → Prop} (hN : invT[N]? = some (48, i)) (hc : Cnt μ (N + 1)) (hr : RO 0 μ (N + 1) E) (hq : ∀ μ', Cnt μ' (N + 4) → RO 0 μ' (N + 4) E → Kp 48 i μ μ' → Q none μ') : Wp 0 0 39 0 [(0, vr 48 i)] [] μ 0 0 Q := by
  obtain ⟨-, -, -, -, hi, ho⟩ := inv_at hN
  subst ho
  have hi0 : i = 0 := by have : i < 1 := hi; omega
  subst hi0
  obtain ⟨b0, b1, b2⟩ := kb_39 0 hi
  obtain ⟨e0, p0⟩ := okP_of b0
  obtain ⟨e1, p1⟩ := okP_of b1
  obtain ⟨e2, p2⟩ := okP_of b2
  have k0 := Kp.rf 48 0 μ
  have m0 := (hc.new e0).1
  have cc0 := (hc.new e0).2
  refine rn_ok ckx_39 (cut := cux_39) 1 _ _ _ _ _ _ (And.intro (by decide) (And.intro (by decide) (And.intro (by decide) (And.intro (by decide) (And.intro (by decide) (And.intro (hc.old hN (by omega)) (And.intro (Nat.le_of_ble_eq_true rfl) (And.intro (by decide) (And.intro (by decide) (And.intro (by decide) (And.intro (by decide) (And.intro (by decide) (And.intro (by decide) (And.intro (by decide) (And.intro (by decide) (And.intro (hc.due e0 (fun _ => (lv0 _ _))) (And.intro (by decide) (And.intro (by decide) (And.intro (by decide) (And.intro (by decide) (And.intro rfl (And.intro (cc0.old hN (by omega)) (And.intro rfl (And.intro (Or.inr (by decide)) (And.intro (Nat.lt_of_le_of_lt (Nat.le_of_eq m0) (cc0.old e0 (by omega))) ?_)))))))))))))))))))))))))
  show Wp 0 0 39 12 [(0, vr 48 0)] [] (rowR (newC μ 49) 48 0 (up (mR (newC μ 49) 48 0) 0 (mC μ 49))) 1 20 Q
  have c1 : Cnt (rowR (newC μ 49) 48 0 (up (mR (newC μ 49) 48 0) 0 (mC μ 49))) (ord 48 0 + 2) := cc0.R
  have r1 : RO 0 (rowR (newC μ 49) 48 0 (up (mR (newC μ 49) 48 0) 0 (mC μ 49))) (ord 48 0 + 2) E := ((hr.new hc e0 p0)).put m0
  have k1 : Kp 48 0 μ (rowR (newC μ 49) 48 0 (up (mR (newC μ 49) 48 0) 0 (mC μ 49))) := ((k0.new 49)).R _
  generalize (rowR (newC μ 49) 48 0 (up (mR (newC μ 49) 48 0) 0 (mC μ 49))) = μ1 at *
  have m1 := (c1.new e1).1
  have cc1 := (c1.new e1).2
  refine rn_ok ckx_39 (cut := cux_39) 1 _ _ _ _ _ _ (And.intro (by decide) (And.intro (by decide) (And.intro (by decide) (And.intro (by decide) (And.intro (by decide) (And.intro (by decide) (And.intro (by decide) (And.intro (by decide) (And.intro (c1.due e1 (fun _ => (lv0 _ _))) (And.intro (by decide) (And.intro (by decide) (And.intro (by decide) (And.intro (by decide) (And.intro rfl (And.intro (cc1.old hN (by omega)) (And.intro rfl (And.intro (Or.inr (by decide)) (And.intro (Nat.lt_of_le_of_lt (Nat.le_of_eq m1) (cc1.old e1 (by omega))) ?_))))))))))))))))))
  show Wp 0 0 39 20 [(0, vr 48 0)] [] (rowR (newC μ1 50) 48 0 (up (mR (newC μ1 50) 48 0) 1 (mC μ1 50))) 2 40 Q
  have c2 : Cnt (rowR (newC μ1 50) 48 0 (up (mR (newC μ1 50) 48 0) 1 (mC μ1 50))) (ord 48 0 + 3) := cc1.R
  have r2 : RO 0 (rowR (newC μ1 50) 48 0 (up (mR (newC μ1 50) 48 0) 1 (mC μ1 50))) (ord 48 0 + 3) E := ((r1.new c1 e1 p1)).put m1
  have k2 : Kp 48 0 μ (rowR (newC μ1 50) 48 0 (up (mR (newC μ1 50) 48 0) 1 (mC μ1 50))) := ((k1.new 50)).R _
  generalize (rowR (newC μ1 50) 48 0 (up (mR (newC μ1 50) 48 0) 1 (mC μ1 50))) = μ2 at *
  have m2 := (c2.new e2).1
  have cc2 := (c2.new e2).2
  refine rn_ok ckx_39 (cut := cux_39) 1 _ _ _ _ _ _ (And.intro (by decide) (And.intro (by decide) (And.intro (by decide) (And.intro (by decide) (And.intro (by decide) (And.intro (by decide) (And.intro (by decide) (And.intro (by decide) (And.intro (c2.due e2 (fun _ => (lv0 _ _))) (And.intro (by decide) (And.intro (by decide) (And.intro (by decide) (And.intro (by decide) (And.intro rfl (And.intro (cc2.old hN (by omega)) (And.intro rfl (And.intro (Or.inr (by decide)) (And.intro (Nat.lt_of_le_of_lt (Nat.le_of_eq m2) (cc2.old e2 (by omega))) ?_))))))))))))))))))
  show Wp 0 0 39 28 [(0, vr 48 0)] [] (rowR (newC μ2 51) 48 0 (up (mR (newC μ2 51) 48 0) 2 (mC μ2 51))) 3 60 Q
  have c3 : Cnt (rowR (newC μ2 51) 48 0 (up (mR (newC μ2 51) 48 0) 2 (mC μ2 51))) (ord 48 0 + 4) := cc2.R
  have r3 : RO 0 (rowR (newC μ2 51) 48 0 (up (mR (newC μ2 51) 48 0) 2 (mC μ2 51))) (ord 48 0 + 4) E := ((r2.new c2 e2 p2)).put m2
  have k3 : Kp 48 0 μ (rowR (newC μ2 51) 48 0 (up (mR (newC μ2 51) 48 0) 2 (mC μ2 51))) := ((k2.new 51)).R _
  generalize (rowR (newC μ2 51) 48 0 (up (mR (newC μ2 51) 48 0) 2 (mC μ2 51))) = μ3 at *
  refine rn_ok ckx_39 (cut := cux_39) 1 _ _ _ _ _ _ (And.intro (by decide) (And.intro (by decide) (And.intro (by decide) (And.intro (by decide) (And.intro (by decide) (And.intro (by decide) (And.intro rfl (And.intro (c3.old hN (by omega)) ?_))))))))
  show Wp 0 0 39 33 [] [] (rowI μ3 48 0 (up (mI μ3 48 0) 3 (Int32.ofInt (0)))) 3 60 Q
  have c4 : Cnt (rowI μ3 48 0 (up (mI μ3 48 0) 3 (Int32.ofInt (0)))) (ord 48 0 + 4) := c3.I
  have r4 : RO 0 (rowI μ3 48 0 (up (mI μ3 48 0) 3 (Int32.ofInt (0)))) (ord 48 0 + 4) E := r3.I
  have k4 : Kp 48 0 μ (rowI μ3 48 0 (up (mI μ3 48 0) 3 (Int32.ofInt (0)))) := k3.I _
  generalize (rowI μ3 48 0 (up (mI μ3 48 0) 3 (Int32.ofInt (0)))) = μ4 at *
  exact rn_ok ckx_39 (cut := cux_39) 1 _ _ _ _ _ _ (And.intro (by decide) (And.intro (by decide) (And.intro rfl (And.intro rfl (And.intro (by decide) (And.intro (by decide) (hq _ c4 r4 k4)))))))
def bx_51 : Nat → List Ins := fun t => match t with
  | 0 => [(.aload_n 0, 0, 0, 0, 0), (.invokespecial 3, 0, 4, 0, 0), (.aload_n 0, 0, 0, 0, 0), (.iconst 4, 0, 0, 0, 0), (.newarray .long, 33, 0, 0, 0), (.putfield 9, 6, 5, 2, 0)]
  | 11 => [(.aload_n 0, 0, 0, 0, 0), (.bipush 6, 0, 0, 0, 0), (.newarray .long, 34, 0, 0, 0), (.putfield 15, 6, 6, 2, 0)]
  | 19 => [(.aload_n 0, 0, 0, 0, 0), (.bipush 6, 0, 0, 0, 0), (.newarray .int, 35, 0, 0, 0), (.putfield 18, 6, 7, 2, 0)]
  | 27 => [(.aload_n 0, 0, 0, 0, 0), (.iconst 4, 0, 0, 0, 0), (.newarray .int, 36, 0, 0, 0), (.putfield 22, 6, 8, 2, 0)]
  | 34 => [(.aload_n 0, 0, 0, 0, 0), (.iconst 4, 0, 0, 0, 0), (.newarray .int, 37, 0, 0, 0), (.putfield 25, 6, 9, 2, 0)]
  | 41 => [(.aload_n 0, 0, 0, 0, 0), (.iconst 4, 0, 0, 0, 0), (.newarray .boolean, 38, 0, 0, 0), (.putfield 28, 6, 10, 2, 0)]
  | 48 => [(.aload_n 0, 0, 0, 0, 0), (.iconst 4, 0, 0, 0, 0), (.newarray .boolean, 39, 0, 0, 0), (.putfield 32, 6, 11, 2, 0)]
  | 55 => [(.aload_n 0, 0, 0, 0, 0), (.iconst 4, 0, 0, 0, 0), (.iconst 5, 0, 0, 0, 0), (.multianewarray 35 2, 40, 41, 0, 0), (.putfield 37, 6, 12, 2, 0)]
  | 65 => [(.return_, 0, 0, 0, 0)]
  | _ => []
set_option maxRecDepth 20000 in
theorem ckx_51 : ∀ t, chkL 51 t (bx_51 t) = true := by
  intro t
  unfold bx_51
  split <;> first | decide +kernel | rfl
def cux_51 : Nat → Option (List Nat) := fun t => match t with | 11 => some [0] | 19 => some [0] | 27 => some [0] | 34 => some [0] | 41 => some [0] | 48 => some [0] | 55 => some [0] | 65 => some [] | _ => none
theorem kb_51 : ∀ i, i < 2 → okP (ord 32 i + 1) 33 (i) 32 (i) 5 = true ∧ okP (ord 32 i + 2) 34 (i) 32 (i) 6 = true ∧ okP (ord 32 i + 3) 35 (i) 32 (i) 7 = true ∧ okP (ord 32 i + 4) 36 (i) 32 (i) 8 = true ∧ okP (ord 32 i + 5) 37 (i) 32 (i) 9 = true ∧ okP (ord 32 i + 6) 38 (i) 32 (i) 10 = true ∧ okP (ord 32 i + 7) 39 (i) 32 (i) 11 = true ∧ okP (ord 32 i + 8) 40 (i) 32 (i) 12 = true ∧ (okW (ord 32 i + 9) 41 (4 * i) 40 (i) 4 = true) := by decide +kernel
theorem kc_51 {N i : Nat} {μ : Mem} {E : List (Nat × Nat × Nat)} {Q : Option V → Mem → Prop} (hN : invT[N]? = some (32, i)) (hc : Cnt μ (N + 1)) (hr : RO 0 μ (N + 1) E) (hq : ∀ μ', Cnt μ' (N + 13) → RO 0 μ' (N + 13) E → Kp 32 i μ μ' → Q none μ') : Wp 0 0 51 0 [(0, vr 32 i)] [] μ 0 0 Q := by
  obtain ⟨-, -, -, -, hi, ho⟩ := inv_at hN
  subst ho
  have hi2 : i < 2 := hi
  obtain ⟨b0, b1, b2, b3, b4, b5, b6, b7, b8⟩ := kb_51 i hi
  obtain ⟨e0, p0⟩ := okP_of b0
  obtain ⟨e1, p1⟩ := okP_of b1
  obtain ⟨e2, p2⟩ := okP_of b2
  obtain ⟨e3, p3⟩ := okP_of b3
  obtain ⟨e4, p4⟩ := okP_of b4
  obtain ⟨e5, p5⟩ := okP_of b5
  obtain ⟨e6, p6⟩ := okP_of b6
  obtain ⟨e7, p7⟩ := okP_of b7
  have f8 := okW_of b8
  have k0 := Kp.rf 32 i μ
  have m0 := (hc.new e0).1
  have cc0 := (hc.new e0).2
  refine rn_ok ckx_51 (cut := cux_51) 1 _ _ _ _ _ _ (And.intro (by decide) (And.intro (by decide) (And.intro (by decide) (And.intro (by decide) (And.intro (by decide) (And.intro (hc.old hN (by omega)) (And.intro (Nat.le_of_ble_eq_true rfl) (And.intro (by decide) (And.intro (by decide) (And.intro (by decide) (And.intro (by decide) (And.intro (by decide) (And.intro (by decide) (And.intro (by decide) (And.intro (by decide) (And.intro (hc.due e0 (fun _ => (lv0 _ _))) (And.intro (by decide) (And.intro (by decide) (And.intro (by decide) (And.intro (by decide) (And.intro rfl (And.intro (cc0.old hN (by omega)) (And.intro rfl (And.intro (Or.inr (by decide)) (And.intro (Nat.lt_of_le_of_lt (Nat.le_of_eq m0) (cc0.old e0 (by omega))) ?_)))))))))))))))))))))))))
  show Wp 0 0 51 11 [(0, vr 32 (i))] [] (rowR (newC μ 33) 32 (i) (up (mR (newC μ 33) 32 (i)) 5 (mC μ 33))) 1 4 Q
  have c1 : Cnt (rowR (newC μ 33) 32 (i) (up (mR (newC μ 33) 32 (i)) 5 (mC μ 33))) (ord 32 i + 2) := cc0.R
  have r1 : RO 0 (rowR (newC μ 33) 32 (i) (up (mR (newC μ 33) 32 (i)) 5 (mC μ 33))) (ord 32 i + 2) E := ((hr.new hc e0 p0)).put m0
  have k1 : Kp 32 (i) μ (rowR (newC μ 33) 32 (i) (up (mR (newC μ 33) 32 (i)) 5 (mC μ 33))) := ((k0.new 33)).R _
  generalize (rowR (newC μ 33) 32 (i) (up (mR (newC μ 33) 32 (i)) 5 (mC μ 33))) = μ1 at *
  have m1 := (c1.new e1).1
  have cc1 := (c1.new e1).2
  refine rn_ok ckx_51 (cut := cux_51) 1 _ _ _ _ _ _ (And.intro (by decide) (And.intro (by decide) (And.intro (by decide) (And.intro (by decide) (And.intro (by decide) (And.intro (by decide) (And.intro (by decide) (And.intro (by decide) (And.intro (c1.due e1 (fun _ => (lv0 _ _))) (And.intro (by decide) (And.intro (by decide) (And.intro (by decide) (And.intro (by decide) (And.intro rfl (And.intro (cc1.old hN (by omega)) (And.intro rfl (And.intro (Or.inr (by decide)) (And.intro (Nat.lt_of_le_of_lt (Nat.le_of_eq m1) (cc1.old e1 (by omega))) ?_))))))))))))))))))
  show Wp 0 0 51 19 [(0, vr 32 (i))] [] (rowR (newC μ1 34) 32 (i) (up (mR (newC μ1 34) 32 (i)) 6 (mC μ1 34))) 2 10 Q
  have c2 : Cnt (rowR (newC μ1 34) 32 (i) (up (mR (newC μ1 34) 32 (i)) 6 (mC μ1 34))) (ord 32 i + 3) := cc1.R
  have r2 : RO 0 (rowR (newC μ1 34) 32 (i) (up (mR (newC μ1 34) 32 (i)) 6 (mC μ1 34))) (ord 32 i + 3) E := ((r1.new c1 e1 p1)).put m1
  have k2 : Kp 32 (i) μ (rowR (newC μ1 34) 32 (i) (up (mR (newC μ1 34) 32 (i)) 6 (mC μ1 34))) := ((k1.new 34)).R _
  generalize (rowR (newC μ1 34) 32 (i) (up (mR (newC μ1 34) 32 (i)) 6 (mC μ1 34))) = μ2 at *
  have m2 := (c2.new e2).1
  have cc2 := (c2.new e2).2
  refine rn_ok ckx_51 (cut := cux_51) 1 _ _ _ _ _ _ (And.intro (by decide) (And.intro (by decide) (And.intro (by decide) (And.intro (by decide) (And.intro (by decide) (And.intro (by decide) (And.intro (by decide) (And.intro (by decide) (And.intro (c2.due e2 (fun _ => (lv0 _ _))) (And.intro (by decide) (And.intro (by decide) (And.intro (by decide) (And.intro (by decide) (And.intro rfl (And.intro (cc2.old hN (by omega)) (And.intro rfl (And.intro (Or.inr (by decide)) (And.intro (Nat.lt_of_le_of_lt (Nat.le_of_eq m2) (cc2.old e2 (by omega))) ?_))))))))))))))))))
  show Wp 0 0 51 27 [(0, vr 32 (i))] [] (rowR (newC μ2 35) 32 (i) (up (mR (newC μ2 35) 32 (i)) 7 (mC μ2 35))) 3 16 Q
  have c3 : Cnt (rowR (newC μ2 35) 32 (i) (up (mR (newC μ2 35) 32 (i)) 7 (mC μ2 35))) (ord 32 i + 4) := cc2.R
  have r3 : RO 0 (rowR (newC μ2 35) 32 (i) (up (mR (newC μ2 35) 32 (i)) 7 (mC μ2 35))) (ord 32 i + 4) E := ((r2.new c2 e2 p2)).put m2
  have k3 : Kp 32 (i) μ (rowR (newC μ2 35) 32 (i) (up (mR (newC μ2 35) 32 (i)) 7 (mC μ2 35))) := ((k2.new 35)).R _
  generalize (rowR (newC μ2 35) 32 (i) (up (mR (newC μ2 35) 32 (i)) 7 (mC μ2 35))) = μ3 at *
  have m3 := (c3.new e3).1
  have cc3 := (c3.new e3).2
  refine rn_ok ckx_51 (cut := cux_51) 1 _ _ _ _ _ _ (And.intro (by decide) (And.intro (by decide) (And.intro (by decide) (And.intro (by decide) (And.intro (by decide) (And.intro (by decide) (And.intro (by decide) (And.intro (by decide) (And.intro (c3.due e3 (fun _ => (lv0 _ _))) (And.intro (by decide) (And.intro (by decide) (And.intro (by decide) (And.intro (by decide) (And.intro rfl (And.intro (cc3.old hN (by omega)) (And.intro rfl (And.intro (Or.inr (by decide)) (And.intro (Nat.lt_of_le_of_lt (Nat.le_of_eq m3) (cc3.old e3 (by omega))) ?_))))))))))))))))))
  show Wp 0 0 51 34 [(0, vr 32 (i))] [] (rowR (newC μ3 36) 32 (i) (up (mR (newC μ3 36) 32 (i)) 8 (mC μ3 36))) 4 20 Q
  have c4 : Cnt (rowR (newC μ3 36) 32 (i) (up (mR (newC μ3 36) 32 (i)) 8 (mC μ3 36))) (ord 32 i + 5) := cc3.R
  have r4 : RO 0 (rowR (newC μ3 36) 32 (i) (up (mR (newC μ3 36) 32 (i)) 8 (mC μ3 36))) (ord 32 i + 5) E := ((r3.new c3 e3 p3)).put m3
  have k4 : Kp 32 (i) μ (rowR (newC μ3 36) 32 (i) (up (mR (newC μ3 36) 32 (i)) 8 (mC μ3 36))) := ((k3.new 36)).R _
  generalize (rowR (newC μ3 36) 32 (i) (up (mR (newC μ3 36) 32 (i)) 8 (mC μ3 36))) = μ4 at *
  have m4 := (c4.new e4).1
  have cc4 := (c4.new e4).2
  refine rn_ok ckx_51 (cut := cux_51) 1 _ _ _ _ _ _ (And.intro (by decide) (And.intro (by decide) (And.intro (by decide) (And.intro (by decide) (And.intro (by decide) (And.intro (by decide) (And.intro (by decide) (And.intro (by decide) (And.intro (c4.due e4 (fun _ => (lv0 _ _))) (And.intro (by decide) (And.intro (by decide) (And.intro (by decide) (And.intro (by decide) (And.intro rfl (And.intro (cc4.old hN (by omega)) (And.intro rfl (And.intro (Or.inr (by decide)) (And.intro (Nat.lt_of_le_of_lt (Nat.le_of_eq m4) (cc4.old e4 (by omega))) ?_))))))))))))))))))
  show Wp 0 0 51 41 [(0, vr 32 (i))] [] (rowR (newC μ4 37) 32 (i) (up (mR (newC μ4 37) 32 (i)) 9 (mC μ4 37))) 5 24 Q
  have c5 : Cnt (rowR (newC μ4 37) 32 (i) (up (mR (newC μ4 37) 32 (i)) 9 (mC μ4 37))) (ord 32 i + 6) := cc4.R
  have r5 : RO 0 (rowR (newC μ4 37) 32 (i) (up (mR (newC μ4 37) 32 (i)) 9 (mC μ4 37))) (ord 32 i + 6) E := ((r4.new c4 e4 p4)).put m4
  have k5 : Kp 32 (i) μ (rowR (newC μ4 37) 32 (i) (up (mR (newC μ4 37) 32 (i)) 9 (mC μ4 37))) := ((k4.new 37)).R _
  generalize (rowR (newC μ4 37) 32 (i) (up (mR (newC μ4 37) 32 (i)) 9 (mC μ4 37))) = μ5 at *
  have m5 := (c5.new e5).1
  have cc5 := (c5.new e5).2
  refine rn_ok ckx_51 (cut := cux_51) 1 _ _ _ _ _ _ (And.intro (by decide) (And.intro (by decide) (And.intro (by decide) (And.intro (by decide) (And.intro (by decide) (And.intro (by decide) (And.intro (by decide) (And.intro (by decide) (And.intro (c5.due e5 (fun _ => (lv0 _ _))) (And.intro (by decide) (And.intro (by decide) (And.intro (by decide) (And.intro (by decide) (And.intro rfl (And.intro (cc5.old hN (by omega)) (And.intro rfl (And.intro (Or.inr (by decide)) (And.intro (Nat.lt_of_le_of_lt (Nat.le_of_eq m5) (cc5.old e5 (by omega))) ?_))))))))))))))))))
  show Wp 0 0 51 48 [(0, vr 32 (i))] [] (rowR (newC μ5 38) 32 (i) (up (mR (newC μ5 38) 32 (i)) 10 (mC μ5 38))) 6 28 Q
  have c6 : Cnt (rowR (newC μ5 38) 32 (i) (up (mR (newC μ5 38) 32 (i)) 10 (mC μ5 38))) (ord 32 i + 7) := cc5.R
  have r6 : RO 0 (rowR (newC μ5 38) 32 (i) (up (mR (newC μ5 38) 32 (i)) 10 (mC μ5 38))) (ord 32 i + 7) E := ((r5.new c5 e5 p5)).put m5
  have k6 : Kp 32 (i) μ (rowR (newC μ5 38) 32 (i) (up (mR (newC μ5 38) 32 (i)) 10 (mC μ5 38))) := ((k5.new 38)).R _
  generalize (rowR (newC μ5 38) 32 (i) (up (mR (newC μ5 38) 32 (i)) 10 (mC μ5 38))) = μ6 at *
  have m6 := (c6.new e6).1
  have cc6 := (c6.new e6).2
  refine rn_ok ckx_51 (cut := cux_51) 1 _ _ _ _ _ _ (And.intro (by decide) (And.intro (by decide) (And.intro (by decide) (And.intro (by decide) (And.intro (by decide) (And.intro (by decide) (And.intro (by decide) (And.intro (by decide) (And.intro (c6.due e6 (fun _ => (lv0 _ _))) (And.intro (by decide) (And.intro (by decide) (And.intro (by decide) (And.intro (by decide) (And.intro rfl (And.intro (cc6.old hN (by omega)) (And.intro rfl (And.intro (Or.inr (by decide)) (And.intro (Nat.lt_of_le_of_lt (Nat.le_of_eq m6) (cc6.old e6 (by omega))) ?_))))))))))))))))))
  show Wp 0 0 51 55 [(0, vr 32 (i))] [] (rowR (newC μ6 39) 32 (i) (up (mR (newC μ6 39) 32 (i)) 11 (mC μ6 39))) 7 32 Q
  have c7 : Cnt (rowR (newC μ6 39) 32 (i) (up (mR (newC μ6 39) 32 (i)) 11 (mC μ6 39))) (ord 32 i + 8) := cc6.R
  have r7 : RO 0 (rowR (newC μ6 39) 32 (i) (up (mR (newC μ6 39) 32 (i)) 11 (mC μ6 39))) (ord 32 i + 8) E := ((r6.new c6 e6 p6)).put m6
  have k7 : Kp 32 (i) μ (rowR (newC μ6 39) 32 (i) (up (mR (newC μ6 39) 32 (i)) 11 (mC μ6 39))) := ((k6.new 39)).R _
  generalize (rowR (newC μ6 39) 32 (i) (up (mR (newC μ6 39) 32 (i)) 11 (mC μ6 39))) = μ7 at *
  have m7 := (c7.new e7).1
  have w7 : mC μ7 41 = 4 * i := c7.row0 e7 (f8 0 (by omega)).1 (by decide) (by decide)
  have x7 := r7.multi c7 e7 p7 (show 10 ≤ 41 by decide) (by decide) w7 (by decide) (n := 4) f8
  have cc7 := x7.1
  refine rn_ok ckx_51 (cut := cux_51) 1 _ _ _ _ _ _ (And.intro (by decide) (And.intro (by decide) (And.intro (by decide) (And.intro (by decide) (And.intro (by decide) (And.intro (by decide) (And.intro (by decide) (And.intro (by decide) (And.intro (by decide) (And.intro (by decide) (And.intro (by decide) (And.intro (by decide) (And.intro (c7.due e7 (fun _ => (lv0 _ _))) (And.intro (c7.dueM e7 w7 (by decide) (by decide) (by decide) (fun j hj => (f8 j hj).1) (show 4 * i + 4 ≤ 8 by omega)) (And.intro (by decide) (And.intro (by decide) (And.intro (by decide) (And.intro (by decide) (And.intro rfl (And.intro (cc7.old hN (by omega)) (And.intro rfl (And.intro (Or.inr (by decide)) (And.intro (Nat.lt_of_le_of_lt (Nat.le_of_eq m7) (cc7.old e7 (by omega))) ?_)))))))))))))))))))))))
  show Wp 0 0 51 65 [] [] (rowR (multiC μ7 40 41 4) 32 (i) (up (mR (multiC μ7 40 41 4) 32 (i)) 12 (mC μ7 40))) 12 56 Q
  have c8 : Cnt (rowR (multiC μ7 40 41 4) 32 (i) (up (mR (multiC μ7 40 41 4) 32 (i)) 12 (mC μ7 40))) (ord 32 i + 13) := cc7.R
  have r8 : RO 0 (rowR (multiC μ7 40 41 4) 32 (i) (up (mR (multiC μ7 40 41 4) 32 (i)) 12 (mC μ7 40))) (ord 32 i + 13) E := (x7.2).put m7
  have k8 : Kp 32 (i) μ (rowR (multiC μ7 40 41 4) 32 (i) (up (mR (multiC μ7 40 41 4) 32 (i)) 12 (mC μ7 40))) := ((k7.multi (a := 40) (b := 41) (n := 4) (by decide) (by decide))).R _
  generalize (rowR (multiC μ7 40 41 4) 32 (i) (up (mR (multiC μ7 40 41 4) 32 (i)) 12 (mC μ7 40))) = μ8 at *
  exact rn_ok ckx_51 (cut := cux_51) 1 _ _ _ _ _ _ (And.intro (by decide) (And.intro (by decide) (And.intro rfl (And.intro rfl (And.intro (by decide) (And.intro (by decide) (hq _ c8 r8 k8)))))))
def bx_3 : Nat → List Ins := fun t => match t with
  | 0 => [(.aload_n 0, 0, 0, 0, 0), (.invokespecial 5, 0, 4, 0, 0), (.aload_n 0, 0, 0, 0, 0), (.iconst 4, 0, 0, 0, 0), (.newarray .long, 19, 0, 0, 0), (.putfield 11, 1, 4, 2, 0)]
  | 11 => [(.aload_n 0, 0, 0, 0, 0), (.bipush 6, 0, 0, 0, 0), (.newarray .long, 20, 0, 0, 0), (.putfield 15, 1, 5, 2, 0)]
  | 19 => [(.aload_n 0, 0, 0, 0, 0), (.bipush 6, 0, 0, 0, 0), (.newarray .int, 21, 0, 0, 0), (.putfield 18, 1, 6, 2, 0)]
  | 27 => [(.aload_n 0, 0, 0, 0, 0), (.bipush 12, 0, 0, 0, 0), (.newarray .int, 22, 0, 0, 0), (.putfield 22, 1, 7, 2, 0)]
  | 35 => [(.aload_n 0, 0, 0, 0, 0), (.bipush 12, 0, 0, 0, 0), (.newarray .int, 23, 0, 0, 0), (.putfield 25, 1, 8, 2, 0)]
  | 43 => [(.aload_n 0, 0, 0, 0, 0), (.iconst 4, 0, 0, 0, 0), (.newarray .int, 24, 0, 0, 0), (.putfield 28, 1, 9, 2, 0)]
  | 50 => [(.aload_n 0, 0, 0, 0, 0), (.sipush 408, 0, 0, 0, 0), (.newarray .int, 25, 0, 0, 0), (.putfield 31, 1, 10, 2, 0)]
  | 59 => [(.aload_n 0, 0, 0, 0, 0), (.new 34, 26, 0, 0, 0), (.dup, 0, 0, 0, 0), (.invokespecial 36, 36, 3, 0, 1), (.putfield 37, 1, 12, 2, 0)]
  | 70 => [(.return_, 0, 0, 0, 0)]
  | _ => []
set_option maxRecDepth 20000 in
theorem ckx_3 : ∀ t, chkL 3 t (bx_3 t) = true := by
  intro t
  unfold bx_3
  split <;> first | decide +kernel | rfl
def cux_3 : Nat → Option (List Nat) := fun t => match t with | 11 => some [0] | 19 => some [0] | 27 => some [0] | 35 => some [0] | 43 => some [0] | 50 => some [0] | 59 => some [0] | 70 => some [] | _ => none
theorem kb_3 : ∀ i, i < 2 → okP (ord 18 i + 1) 19 (i) 18 (i) 4 = true ∧ okP (ord 18 i + 2) 20 (i) 18 (i) 5 = true ∧ okP (ord 18 i + 3) 21 (i) 18 (i) 6 = true ∧ okP (ord 18 i + 4) 22 (i) 18 (i) 7 = true ∧ okP (ord 18 i + 5) 23 (i) 18 (i) 8 = true ∧ okP (ord 18 i + 6) 24 (i) 18 (i) 9 = true ∧ okP (ord 18 i + 7) 25 (i) 18 (i) 10 = true ∧ okP (ord 18 i + 8) 26 (i) 18 (i) 12 = true := by decide +kernel
theorem kc_3 {N i : Nat} {μ : Mem} {E : List (Nat × Nat × Nat)} {Q : Option V → Mem → Prop} (hN : invT[N]? = some (18, i)) (hc : Cnt μ (N + 1)) (hr : RO 0 μ (N + 1) E) (hq : ∀ μ', Cnt μ' (N + 13) → RO 0 μ' (N + 13) E → Kp 18 i μ μ' → Q none μ') : Wp 0 0 3 0 [(0, vr 18 i)] [] μ 0 0 Q := by
  obtain ⟨-, -, -, -, hi, ho⟩ := inv_at hN
  subst ho
  have hi2 : i < 2 := hi
  obtain ⟨b0, b1, b2, b3, b4, b5, b6, b7⟩ := kb_3 i hi
  obtain ⟨e0, p0⟩ := okP_of b0
  obtain ⟨e1, p1⟩ := okP_of b1
  obtain ⟨e2, p2⟩ := okP_of b2
  obtain ⟨e3, p3⟩ := okP_of b3
  obtain ⟨e4, p4⟩ := okP_of b4
  obtain ⟨e5, p5⟩ := okP_of b5
  obtain ⟨e6, p6⟩ := okP_of b6
  obtain ⟨e7, p7⟩ := okP_of b7
  have k0 := Kp.rf 18 i μ
  have m0 := (hc.new e0).1
  have cc0 := (hc.new e0).2
  refine rn_ok ckx_3 (cut := cux_3) 1 _ _ _ _ _ _ (And.intro (by decide) (And.intro (by decide) (And.intro (by decide) (And.intro (by decide) (And.intro (by decide) (And.intro (hc.old hN (by omega)) (And.intro (Nat.le_of_ble_eq_true rfl) (And.intro (by decide) (And.intro (by decide) (And.intro (by decide) (And.intro (by decide) (And.intro (by decide) (And.intro (by decide) (And.intro (by decide) (And.intro (by decide) (And.intro (hc.due e0 (fun _ => (lv0 _ _))) (And.intro (by decide) (And.intro (by decide) (And.intro (by decide) (And.intro (by decide) (And.intro rfl (And.intro (cc0.old hN (by omega)) (And.intro rfl (And.intro (Or.inr (by decide)) (And.intro (Nat.lt_of_le_of_lt (Nat.le_of_eq m0) (cc0.old e0 (by omega))) ?_)))))))))))))))))))))))))
  show Wp 0 0 3 11 [(0, vr 18 (i))] [] (rowR (newC μ 19) 18 (i) (up (mR (newC μ 19) 18 (i)) 4 (mC μ 19))) 1 4 Q
  have c1 : Cnt (rowR (newC μ 19) 18 (i) (up (mR (newC μ 19) 18 (i)) 4 (mC μ 19))) (ord 18 i + 2) := cc0.R
  have r1 : RO 0 (rowR (newC μ 19) 18 (i) (up (mR (newC μ 19) 18 (i)) 4 (mC μ 19))) (ord 18 i + 2) E := ((hr.new hc e0 p0)).put m0
  have k1 : Kp 18 (i) μ (rowR (newC μ 19) 18 (i) (up (mR (newC μ 19) 18 (i)) 4 (mC μ 19))) := ((k0.new 19)).R _
  generalize (rowR (newC μ 19) 18 (i) (up (mR (newC μ 19) 18 (i)) 4 (mC μ 19))) = μ1 at *
  have m1 := (c1.new e1).1
  have cc1 := (c1.new e1).2
  refine rn_ok ckx_3 (cut := cux_3) 1 _ _ _ _ _ _ (And.intro (by decide) (And.intro (by decide) (And.intro (by decide) (And.intro (by decide) (And.intro (by decide) (And.intro (by decide) (And.intro (by decide) (And.intro (by decide) (And.intro (c1.due e1 (fun _ => (lv0 _ _))) (And.intro (by decide) (And.intro (by decide) (And.intro (by decide) (And.intro (by decide) (And.intro rfl (And.intro (cc1.old hN (by omega)) (And.intro rfl (And.intro (Or.inr (by decide)) (And.intro (Nat.lt_of_le_of_lt (Nat.le_of_eq m1) (cc1.old e1 (by omega))) ?_))))))))))))))))))
  show Wp 0 0 3 19 [(0, vr 18 (i))] [] (rowR (newC μ1 20) 18 (i) (up (mR (newC μ1 20) 18 (i)) 5 (mC μ1 20))) 2 10 Q
  have c2 : Cnt (rowR (newC μ1 20) 18 (i) (up (mR (newC μ1 20) 18 (i)) 5 (mC μ1 20))) (ord 18 i + 3) := cc1.R
  have r2 : RO 0 (rowR (newC μ1 20) 18 (i) (up (mR (newC μ1 20) 18 (i)) 5 (mC μ1 20))) (ord 18 i + 3) E := ((r1.new c1 e1 p1)).put m1
  have k2 : Kp 18 (i) μ (rowR (newC μ1 20) 18 (i) (up (mR (newC μ1 20) 18 (i)) 5 (mC μ1 20))) := ((k1.new 20)).R _
  generalize (rowR (newC μ1 20) 18 (i) (up (mR (newC μ1 20) 18 (i)) 5 (mC μ1 20))) = μ2 at *
  have m2 := (c2.new e2).1
  have cc2 := (c2.new e2).2
  refine rn_ok ckx_3 (cut := cux_3) 1 _ _ _ _ _ _ (And.intro (by decide) (And.intro (by decide) (And.intro (by decide) (And.intro (by decide) (And.intro (by decide) (And.intro (by decide) (And.intro (by decide) (And.intro (by decide) (And.intro (c2.due e2 (fun _ => (lv0 _ _))) (And.intro (by decide) (And.intro (by decide) (And.intro (by decide) (And.intro (by decide) (And.intro rfl (And.intro (cc2.old hN (by omega)) (And.intro rfl (And.intro (Or.inr (by decide)) (And.intro (Nat.lt_of_le_of_lt (Nat.le_of_eq m2) (cc2.old e2 (by omega))) ?_))))))))))))))))))
  show Wp 0 0 3 27 [(0, vr 18 (i))] [] (rowR (newC μ2 21) 18 (i) (up (mR (newC μ2 21) 18 (i)) 6 (mC μ2 21))) 3 16 Q
  have c3 : Cnt (rowR (newC μ2 21) 18 (i) (up (mR (newC μ2 21) 18 (i)) 6 (mC μ2 21))) (ord 18 i + 4) := cc2.R
  have r3 : RO 0 (rowR (newC μ2 21) 18 (i) (up (mR (newC μ2 21) 18 (i)) 6 (mC μ2 21))) (ord 18 i + 4) E := ((r2.new c2 e2 p2)).put m2
  have k3 : Kp 18 (i) μ (rowR (newC μ2 21) 18 (i) (up (mR (newC μ2 21) 18 (i)) 6 (mC μ2 21))) := ((k2.new 21)).R _
  generalize (rowR (newC μ2 21) 18 (i) (up (mR (newC μ2 21) 18 (i)) 6 (mC μ2 21))) = μ3 at *
  have m3 := (c3.new e3).1
  have cc3 := (c3.new e3).2
  refine rn_ok ckx_3 (cut := cux_3) 1 _ _ _ _ _ _ (And.intro (by decide) (And.intro (by decide) (And.intro (by decide) (And.intro (by decide) (And.intro (by decide) (And.intro (by decide) (And.intro (by decide) (And.intro (by decide) (And.intro (c3.due e3 (fun _ => (lv0 _ _))) (And.intro (by decide) (And.intro (by decide) (And.intro (by decide) (And.intro (by decide) (And.intro rfl (And.intro (cc3.old hN (by omega)) (And.intro rfl (And.intro (Or.inr (by decide)) (And.intro (Nat.lt_of_le_of_lt (Nat.le_of_eq m3) (cc3.old e3 (by omega))) ?_))))))))))))))))))
  show Wp 0 0 3 35 [(0, vr 18 (i))] [] (rowR (newC μ3 22) 18 (i) (up (mR (newC μ3 22) 18 (i)) 7 (mC μ3 22))) 4 28 Q
  have c4 : Cnt (rowR (newC μ3 22) 18 (i) (up (mR (newC μ3 22) 18 (i)) 7 (mC μ3 22))) (ord 18 i + 5) := cc3.R
  have r4 : RO 0 (rowR (newC μ3 22) 18 (i) (up (mR (newC μ3 22) 18 (i)) 7 (mC μ3 22))) (ord 18 i + 5) E := ((r3.new c3 e3 p3)).put m3
  have k4 : Kp 18 (i) μ (rowR (newC μ3 22) 18 (i) (up (mR (newC μ3 22) 18 (i)) 7 (mC μ3 22))) := ((k3.new 22)).R _
  generalize (rowR (newC μ3 22) 18 (i) (up (mR (newC μ3 22) 18 (i)) 7 (mC μ3 22))) = μ4 at *
  have m4 := (c4.new e4).1
  have cc4 := (c4.new e4).2
  refine rn_ok ckx_3 (cut := cux_3) 1 _ _ _ _ _ _ (And.intro (by decide) (And.intro (by decide) (And.intro (by decide) (And.intro (by decide) (And.intro (by decide) (And.intro (by decide) (And.intro (by decide) (And.intro (by decide) (And.intro (c4.due e4 (fun _ => (lv0 _ _))) (And.intro (by decide) (And.intro (by decide) (And.intro (by decide) (And.intro (by decide) (And.intro rfl (And.intro (cc4.old hN (by omega)) (And.intro rfl (And.intro (Or.inr (by decide)) (And.intro (Nat.lt_of_le_of_lt (Nat.le_of_eq m4) (cc4.old e4 (by omega))) ?_))))))))))))))))))
  show Wp 0 0 3 43 [(0, vr 18 (i))] [] (rowR (newC μ4 23) 18 (i) (up (mR (newC μ4 23) 18 (i)) 8 (mC μ4 23))) 5 40 Q
  have c5 : Cnt (rowR (newC μ4 23) 18 (i) (up (mR (newC μ4 23) 18 (i)) 8 (mC μ4 23))) (ord 18 i + 6) := cc4.R
  have r5 : RO 0 (rowR (newC μ4 23) 18 (i) (up (mR (newC μ4 23) 18 (i)) 8 (mC μ4 23))) (ord 18 i + 6) E := ((r4.new c4 e4 p4)).put m4
  have k5 : Kp 18 (i) μ (rowR (newC μ4 23) 18 (i) (up (mR (newC μ4 23) 18 (i)) 8 (mC μ4 23))) := ((k4.new 23)).R _
  generalize (rowR (newC μ4 23) 18 (i) (up (mR (newC μ4 23) 18 (i)) 8 (mC μ4 23))) = μ5 at *
  have m5 := (c5.new e5).1
  have cc5 := (c5.new e5).2
  refine rn_ok ckx_3 (cut := cux_3) 1 _ _ _ _ _ _ (And.intro (by decide) (And.intro (by decide) (And.intro (by decide) (And.intro (by decide) (And.intro (by decide) (And.intro (by decide) (And.intro (by decide) (And.intro (by decide) (And.intro (c5.due e5 (fun _ => (lv0 _ _))) (And.intro (by decide) (And.intro (by decide) (And.intro (by decide) (And.intro (by decide) (And.intro rfl (And.intro (cc5.old hN (by omega)) (And.intro rfl (And.intro (Or.inr (by decide)) (And.intro (Nat.lt_of_le_of_lt (Nat.le_of_eq m5) (cc5.old e5 (by omega))) ?_))))))))))))))))))
  show Wp 0 0 3 50 [(0, vr 18 (i))] [] (rowR (newC μ5 24) 18 (i) (up (mR (newC μ5 24) 18 (i)) 9 (mC μ5 24))) 6 44 Q
  have c6 : Cnt (rowR (newC μ5 24) 18 (i) (up (mR (newC μ5 24) 18 (i)) 9 (mC μ5 24))) (ord 18 i + 7) := cc5.R
  have r6 : RO 0 (rowR (newC μ5 24) 18 (i) (up (mR (newC μ5 24) 18 (i)) 9 (mC μ5 24))) (ord 18 i + 7) E := ((r5.new c5 e5 p5)).put m5
  have k6 : Kp 18 (i) μ (rowR (newC μ5 24) 18 (i) (up (mR (newC μ5 24) 18 (i)) 9 (mC μ5 24))) := ((k5.new 24)).R _
  generalize (rowR (newC μ5 24) 18 (i) (up (mR (newC μ5 24) 18 (i)) 9 (mC μ5 24))) = μ6 at *
  have m6 := (c6.new e6).1
  have cc6 := (c6.new e6).2
  refine rn_ok ckx_3 (cut := cux_3) 1 _ _ _ _ _ _ (And.intro (by decide) (And.intro (by decide) (And.intro (by decide) (And.intro (by decide) (And.intro (by decide) (And.intro (by decide) (And.intro (by decide) (And.intro (by decide) (And.intro (c6.due e6 (fun _ => (lv0 _ _))) (And.intro (by decide) (And.intro (by decide) (And.intro (by decide) (And.intro (by decide) (And.intro rfl (And.intro (cc6.old hN (by omega)) (And.intro rfl (And.intro (Or.inr (by decide)) (And.intro (Nat.lt_of_le_of_lt (Nat.le_of_eq m6) (cc6.old e6 (by omega))) ?_))))))))))))))))))
  show Wp 0 0 3 59 [(0, vr 18 (i))] [] (rowR (newC μ6 25) 18 (i) (up (mR (newC μ6 25) 18 (i)) 10 (mC μ6 25))) 7 452 Q
  have c7 : Cnt (rowR (newC μ6 25) 18 (i) (up (mR (newC μ6 25) 18 (i)) 10 (mC μ6 25))) (ord 18 i + 8) := cc6.R
  have r7 : RO 0 (rowR (newC μ6 25) 18 (i) (up (mR (newC μ6 25) 18 (i)) 10 (mC μ6 25))) (ord 18 i + 8) E := ((r6.new c6 e6 p6)).put m6
  have k7 : Kp 18 (i) μ (rowR (newC μ6 25) 18 (i) (up (mR (newC μ6 25) 18 (i)) 10 (mC μ6 25))) := ((k6.new 25)).R _
  generalize (rowR (newC μ6 25) 18 (i) (up (mR (newC μ6 25) 18 (i)) 10 (mC μ6 25))) = μ7 at *
  have m7 := (c7.new e7).1
  have cc7 := (c7.new e7).2
  refine rn_ok ckx_3 (cut := cux_3) 1 _ _ _ _ _ _ (And.intro (by decide) (And.intro (by decide) (And.intro (by decide) (And.intro (by decide) (And.intro (c7.due e7 (fun _ => (lv0 _ _))) (And.intro (by decide) (And.intro (by decide) (And.intro (by decide) (And.intro (by decide) (And.intro rfl (And.intro (by decide) (And.intro (by decide) (And.intro (by decide) (And.intro (Nat.lt_of_le_of_lt (Nat.le_of_eq m7) (cc7.old e7 (by omega))) (And.intro (And.intro (Nat.le_of_ble_eq_true rfl) (Nat.le_of_ble_eq_true rfl)) (And.intro (by decide) (And.intro (by decide) ?_)))))))))))))))))
  rw [m7]
  refine kc_36 (i := i) e7 cc7 (r7.new c7 e7 p7) (fun μ107 c107 r107 k107 => ?_)
  refine (And.intro (by decide) (And.intro (by decide) (And.intro rfl (And.intro (c107.old hN (by omega)) (And.intro rfl (And.intro (Or.inr (by decide)) (And.intro (c107.old e7 (by omega)) ?_)))))))
  show Wp 0 0 3 70 [] [] (rowR μ107 18 (i) (up (mR μ107 18 (i)) 12 (i))) 12 489 Q
  have c8 : Cnt (rowR μ107 18 (i) (up (mR μ107 18 (i)) 12 (i))) (ord 18 i + 13) := c107.R
  have r8 : RO 0 (rowR μ107 18 (i) (up (mR μ107 18 (i)) 12 (i))) (ord 18 i + 13) E := (r107).put rfl
  have k8 : Kp 18 (i) μ (rowR μ107 18 (i) (up (mR μ107 18 (i)) 12 (i))) := (((k7.new 26).call k107 (hc.young e7 (by omega)))).R _
  generalize (rowR μ107 18 (i) (up (mR μ107 18 (i)) 12 (i))) = μ8 at *
  exact rn_ok ckx_3 (cut := cux_3) 1 _ _ _ _ _ _ (And.intro (by decide) (And.intro (by decide) (And.intro rfl (And.intro rfl (And.intro (by decide) (And.intro (by decide) (hq _ c8 r8 k8)))))))
def bx_64 : Nat → List Ins := fun t => match t with
  | 0 => [(.aload_n 0, 0, 0, 0, 0), (.invokespecial 3, 0, 4, 0, 0), (.aload_n 0, 0, 0, 0, 0), (.new 9, 26, 0, 0, 0), (.dup, 0, 0, 0, 0), (.invokespecial 11, 36, 3, 0, 1), (.putfield 12, 7, 1, 2, 0)]
  | 15 => [(.aload_n 0, 0, 0, 0, 0), (.new 18, 32, 0, 0, 0), (.dup, 0, 0, 0, 0), (.invokespecial 20, 51, 3, 0, 1), (.putfield 21, 7, 2, 2, 0)]
  | 26 => [(.aload_n 0, 0, 0, 0, 0), (.bipush 9, 0, 0, 0, 0), (.newarray .int, 42, 0, 0, 0), (.putfield 27, 7, 3, 2, 0)]
  | 34 => [(.aload_n 0, 0, 0, 0, 0), (.sipush 408, 0, 0, 0, 0), (.newarray .int, 43, 0, 0, 0), (.putfield 31, 7, 4, 2, 0)]
  | 43 => [(.aload_n 0, 0, 0, 0, 0), (.aload_n 1, 1, 0, 0, 0), (.putfield 34, 7, 0, 2, 0)]
  | 48 => [(.return_, 0, 0, 0, 0)]
  | _ => []
set_option maxRecDepth 20000 in
theorem ckx_64 : ∀ t, chkL 64 t (bx_64 t) = true := by
  intro t
  unfold bx_64
  split <;> first | decide +kernel | rfl
def cux_64 : Nat → Option (List Nat) := fun t => match t with | 15 => some [0, 1] | 26 => some [0, 1] | 34 => some [0, 1] | 43 => some [0, 1] | 48 => some [] | _ => none
theorem kb_64 : ∀ i, i < 2 → okP (ord 31 i + 1) 26 (i + 2) 31 (i) 1 = true ∧ okP (ord 31 i + 6) 32 (i) 31 (i) 2 = true ∧ okP (ord 31 i + 19) 42 (i) 31 (i) 3 = true ∧ okP (ord 31 i + 20) 43 (i) 31 (i) 4 = true := by decide +kernel
theorem kc_64 {N i : Nat} {μ : Mem} {E : List (Nat × Nat × Nat)} {Q : Option V → Mem → Prop} (hN : invT[N]? = some (31, i)) (hc : Cnt μ (N + 1)) (hr : RO 0 μ (N + 1) E) {nq q : Nat} (hp : invT[nq]? = some (18, q)) (hpN : nq < N + 1) (hq : ∀ μ', Cnt μ' (N + 21) → RO 0 μ' (N + 21) E → Kp 31 i μ μ' → Q none μ') : Wp 0 0 64 0 [(0, vr 31 i), (1, vr 18 q)] [] μ 0 0 Q := by
  obtain ⟨-, -, -, -, hi, ho⟩ := inv_at hN
  subst ho
  have hi2 : i < 2 := hi
  obtain ⟨b0, b1, b2, b3⟩ := kb_64 i hi
  obtain ⟨e0, p0⟩ := okP_of b0
  obtain ⟨e1, p1⟩ := okP_of b1
  obtain ⟨e2, p2⟩ := okP_of b2
  obtain ⟨e3, p3⟩ := okP_of b3
  have k0 := Kp.rf 31 i μ
  have m0 := (hc.new e0).1
  have cc0 := (hc.new e0).2
  refine rn_ok ckx_64 (cut := cux_64) 1 _ _ _ _ _ _ (And.intro (by decide) (And.intro (by decide) (And.intro (by decide) (And.intro (by decide) (And.intro (by decide) (And.intro (hc.old hN (by omega)) (And.intro (Nat.le_of_ble_eq_true rfl) (And.intro (by decide) (And.intro (by decide) (And.intro (by decide) (And.intro (by decide) (And.intro (hc.due e0 (fun _ => (lv0 _ _))) (And.intro (by decide) (And.intro (by decide) (And.intro (by decide) (And.intro (by decide) (And.intro rfl (And.intro (by decide) (And.intro (by decide) (And.intro (by decide) (And.intro (Nat.lt_of_le_of_lt (Nat.le_of_eq m0) (cc0.old e0 (by omega))) (And.intro (And.intro (Nat.le_of_ble_eq_true rfl) (Nat.le_of_ble_eq_true rfl)) (And.intro (by decide) (And.intro (by decide) ?_))))))))))))))))))))))))
  rw [m0]
  refine kc_36 (i := i + 2) e0 cc0 (hr.new hc e0 p0) (fun μ100 c100 r100 k100 => ?_)
  refine (And.intro (by decide) (And.intro (by decide) (And.intro rfl (And.intro (c100.old hN (by omega)) (And.intro rfl (And.intro (Or.inr (by decide)) (And.intro (c100.old e0 (by omega)) ?_)))))))
  show Wp 0 0 64 15 [(0, vr 31 (i)), (1, vr 18 q)] [] (rowR μ100 31 (i) (up (mR μ100 31 (i)) 1 (i + 2))) 5 37 Q
  have c1 : Cnt (rowR μ100 31 (i) (up (mR μ100 31 (i)) 1 (i + 2))) (ord 31 i + 6) := c100.R
  have r1 : RO 0 (rowR μ100 31 (i) (up (mR μ100 31 (i)) 1 (i + 2))) (ord 31 i + 6) E := (r100).put rfl
  have k1 : Kp 31 (i) μ (rowR μ100 31 (i) (up (mR μ100 31 (i)) 1 (i + 2))) := (((k0.new 26).call k100 (hc.young e0 (by omega)))).R _
  generalize (rowR μ100 31 (i) (up (mR μ100 31 (i)) 1 (i + 2))) = μ1 at *
  have m1 := (c1.new e1).1
  have cc1 := (c1.new e1).2
  refine rn_ok ckx_64 (cut := cux_64) 1 _ _ _ _ _ _ (And.intro (by decide) (And.intro (by decide) (And.intro (by decide) (And.intro (by decide) (And.intro (c1.due e1 (fun _ => (lv0 _ _))) (And.intro (by decide) (And.intro (by decide) (And.intro (by decide) (And.intro (by decide) (And.intro rfl (And.intro (by decide) (And.intro (by decide) (And.intro (by decide) (And.intro (Nat.lt_of_le_of_lt (Nat.le_of_eq m1) (cc1.old e1 (by omega))) (And.intro (And.intro (Nat.le_of_ble_eq_true rfl) (Nat.le_of_ble_eq_true rfl)) (And.intro (by decide) (And.intro (by decide) ?_)))))))))))))))))
  rw [m1]
  refine kc_51 (i := i) e1 cc1 (r1.new c1 e1 p1) (fun μ101 c101 r101 k101 => ?_)
  refine (And.intro (by decide) (And.intro (by decide) (And.intro rfl (And.intro (c101.old hN (by omega)) (And.intro rfl (And.intro (Or.inr (by decide)) (And.intro (c101.old e1 (by omega)) ?_)))))))
  show Wp 0 0 64 26 [(0, vr 31 (i)), (1, vr 18 q)] [] (rowR μ101 31 (i) (up (mR μ101 31 (i)) 2 (i))) 18 106 Q
  have c2 : Cnt (rowR μ101 31 (i) (up (mR μ101 31 (i)) 2 (i))) (ord 31 i + 19) := c101.R
  have r2 : RO 0 (rowR μ101 31 (i) (up (mR μ101 31 (i)) 2 (i))) (ord 31 i + 19) E := (r101).put rfl
  have k2 : Kp 31 (i) μ (rowR μ101 31 (i) (up (mR μ101 31 (i)) 2 (i))) := (((k1.new 32).call k101 (hc.young e1 (by omega)))).R _
  generalize (rowR μ101 31 (i) (up (mR μ101 31 (i)) 2 (i))) = μ2 at *
  have m2 := (c2.new e2).1
  have cc2 := (c2.new e2).2
  refine rn_ok ckx_64 (cut := cux_64) 1 _ _ _ _ _ _ (And.intro (by decide) (And.intro (by decide) (And.intro (by decide) (And.intro (by decide) (And.intro (by decide) (And.intro (by decide) (And.intro (by decide) (And.intro (by decide) (And.intro (c2.due e2 (fun _ => (lv0 _ _))) (And.intro (by decide) (And.intro (by decide) (And.intro (by decide) (And.intro (by decide) (And.intro rfl (And.intro (cc2.old hN (by omega)) (And.intro rfl (And.intro (Or.inr (by decide)) (And.intro (Nat.lt_of_le_of_lt (Nat.le_of_eq m2) (cc2.old e2 (by omega))) ?_))))))))))))))))))
  show Wp 0 0 64 34 [(0, vr 31 (i)), (1, vr 18 q)] [] (rowR (newC μ2 42) 31 (i) (up (mR (newC μ2 42) 31 (i)) 3 (mC μ2 42))) 19 115 Q
  have c3 : Cnt (rowR (newC μ2 42) 31 (i) (up (mR (newC μ2 42) 31 (i)) 3 (mC μ2 42))) (ord 31 i + 20) := cc2.R
  have r3 : RO 0 (rowR (newC μ2 42) 31 (i) (up (mR (newC μ2 42) 31 (i)) 3 (mC μ2 42))) (ord 31 i + 20) E := ((r2.new c2 e2 p2)).put m2
  have k3 : Kp 31 (i) μ (rowR (newC μ2 42) 31 (i) (up (mR (newC μ2 42) 31 (i)) 3 (mC μ2 42))) := ((k2.new 42)).R _
  generalize (rowR (newC μ2 42) 31 (i) (up (mR (newC μ2 42) 31 (i)) 3 (mC μ2 42))) = μ3 at *
  have m3 := (c3.new e3).1
  have cc3 := (c3.new e3).2
  refine rn_ok ckx_64 (cut := cux_64) 1 _ _ _ _ _ _ (And.intro (by decide) (And.intro (by decide) (And.intro (by decide) (And.intro (by decide) (And.intro (by decide) (And.intro (by decide) (And.intro (by decide) (And.intro (by decide) (And.intro (c3.due e3 (fun _ => (lv0 _ _))) (And.intro (by decide) (And.intro (by decide) (And.intro (by decide) (And.intro (by decide) (And.intro rfl (And.intro (cc3.old hN (by omega)) (And.intro rfl (And.intro (Or.inr (by decide)) (And.intro (Nat.lt_of_le_of_lt (Nat.le_of_eq m3) (cc3.old e3 (by omega))) ?_))))))))))))))))))
  show Wp 0 0 64 43 [(0, vr 31 (i)), (1, vr 18 q)] [] (rowR (newC μ3 43) 31 (i) (up (mR (newC μ3 43) 31 (i)) 4 (mC μ3 43))) 20 523 Q
  have c4 : Cnt (rowR (newC μ3 43) 31 (i) (up (mR (newC μ3 43) 31 (i)) 4 (mC μ3 43))) (ord 31 i + 21) := cc3.R
  have r4 : RO 0 (rowR (newC μ3 43) 31 (i) (up (mR (newC μ3 43) 31 (i)) 4 (mC μ3 43))) (ord 31 i + 21) E := ((r3.new c3 e3 p3)).put m3
  have k4 : Kp 31 (i) μ (rowR (newC μ3 43) 31 (i) (up (mR (newC μ3 43) 31 (i)) 4 (mC μ3 43))) := ((k3.new 43)).R _
  generalize (rowR (newC μ3 43) 31 (i) (up (mR (newC μ3 43) 31 (i)) 4 (mC μ3 43))) = μ4 at *
  refine rn_ok ckx_64 (cut := cux_64) 1 _ _ _ _ _ _ (And.intro (by decide) (And.intro (by decide) (And.intro (by decide) (And.intro (by decide) (And.intro (by decide) (And.intro (by decide) (And.intro rfl (And.intro (c4.old hN (by omega)) (And.intro rfl (And.intro (Or.inl rfl) (And.intro (c4.old hp (by omega)) ?_)))))))))))
  show Wp 0 0 64 48 [] [] (rowR μ4 31 (i) (up (mR μ4 31 (i)) 0 q)) 20 523 Q
  have c5 : Cnt (rowR μ4 31 (i) (up (mR μ4 31 (i)) 0 q)) (ord 31 i + 21) := c4.R
  have r5 : RO 0 (rowR μ4 31 (i) (up (mR μ4 31 (i)) 0 q)) (ord 31 i + 21) E := (r4).putO (v := q) rfl
  have k5 : Kp 31 (i) μ (rowR μ4 31 (i) (up (mR μ4 31 (i)) 0 q)) := k4.R _
  generalize (rowR μ4 31 (i) (up (mR μ4 31 (i)) 0 q)) = μ5 at *
  exact rn_ok ckx_64 (cut := cux_64) 1 _ _ _ _ _ _ (And.intro (by decide) (And.intro (by decide) (And.intro rfl (And.intro rfl (And.intro (by decide) (And.intro (by decide) (hq _ c5 r5 k5)))))))
def bx_9 : Nat → List Ins := fun t => match t with
  | 0 => [(.aload_n 0, 0, 0, 0, 0), (.invokespecial 5, 0, 4, 0, 0), (.aload_n 0, 0, 0, 0, 0), (.new 11, 13, 0, 0, 0), (.dup, 0, 0, 0, 0), (.invokespecial 13, 41, 3, 0, 1), (.putfield 14, 2, 2, 2, 0)]
  | 15 => [(.aload_n 0, 0, 0, 0, 0), (.bipush 21, 0, 0, 0, 0), (.newarray .int, 17, 0, 0, 0), (.putfield 18, 2, 7, 2, 0)]
  | 23 => [(.aload_n 0, 0, 0, 0, 0), (.aload_n 1, 1, 0, 0, 0), (.putfield 22, 2, 3, 2, 0)]
  | 28 => [(.return_, 0, 0, 0, 0)]
  | _ => []
set_option maxRecDepth 20000 in
theorem ckx_9 : ∀ t, chkL 9 t (bx_9 t) = true := by
  intro t
  unfold bx_9
  split <;> first | decide +kernel | rfl
def cux_9 : Nat → Option (List Nat) := fun t => match t with | 15 => some [0, 1] | 23 => some [0, 1] | 28 => some [] | _ => none
theorem kb_9 : ∀ i, i < 1 → okP (ord 12 i + 1) 13 (0) 12 (0) 2 = true ∧ okP (ord 12 i + 5) 17 (0) 12 (0) 7 = true := by decide +kernel
theorem kc_9 {N i : Nat} {μ : Mem} {E : List (Nat × Nat × Nat)} {Q : Option V → Mem → Prop} (hN : invT[N]? = some (12, i)) (hc : Cnt μ (N + 1)) (hr : RO 0 μ (N + 1) E) {nq q : Nat} (hp : invT[nq]? = some (18, q)) (hpN : nq < N + 1) (hq : ∀ μ', Cnt μ' (N + 6) → RO 0 μ' (N + 6) E → Kp 12 i μ μ' → Q none μ') : Wp 0 0 9 0 [(0, vr 12 i), (1, vr 18 q)] [] μ 0 0 Q := by
  obtain ⟨-, -, -, -, hi, ho⟩ := inv_at hN
  subst ho
  have hi0 : i = 0 := by have : i < 1 := hi; omega
  subst hi0
  obtain ⟨b0, b1⟩ := kb_9 0 hi
  obtain ⟨e0, p0⟩ := okP_of b0
  obtain ⟨e1, p1⟩ := okP_of b1
  have k0 := Kp.rf 12 0 μ
  have m0 := (hc.new e0).1
  have cc0 := (hc.new e0).2
  refine rn_ok ckx_9 (cut := cux_9) 1 _ _ _ _ _ _ (And.intro (by decide) (And.intro (by decide) (And.intro (by decide) (And.intro (by decide) (And.intro (by decide) (And.intro (hc.old hN (by omega)) (And.intro (Nat.le_of_ble_eq_true rfl) (And.intro (by decide) (And.intro (by decide) (And.intro (by decide) (And.intro (by decide) (And.intro (hc.due e0 (fun _ => (lv0 _ _))) (And.intro (by decide) (And.intro (by decide) (And.intro (by decide) (And.intro (by decide) (And.intro rfl (And.intro (by decide) (And.intro (by decide) (And.intro (by decide) (And.intro (Nat.lt_of_le_of_lt (Nat.le_of_eq m0) (cc0.old e0 (by omega))) (And.intro (And.intro (Nat.le_of_ble_eq_true rfl) (Nat.le_of_ble_eq_true rfl)) (And.intro (by decide) (And.intro (by decide) ?_))))))))))))))))))))))))
  rw [m0]
  refine kc_41 (i := 0) e0 cc0 (hr.new hc e0 p0) (fun μ100 c100 r100 k100 => ?_)
  refine (And.intro (by decide) (And.intro (by decide) (And.intro rfl (And.intro (c100.old hN (by omega)) (And.intro rfl (And.intro (Or.inr (by decide)) (And.intro (c100.old e0 (by omega)) ?_)))))))
  show Wp 0 0 9 15 [(0, vr 12 0), (1, vr 18 q)] [] (rowR μ100 12 0 (up (mR μ100 12 0) 2 (0))) 4 1210 Q
  have c1 : Cnt (rowR μ100 12 0 (up (mR μ100 12 0) 2 (0))) (ord 12 0 + 5) := c100.R
  have r1 : RO 0 (rowR μ100 12 0 (up (mR μ100 12 0) 2 (0))) (ord 12 0 + 5) E := (r100).put rfl
  have k1 : Kp 12 0 μ (rowR μ100 12 0 (up (mR μ100 12 0) 2 (0))) := (((k0.new 13).call k100 (hc.young e0 (by omega)))).R _
  generalize (rowR μ100 12 0 (up (mR μ100 12 0) 2 (0))) = μ1 at *
  have m1 := (c1.new e1).1
  have cc1 := (c1.new e1).2
  refine rn_ok ckx_9 (cut := cux_9) 1 _ _ _ _ _ _ (And.intro (by decide) (And.intro (by decide) (And.intro (by decide) (And.intro (by decide) (And.intro (by decide) (And.intro (by decide) (And.intro (by decide) (And.intro (by decide) (And.intro (c1.due e1 (fun _ => (lv0 _ _))) (And.intro (by decide) (And.intro (by decide) (And.intro (by decide) (And.intro (by decide) (And.intro rfl (And.intro (cc1.old hN (by omega)) (And.intro rfl (And.intro (Or.inr (by decide)) (And.intro (Nat.lt_of_le_of_lt (Nat.le_of_eq m1) (cc1.old e1 (by omega))) ?_))))))))))))))))))
  show Wp 0 0 9 23 [(0, vr 12 0), (1, vr 18 q)] [] (rowR (newC μ1 17) 12 0 (up (mR (newC μ1 17) 12 0) 7 (mC μ1 17))) 5 1231 Q
  have c2 : Cnt (rowR (newC μ1 17) 12 0 (up (mR (newC μ1 17) 12 0) 7 (mC μ1 17))) (ord 12 0 + 6) := cc1.R
  have r2 : RO 0 (rowR (newC μ1 17) 12 0 (up (mR (newC μ1 17) 12 0) 7 (mC μ1 17))) (ord 12 0 + 6) E := ((r1.new c1 e1 p1)).put m1
  have k2 : Kp 12 0 μ (rowR (newC μ1 17) 12 0 (up (mR (newC μ1 17) 12 0) 7 (mC μ1 17))) := ((k1.new 17)).R _
  generalize (rowR (newC μ1 17) 12 0 (up (mR (newC μ1 17) 12 0) 7 (mC μ1 17))) = μ2 at *
  refine rn_ok ckx_9 (cut := cux_9) 1 _ _ _ _ _ _ (And.intro (by decide) (And.intro (by decide) (And.intro (by decide) (And.intro (by decide) (And.intro (by decide) (And.intro (by decide) (And.intro rfl (And.intro (c2.old hN (by omega)) (And.intro rfl (And.intro (Or.inl rfl) (And.intro (c2.old hp (by omega)) ?_)))))))))))
  show Wp 0 0 9 28 [] [] (rowR μ2 12 0 (up (mR μ2 12 0) 3 q)) 5 1231 Q
  have c3 : Cnt (rowR μ2 12 0 (up (mR μ2 12 0) 3 q)) (ord 12 0 + 6) := c2.R
  have r3 : RO 0 (rowR μ2 12 0 (up (mR μ2 12 0) 3 q)) (ord 12 0 + 6) E := (r2).putO (v := q) rfl
  have k3 : Kp 12 0 μ (rowR μ2 12 0 (up (mR μ2 12 0) 3 q)) := k2.R _
  generalize (rowR μ2 12 0 (up (mR μ2 12 0) 3 q)) = μ3 at *
  exact rn_ok ckx_9 (cut := cux_9) 1 _ _ _ _ _ _ (And.intro (by decide) (And.intro (by decide) (And.intro rfl (And.intro rfl (And.intro (by decide) (And.intro (by decide) (hq _ c3 r3 k3)))))))

/-! the class' constructors: Past, SluiceLogs -/
def bx_0 : Nat → List Ins := fun t => match t with
  | 0 => [(.aload_n 0, 0, 0, 0, 0), (.invokespecial 3, 0, 4, 0, 0), (.aload_n 0, 0, 0, 0, 0), (.bipush 40, 0, 0, 0, 0), (.anewarray 9, 45, 0, 0, 0), (.putfield 11, 0, 0, 2, 0)]
  | 13 => [(.aload_n 0, 0, 0, 0, 0), (.iconst 0, 0, 0, 0, 0), (.putfield 17, 0, 1, 0, 0)]
  | 18 => [(.aload_n 0, 0, 0, 0, 0), (.iconst 0, 0, 0, 0, 0), (.putfield 21, 0, 2, 0, 0)]
  | 23 => [(.iconst 0, 0, 0, 0, 0), (.istore_n 1, 1, 0, 0, 0)]
  | 25 => [(.iload_n 1, 1, 0, 0, 0), (.bipush 40, 0, 0, 0, 0), (.if_icmp .ge 22, 50, 0, 0, 0), (.aload_n 0, 0, 0, 0, 0), (.getfield 11, 0, 0, 2, 0), (.iload_n 1, 1, 0, 0, 0), (.new 9, 26, 0, 0, 0), (.dup, 0, 0, 0, 0), (.invokespecial 24, 36, 3, 0, 1), (.aastore, 0, 0, 0, 0), (.iinc 1 1, 1, 0, 0, 0), (.goto (-22), 25, 0, 0, 0)]
  | 50 => [(.return_, 0, 0, 0, 0)]
  | _ => []
set_option maxRecDepth 20000 in
theorem ckx_0 : ∀ t, chkL 0 t (bx_0 t) = true := by
  intro t
  unfold bx_0
  split <;> first | decide +kernel | rfl
def cux_0 : Nat → Option (List Nat) := fun t => match t with | 13 => some [0] | 18 => some [0] | 23 => some [0] | 25 => some [0, 1] | 50 => some [] | _ => none
theorem kb_0 : ∀ i, i < 1 → okP (ord 44 i + 1) 45 (0) 44 (0) 0 = true := by decide +kernel
theorem kb_0L : ∀ j, j < 40 → invT[ord 44 0 + 2 + 5 * j]? = some (26, 4 + j) ∧ parT[ord 44 0 + 2 + 5 * j]? = some (45, 0, j) := by decide +kernel
theorem kc_0 {N i : Nat} {μ : Mem} {E : List (Nat × Nat × Nat)} {Q : Option V → Mem → Prop} (hN : invT[N]? = some (44, i)) (hE : (44, 0, 0) ∉ E) (hc : Cnt μ (N + 1)) (hr : RO 0 μ (N + 1) E) (hq : ∀ μ', Cnt μ' (N + 202) → RO 0 μ' (N + 202) E → Kp 44 i μ μ' → mI μ' 44 0 1 = nI 0 → Q none μ') : Wp 0 0 0 0 [(0, vr 44 i)] [] μ 0 0 Q := by
  obtain ⟨-, -, -, -, hi, ho⟩ := inv_at hN
  subst ho
  have hi0 : i = 0 := by have : i < 1 := hi; omega
  subst hi0
  have b0 := kb_0 0 (by omega)
  obtain ⟨e0, p0⟩ := okP_of b0
  have k0 := Kp.rf 44 0 μ
  have m0 := (hc.new e0).1
  have cc0 := (hc.new e0).2
  refine rn_ok ckx_0 (cut := cux_0) 1 _ _ _ _ _ _ (And.intro (by decide) (And.intro (by decide) (And.intro (by decide) (And.intro (by decide) (And.intro (by decide) (And.intro (hc.old hN (by omega)) (And.intro (Nat.le_of_ble_eq_true rfl) (And.intro (by decide) (And.intro (by decide) (And.intro (by decide) (And.intro (by decide) (And.intro (by decide) (And.intro (by decide) (And.intro (by decide) (And.intro (by decide) (And.intro (hc.due e0 (fun _ => (lv0 _ _))) (And.intro (by decide) (And.intro (by decide) (And.intro (by decide) (And.intro (by decide) (And.intro rfl (And.intro (cc0.old hN (by omega)) (And.intro rfl (And.intro (Or.inr (by decide)) (And.intro (Nat.lt_of_le_of_lt (Nat.le_of_eq m0) (cc0.old e0 (by omega))) ?_)))))))))))))))))))))))))
  show Wp 0 0 0 13 [(0, vr 44 0)] [] (rowR (newC μ 45) 44 0 (up (mR (newC μ 45) 44 0) 0 (mC μ 45))) 1 40 Q
  have c1 : Cnt (rowR (newC μ 45) 44 0 (up (mR (newC μ 45) 44 0) 0 (mC μ 45))) (ord 44 0 + 2) := cc0.R
  have r1 : RO 0 (rowR (newC μ 45) 44 0 (up (mR (newC μ 45) 44 0) 0 (mC μ 45))) (ord 44 0 + 2) E := ((hr.new hc e0 p0)).put m0
  have k1 : Kp 44 0 μ (rowR (newC μ 45) 44 0 (up (mR (newC μ 45) 44 0) 0 (mC μ 45))) := ((k0.new 45)).R _
  generalize (rowR (newC μ 45) 44 0 (up (mR (newC μ 45) 44 0) 0 (mC μ 45))) = μ1 at *
  refine rn_ok ckx_0 (cut := cux_0) 1 _ _ _ _ _ _ (And.intro (by decide) (And.intro (by decide) (And.intro (by decide) (And.intro (by decide) (And.intro (by decide) (And.intro (by decide) (And.intro rfl (And.intro (c1.old hN (by omega)) ?_))))))))
  show Wp 0 0 0 18 [(0, vr 44 0)] [] (rowI μ1 44 0 (up (mI μ1 44 0) 1 (Int32.ofInt (0)))) 1 40 Q
  have c2 : Cnt (rowI μ1 44 0 (up (mI μ1 44 0) 1 (Int32.ofInt (0)))) (ord 44 0 + 2) := c1.I
  have r2 : RO 0 (rowI μ1 44 0 (up (mI μ1 44 0) 1 (Int32.ofInt (0)))) (ord 44 0 + 2) E := r1.I
  have k2 : Kp 44 0 μ (rowI μ1 44 0 (up (mI μ1 44 0) 1 (Int32.ofInt (0)))) := k1.I _
  have xz_2 : mI (rowI μ1 44 0 (up (mI μ1 44 0) 1 (Int32.ofInt (0)))) 44 0 1 = nI 0 := by rw [mI_rowI, if_pos ⟨rfl, rfl⟩]; exact up_s _ _ _
  generalize (rowI μ1 44 0 (up (mI μ1 44 0) 1 (Int32.ofInt (0)))) = μ2 at *
  refine rn_ok ckx_0 (cut := cux_0) 1 _ _ _ _ _ _ (And.intro (by decide) (And.intro (by decide) (And.intro (by decide) (And.intro (by decide) (And.intro (by decide) (And.intro (by decide) (And.intro rfl (And.intro (c2.old hN (by omega)) ?_))))))))
  show Wp 0 0 0 23 [(0, vr 44 0)] [] (rowI μ2 44 0 (up (mI μ2 44 0) 2 (Int32.ofInt (0)))) 1 40 Q
  have c3 : Cnt (rowI μ2 44 0 (up (mI μ2 44 0) 2 (Int32.ofInt (0)))) (ord 44 0 + 2) := c2.I
  have r3 : RO 0 (rowI μ2 44 0 (up (mI μ2 44 0) 2 (Int32.ofInt (0)))) (ord 44 0 + 2) E := r2.I
  have k3 : Kp 44 0 μ (rowI μ2 44 0 (up (mI μ2 44 0) 2 (Int32.ofInt (0)))) := k2.I _
  have xz_3 : mI (rowI μ2 44 0 (up (mI μ2 44 0) 2 (Int32.ofInt (0)))) 44 0 1 = nI 0 := by rw [mI_rowI, if_pos ⟨rfl, rfl⟩, up_n _ _ (by omega)]; exact xz_2
  generalize (rowI μ2 44 0 (up (mI μ2 44 0) 2 (Int32.ofInt (0)))) = μ3 at *
  refine rn_ok ckx_0 (cut := cux_0) 1 _ _ _ _ _ _ (And.intro (by decide) (And.intro (by decide) (And.intro (by decide) (And.intro (by decide) ?_))))
  show Wp 0 0 0 25 [(0, vr 44 0), (1, vi (nI 0))] [] μ3 (1 + 5 * 0) (40 + 37 * 0) Q
  have loop : ∀ (n j : Nat) (ν : Mem), j + n = 40 → Cnt ν (ord 44 0 + 2 + 5 * j) → RO 0 ν (ord 44 0 + 2 + 5 * j) E → Kp 44 0 μ ν → mI ν 44 0 1 = nI 0 → Wp 0 0 0 25 [(0, vr 44 0), (1, vi (nI j))] [] ν (1 + 5 * j) (40 + 37 * j) Q := by
    intro n
    induction n with
    | zero =>
      intro j ν hj c r kp z
      obtain rfl : j = 40 := by omega
      refine rn_ok ckx_0 (cut := cux_0) 1 _ _ _ _ _ _ (And.intro (by decide) (And.intro (by decide) (And.intro (by decide) (And.intro (by decide) (And.intro (by decide) (And.intro (by decide) (And.intro (fun _ => ?_) (fun y => absurd (Int32.le_refl _) y))))))))
      show Wp 0 0 0 50 [] [] ν (1 + 5 * 40) (40 + 37 * 40) Q
      exact rn_ok ckx_0 (cut := cux_0) 1 _ _ _ _ _ _ (And.intro (by decide) (And.intro (by decide) (And.intro rfl (And.intro rfl (And.intro (by decide) (And.intro (by decide) (hq _ c r kp z)))))))
    | succ n ih =>
      intro j ν hj c r kp z
      have hj40 : j < 40 := by omega
      have a1 : mAc 0 = 201 := by decide
      have a2 : mAs 0 = 1520 := by decide
      have a3 : mAc 36 = 4 := by decide
      have a4 : mAs 36 = 30 := by decide
      have b1 : rsz 26 = 7 := rfl
      obtain ⟨e1, p1⟩ := kb_0L j hj40
      have m1 := (c.new e1).1
      have c1 := (c.new e1).2
      have ref0 : refI 0 ν 44 0 0 = 0 := by
        unfold refI
        rw [if_neg (fun y => absurd y.2 (by decide))]
        exact r (ord 44 0 + 1) (44, 0, 0) p0 (by decide) (Nat.zero_le _) (by omega) hE
      have e45 := e0
      have n1 : 1 + 5 * j ≤ mAc 0 := by omega
      have n2 : 40 + 37 * j ≤ mAs 0 := by omega
      have n3 : 1 + 5 * j + 1 ≤ mAc 0 := by omega
      have n4 : 40 + 37 * j + rsz 26 ≤ mAs 0 := by omega
      have n5 : 1 + 5 * j + 1 + mAc 36 ≤ mAc 0 := by omega
      have n6 : 40 + 37 * j + rsz 26 + mAs 36 ≤ mAs 0 := by omega
      refine rn_ok ckx_0 (cut := cux_0) 1 _ _ _ _ _ _ (And.intro n1 (And.intro n2 (And.intro n1 (And.intro n2 (And.intro n1 (And.intro n2 (And.intro (fun y => absurd y (nI_ge (a := j) (b := 40) (by omega) (by decide))) (fun _ => ?_))))))))
      refine And.intro n1 (And.intro n2 (And.intro n1 (And.intro n2 (And.intro rfl (And.intro (c.old hN (by omega)) (Exists.intro 0 (And.intro ref0 (And.intro n1 (And.intro n2 (And.intro n1 (And.intro n2 (And.intro (c.due e1 (fun _ => (lv0 _ _))) (And.intro n3 (And.intro n4 (And.intro n3 (And.intro n4 (And.intro rfl (And.intro n3 (And.intro n4 (And.intro (by decide) (And.intro (Nat.lt_of_le_of_lt (Nat.le_of_eq m1) (c1.old e1 (by omega))) (And.intro (And.intro (Nat.le_of_ble_eq_true rfl) (Nat.le_of_ble_eq_true rfl)) (And.intro n5 (And.intro n6 ?_))))))))))))))))))))))))
      rw [m1]
      refine kc_36 (i := 4 + j) e1 c1 (r.new c e1 p1) (fun μ2 c2 r2 k2 => ?_)
      have cl40 : (nI j).toNatClampNeg = j := nI_clamp (by omega)
      have vin : vp_in (nI j) (rsz 45) := vp_in_nI (show j < 40 from hj40) (by decide)
      refine And.intro n5 (And.intro n6 (And.intro rfl (And.intro (c2.old e45 (by omega)) (And.intro vin (And.intro rfl (And.intro (c2.old e1 (by omega)) (And.intro rfl (And.intro (Or.inr (by decide)) (And.intro n5 (And.intro n6 (And.intro n5 (And.intro n6 ?_))))))))))))
      show Wp 0 0 0 25 [(0, vr 44 0), (1, vi (nI j + Int32.ofInt 1))] [] (rowR μ2 45 0 (up (mR μ2 45 0) (nI j).toNatClampNeg (4 + j))) (1 + 5 * j + 1 + mAc 36) (40 + 37 * j + rsz 26 + mAs 36) Q
      rw [cl40, show nI j + Int32.ofInt 1 = nI (j + 1) from nI_add j 1, show 1 + 5 * j + 1 + mAc 36 = 1 + 5 * (j + 1) by omega, show 40 + 37 * j + rsz 26 + mAs 36 = 40 + 37 * (j + 1) by omega]
      refine ih (j + 1) _ (by omega) ?_ ?_ ?_ ?_
      · rw [show ord 44 0 + 2 + 5 * (j + 1) = ord 44 0 + 2 + 5 * j + 5 by omega]; exact c2.R
      · rw [show ord 44 0 + 2 + 5 * (j + 1) = ord 44 0 + 2 + 5 * j + 5 by omega]; exact r2.put (Nat.add_comm 4 j)
      · exact ((kp.new 26).call k2 (hc.young e1 (by omega))).RN (hc.young e45 (by omega)) _
      · rw [mI_rowR, (k2.2 44 0 (c1.old hN (by omega)) (by omega)).1, mI_newC, if_neg (by omega)]
        exact z
  exact loop 40 0 _ (by omega) c3 r3 k3 xz_3

def bx_90 : Nat → List Ins := fun t => match t with
  | 0 => [(.aload_n 0, 0, 0, 0, 0), (.invokespecial 1, 0, 4, 0, 0), (.aload_n 0, 0, 0, 0, 0), (.sipush 2000, 0, 0, 0, 0), (.newarray .byte, 11, 0, 0, 0), (.putfield 9, 8, 0, 2, 0)]
  | 13 => [(.aload_n 0, 0, 0, 0, 0), (.iconst 0, 0, 0, 0, 0), (.putfield 13, 8, 1, 0, 0)]
  | 18 => [(.aload_n 0, 0, 0, 0, 0), (.iconst (-1), 0, 0, 0, 0), (.putfield 17, 8, 2, 0, 0)]
  | 23 => [(.aload_n 0, 0, 0, 0, 0), (.new 20, 18, 0, 0, 0), (.dup, 0, 0, 0, 0), (.invokespecial 22, 3, 3, 0, 1), (.putfield 23, 8, 3, 2, 0)]
  | 34 => [(.aload_n 0, 0, 0, 0, 0), (.new 20, 18, 0, 0, 0), (.dup, 0, 0, 0, 0), (.invokespecial 22, 3, 3, 0, 1), (.putfield 27, 8, 4, 2, 0)]
  | 45 => [(.aload_n 0, 0, 0, 0, 0), (.new 30, 12, 0, 0, 0), (.dup, 0, 0, 0, 0), (.aload_n 0, 0, 0, 0, 0), (.getfield 27, 8, 4, 2, 0), (.invokespecial 32, 9, 2, 1, 2), (.putfield 35, 8, 5, 2, 0)]
  | 60 => [(.aload_n 0, 0, 0, 0, 0), (.new 39, 31, 0, 0, 0), (.dup, 0, 0, 0, 0), (.aload_n 0, 0, 0, 0, 0), (.getfield 23, 8, 3, 2, 0), (.invokespecial 41, 64, 2, 1, 2), (.putfield 42, 8, 6, 2, 0)]
  | 75 => [(.aload_n 0, 0, 0, 0, 0), (.new 39, 31, 0, 0, 0), (.dup, 0, 0, 0, 0), (.aload_n 0, 0, 0, 0, 0), (.getfield 23, 8, 3, 2, 0), (.invokespecial 41, 64, 2, 1, 2), (.putfield 46, 8, 7, 2, 0)]
  | 90 => [(.aload_n 0, 0, 0, 0, 0), (.new 49, 44, 0, 0, 0), (.dup, 0, 0, 0, 0), (.invokespecial 51, 0, 2, 0, 2), (.putfield 52, 8, 8, 2, 0)]
  | 101 => [(.aload_n 0, 0, 0, 0, 0), (.iconst 3, 0, 0, 0, 0), (.anewarray 56, 46, 0, 0, 0), (.putfield 58, 8, 9, 2, 0)]
  | 109 => [(.aload_n 0, 0, 0, 0, 0), (.iconst 3, 0, 0, 0, 0), (.newarray .boolean, 47, 0, 0, 0), (.putfield 62, 8, 10, 2, 0)]
  | 116 => [(.aload_n 0, 0, 0, 0, 0), (.new 66, 48, 0, 0, 0), (.dup, 0, 0, 0, 0), (.invokespecial 68, 39, 3, 0, 1), (.putfield 69, 8, 11, 2, 0)]
  | 127 => [(.aload_n 0, 0, 0, 0, 0), (.bipush 24, 0, 0, 0, 0), (.bipush 6, 0, 0, 0, 0), (.multianewarray 73 2, 52, 53, 0, 0), (.putfield 75, 8, 12, 2, 0)]
  | 139 => [(.aload_n 0, 0, 0, 0, 0), (.iconst 3, 0, 0, 0, 0), (.newarray .int, 54, 0, 0, 0), (.putfield 78, 8, 13, 2, 0)]
  | 146 => [(.iconst 0, 0, 0, 0, 0), (.istore_n 1, 1, 0, 0, 0)]
  | 148 => [(.iload_n 1, 1, 0, 0, 0), (.iconst 3, 0, 0, 0, 0), (.if_icmp .ge 22, 172, 0, 0, 0), (.aload_n 0, 0, 0, 0, 0), (.getfield 58, 8, 9, 2, 0), (.iload_n 1, 1, 0, 0, 0), (.new 56, 26, 0, 0, 0), (.dup, 0, 0, 0, 0), (.invokespecial 82, 36, 3, 0, 1), (.aastore, 0, 0, 0, 0), (.iinc 1 1, 1, 0, 0, 0), (.goto (-21), 148, 0, 0, 0)]
  | 172 => [(.aload_n 0, 0, 0, 0, 0), (.getfield 23, 8, 3, 2, 0), (.invokevirtual 83, 4, 101, 0, 1), (.aload_n 0, 0, 0, 0, 0), (.invokevirtual 86, 95, 108, 0, 2), (.return_, 0, 0, 0, 0)]
  | _ => []
set_option maxRecDepth 20000 in
theorem ckx_90 : ∀ t, chkL 90 t (bx_90 t) = true := by
  intro t
  unfold bx_90
  split <;> first | decide +kernel | rfl
def cux_90 : Nat → Option (List Nat) := fun t => match t with | 13 => some [0] | 18 => some [0] | 23 => some [0] | 34 => some [0] | 45 => some [0] | 60 => some [0] | 75 => some [0] | 90 => some [0] | 101 => some [0] | 109 => some [0] | 116 => some [0] | 127 => some [0] | 139 => some [0] | 146 => some [0] | 148 => some [0, 1] | 172 => some [0] | _ => none
theorem kb_90 : ∀ i, i < 1 → okP (ord 10 i + 1) 11 (0) 10 (0) 0 = true ∧ okP (ord 10 i + 2) 18 (0) 0 (0) 0 = true ∧ okP (ord 10 i + 15) 18 (1) 0 (0) 0 = true ∧ okP (ord 10 i + 28) 12 (0) 10 (0) 5 = true ∧ okP (ord 10 i + 34) 31 (0) 10 (0) 6 = true ∧ okP (ord 10 i + 55) 31 (1) 10 (0) 7 = true ∧ okP (ord 10 i + 76) 44 (0) 10 (0) 8 = true ∧ okP (ord 10 i + 278) 46 (0) 10 (0) 9 = true ∧ okP (ord 10 i + 279) 47 (0) 10 (0) 10 = true ∧ okP (ord 10 i + 280) 48 (0) 10 (0) 11 = true ∧ okP (ord 10 i + 284) 52 (0) 10 (0) 12 = true ∧ (okW (ord 10 i + 285) 53 (0) 52 (0) 24 = true) ∧ okP (ord 10 i + 309) 54 (0) 10 (0) 13 = true := by decide +kernel
theorem eX44 : invT[76]? = some (44, 0) := by decide +kernel
theorem kb_90L : ∀ j, j < 3 → invT[310 + 5 * j]? = some (26, 44 + j) ∧ parT[310 + 5 * j]? = some (46, 0, j) := by decide +kernel
theorem kb_46 : invT[278]? = some (46, 0) ∧ parT[278]? = some (10, 0, 9) := by decide +kernel
theorem kc_90 {N i : Nat} {μ : Mem} {Q : Option V → Mem → Prop} (hN : invT[N]? = some (10, i)) (hc : Cnt μ (N + 1)) (hr : RO 0 μ (N + 1) []) (hq : ∀ ν, Cnt ν 325 → RO 0 ν 325 [] → mI ν 10 0 1 = nI 0 → mI ν 10 0 2 = (-1 : Int32) → mR ν 10 0 3 = 0 → mR ν 10 0 4 = 1 → mI ν 44 0 1 = nI 0 → Wp 0 1 90 172 [(0, vr 10 0)] [] ν 324 7175 Q) : Wp 0 1 90 0 [(0, vr 10 i)] [] μ 0 0 Q := by

  obtain ⟨-, -, -, -, hi, ho⟩ := inv_at hN
  subst ho
  have hi0 : i = 0 := by have : i < 1 := hi; omega
  subst hi0
  have o0 : ord 10 0 = 0 := by decide
  obtain ⟨b0, b1, b2, b3, b4, b5, b6, b7, b8, b9, b10, b11, b12⟩ := kb_90 0 (by omega)
  obtain ⟨e0, p0⟩ := okP_of b0
  obtain ⟨e1, p1⟩ := okP_of b1
  obtain ⟨e2, p2⟩ := okP_of b2
  obtain ⟨e3, p3⟩ := okP_of b3
  obtain ⟨e4, p4⟩ := okP_of b4
  obtain ⟨e5, p5⟩ := okP_of b5
  obtain ⟨e6, p6⟩ := okP_of b6
  obtain ⟨e7, p7⟩ := okP_of b7
  obtain ⟨e8, p8⟩ := okP_of b8
  obtain ⟨e9, p9⟩ := okP_of b9
  obtain ⟨e10, p10⟩ := okP_of b10
  have f11 := okW_of b11
  obtain ⟨e12, p12⟩ := okP_of b12
  have k0 := Kp.rf 10 0 μ
  have m0 := (hc.new e0).1
  have cc0 := (hc.new e0).2
  refine rn_ok ckx_90 (cut := cux_90) 1 _ _ _ _ _ _ (And.intro (by decide) (And.intro (by decide) (And.intro (by decide) (And.intro (by decide) (And.intro (by decide) (And.intro (hc.old hN (by omega)) (And.intro (Nat.le_of_ble_eq_true rfl) (And.intro (by decide) (And.intro (by decide) (And.intro (by decide) (And.intro (by decide) (And.intro (by decide) (And.intro (by decide) (And.intro (by decide) (And.intro (by decide) (And.intro (hc.due e0 (fun _ => (lv0 _ _))) (And.intro (by decide) (And.intro (by decide) (And.intro (by decide) (And.intro (by decide) (And.intro rfl (And.intro (cc0.old hN (by omega)) (And.intro rfl (And.intro (Or.inr (by decide)) (And.intro (Nat.lt_of_le_of_lt (Nat.le_of_eq m0) (cc0.old e0 (by omega))) ?_)))))))))))))))))))))))))
  show Wp 0 1 90 13 [(0, vr 10 0)] [] (rowR (newC μ 11) 10 0 (up (mR (newC μ 11) 10 0) 0 (mC μ 11))) 1 2000 Q
  have c1 : Cnt (rowR (newC μ 11) 10 0 (up (mR (newC μ 11) 10 0) 0 (mC μ 11))) (ord 10 0 + 2) := cc0.R
  have r1 : RO 0 (rowR (newC μ 11) 10 0 (up (mR (newC μ 11) 10 0) 0 (mC μ 11))) (ord 10 0 + 2) [] := ((hr.new hc e0 p0)).put m0
  have k1 : Kp 10 0 μ (rowR (newC μ 11) 10 0 (up (mR (newC μ 11) 10 0) 0 (mC μ 11))) := ((k0.new 11)).R _
  generalize (rowR (newC μ 11) 10 0 (up (mR (newC μ 11) 10 0) 0 (mC μ 11))) = μ1 at *
  refine rn_ok ckx_90 (cut := cux_90) 1 _ _ _ _ _ _ (And.intro (by decide) (And.intro (by decide) (And.intro (by decide) (And.intro (by decide) (And.intro (by decide) (And.intro (by decide) (And.intro rfl (And.intro (c1.old hN (by omega)) ?_))))))))
  show Wp 0 1 90 18 [(0, vr 10 0)] [] (rowI μ1 10 0 (up (mI μ1 10 0) 1 (Int32.ofInt (0)))) 1 2000 Q
  have c2 : Cnt (rowI μ1 10 0 (up (mI μ1 10 0) 1 (Int32.ofInt (0)))) (ord 10 0 + 2) := c1.I
  have r2 : RO 0 (rowI μ1 10 0 (up (mI μ1 10 0) 1 (Int32.ofInt (0)))) (ord 10 0 + 2) [] := r1.I
  have k2 : Kp 10 0 μ (rowI μ1 10 0 (up (mI μ1 10 0) 1 (Int32.ofInt (0)))) := k1.I _
  have xa_2 : mI (rowI μ1 10 0 (up (mI μ1 10 0) 1 (Int32.ofInt (0)))) 10 0 1 = nI 0 := by rw [mI_rowI, if_pos ⟨rfl, rfl⟩]; exact up_s _ _ _
  generalize (rowI μ1 10 0 (up (mI μ1 10 0) 1 (Int32.ofInt (0)))) = μ2 at *
  refine rn_ok ckx_90 (cut := cux_90) 1 _ _ _ _ _ _ (And.intro (by decide) (And.intro (by decide) (And.intro (by decide) (And.intro (by decide) (And.intro (by decide) (And.intro (by decide) (And.intro rfl (And.intro (c2.old hN (by omega)) ?_))))))))
  show Wp 0 1 90 23 [(0, vr 10 0)] [] (rowI μ2 10 0 (up (mI μ2 10 0) 2 (Int32.ofInt (-1)))) 1 2000 Q
  have c3 : Cnt (rowI μ2 10 0 (up (mI μ2 10 0) 2 (Int32.ofInt (-1)))) (ord 10 0 + 2) := c2.I
  have r3 : RO 0 (rowI μ2 10 0 (up (mI μ2 10 0) 2 (Int32.ofInt (-1)))) (ord 10 0 + 2) [] := r2.I
  have k3 : Kp 10 0 μ (rowI μ2 10 0 (up (mI μ2 10 0) 2 (Int32.ofInt (-1)))) := k2.I _
  have xa_3 : mI (rowI μ2 10 0 (up (mI μ2 10 0) 2 (Int32.ofInt (-1)))) 10 0 1 = nI 0 := by rw [mI_rowI, if_pos ⟨rfl, rfl⟩, up_n _ _ (by omega)]; exact xa_2
  have xb_3 : mI (rowI μ2 10 0 (up (mI μ2 10 0) 2 (Int32.ofInt (-1)))) 10 0 2 = (-1 : Int32) := by rw [mI_rowI, if_pos ⟨rfl, rfl⟩]; exact up_s _ _ _
  generalize (rowI μ2 10 0 (up (mI μ2 10 0) 2 (Int32.ofInt (-1)))) = μ3 at *
  have m3 := (c3.new e1).1
  have cc3 := (c3.new e1).2
  refine rn_ok ckx_90 (cut := cux_90) 1 _ _ _ _ _ _ (And.intro (by decide) (And.intro (by decide) (And.intro (by decide) (And.intro (by decide) (And.intro (c3.due e1 (fun _ => (lv0 _ _))) (And.intro (by decide) (And.intro (by decide) (And.intro (by decide) (And.intro (by decide) (And.intro rfl (And.intro (by decide) (And.intro (by decide) (And.intro (by decide) (And.intro (Nat.lt_of_le_of_lt (Nat.le_of_eq m3) (cc3.old e1 (by omega))) (And.intro (And.intro (Nat.le_of_ble_eq_true rfl) (Nat.le_of_ble_eq_true rfl)) (And.intro (by decide) (And.intro (by decide) ?_)))))))))))))))))
  rw [m3]
  refine kc_3 (i := 0) e1 cc3 (r3.new c3 e1 p1) (fun μ103 c103 r103 k103 => ?_)
  refine (And.intro (by decide) (And.intro (by decide) (And.intro rfl (And.intro (c103.old hN (by omega)) (And.intro rfl (And.intro (Or.inl rfl) (And.intro (c103.old e1 (by omega)) ?_)))))))
  show Wp 0 1 90 34 [(0, vr 10 0)] [] (rowR μ103 10 0 (up (mR μ103 10 0) 3 (0))) 14 2502 Q
  have c4 : Cnt (rowR μ103 10 0 (up (mR μ103 10 0) 3 (0))) (ord 10 0 + 15) := c103.R
  have r4 : RO 0 (rowR μ103 10 0 (up (mR μ103 10 0) 3 (0))) (ord 10 0 + 15) [] := RO.z ((r103).putO (v := (0)) rfl)
  have k4 : Kp 10 0 μ (rowR μ103 10 0 (up (mR μ103 10 0) 3 (0))) := (((k3.new 18).call k103 (hc.young e1 (by omega)))).R _
  have xa_4 : mI (rowR μ103 10 0 (up (mR μ103 10 0) 3 (0))) 10 0 1 = nI 0 := by rw [mI_rowR]; rw [(k103.2 10 0 (cc3.old hN (by omega)) (by omega)).1]; rw [mI_newC, if_neg (by omega)]; exact xa_3
  have xb_4 : mI (rowR μ103 10 0 (up (mR μ103 10 0) 3 (0))) 10 0 2 = (-1 : Int32) := by rw [mI_rowR]; rw [(k103.2 10 0 (cc3.old hN (by omega)) (by omega)).1]; rw [mI_newC, if_neg (by omega)]; exact xb_3
  have xp_4 : mR (rowR μ103 10 0 (up (mR μ103 10 0) 3 (0))) 10 0 3 = 0 := by rw [mR_rowR, if_pos ⟨rfl, rfl⟩]; exact up_s _ _ _
  generalize (rowR μ103 10 0 (up (mR μ103 10 0) 3 (0))) = μ4 at *
  have m4 := (c4.new e2).1
  have cc4 := (c4.new e2).2
  refine rn_ok ckx_90 (cut := cux_90) 1 _ _ _ _ _ _ (And.intro (by decide) (And.intro (by decide) (And.intro (by decide) (And.intro (by decide) (And.intro (c4.due e2 (fun _ => (lv0 _ _))) (And.intro (by decide) (And.intro (by decide) (And.intro (by decide) (And.intro (by decide) (And.intro rfl (And.intro (by decide) (And.intro (by decide) (And.intro (by decide) (And.intro (Nat.lt_of_le_of_lt (Nat.le_of_eq m4) (cc4.old e2 (by omega))) (And.intro (And.intro (Nat.le_of_ble_eq_true rfl) (Nat.le_of_ble_eq_true rfl)) (And.intro (by decide) (And.intro (by decide) ?_)))))))))))))))))
  rw [m4]
  refine kc_3 (i := 1) e2 cc4 (r4.new c4 e2 p2) (fun μ104 c104 r104 k104 => ?_)
  refine (And.intro (by decide) (And.intro (by decide) (And.intro rfl (And.intro (c104.old hN (by omega)) (And.intro rfl (And.intro (Or.inl rfl) (And.intro (c104.old e2 (by omega)) ?_)))))))
  show Wp 0 1 90 45 [(0, vr 10 0)] [] (rowR μ104 10 0 (up (mR μ104 10 0) 4 (1))) 27 3004 Q
  have c5 : Cnt (rowR μ104 10 0 (up (mR μ104 10 0) 4 (1))) (ord 10 0 + 28) := c104.R
  have r5 : RO 0 (rowR μ104 10 0 (up (mR μ104 10 0) 4 (1))) (ord 10 0 + 28) [] := RO.z ((r104).putO (v := (1)) rfl)
  have k5 : Kp 10 0 μ (rowR μ104 10 0 (up (mR μ104 10 0) 4 (1))) := (((k4.new 18).call k104 (hc.young e2 (by omega)))).R _
  have xa_5 : mI (rowR μ104 10 0 (up (mR μ104 10 0) 4 (1))) 10 0 1 = nI 0 := by rw [mI_rowR]; rw [(k104.2 10 0 (cc4.old hN (by omega)) (by omega)).1]; rw [mI_newC, if_neg (by omega)]; exact xa_4
  have xb_5 : mI (rowR μ104 10 0 (up (mR μ104 10 0) 4 (1))) 10 0 2 = (-1 : Int32) := by rw [mI_rowR]; rw [(k104.2 10 0 (cc4.old hN (by omega)) (by omega)).1]; rw [mI_newC, if_neg (by omega)]; exact xb_4
  have xp_5 : mR (rowR μ104 10 0 (up (mR μ104 10 0) 4 (1))) 10 0 3 = 0 := by rw [mR_rowR, if_pos ⟨rfl, rfl⟩, up_n _ _ (by omega)]; rw [(k104.2 10 0 (cc4.old hN (by omega)) (by omega)).2.2]; rw [mR_newC, if_neg (by omega)]; exact xp_4
  have xq_5 : mR (rowR μ104 10 0 (up (mR μ104 10 0) 4 (1))) 10 0 4 = 1 := by rw [mR_rowR, if_pos ⟨rfl, rfl⟩]; exact up_s _ _ _
  generalize (rowR μ104 10 0 (up (mR μ104 10 0) 4 (1))) = μ5 at *
  have m5 := (c5.new e3).1
  have cc5 := (c5.new e3).2
  have rf5 : refI 0 (newC μ5 12) 10 0 4 = 1 := (refI_d rfl).trans (by rw [mR_newC, if_neg (by omega)]; exact xq_5)
  refine rn_ok ckx_90 (cut := cux_90) 1 _ _ _ _ _ _ (And.intro (by decide) (And.intro (by decide) (And.intro (by decide) (And.intro (by decide) (And.intro (c5.due e3 (fun _ => (lv0 _ _))) (And.intro (by decide) (And.intro (by decide) (And.intro (by decide) (And.intro (by decide) (And.intro rfl (And.intro (by decide) (And.intro (by decide) (And.intro (by decide) (And.intro (by decide) (And.intro rfl (And.intro (cc5.old hN (by omega)) (Exists.intro 1 (And.intro rf5 (And.intro (by decide) (And.intro (by decide) (And.intro (by decide) (And.intro (Nat.lt_of_le_of_lt (Nat.le_of_eq m5) (cc5.old e3 (by omega))) (And.intro (And.intro (Nat.le_of_ble_eq_true rfl) (Nat.le_of_ble_eq_true rfl)) (And.intro (by decide) (And.intro (by decide) ?_)))))))))))))))))))))))))
  rw [m5]
  refine kc_9 (i := 0) e3 cc5 (r5.new c5 e3 p3) (q := 1) e2 (by omega) (fun μ105 c105 r105 k105 => ?_)
  refine (And.intro (by decide) (And.intro (by decide) (And.intro rfl (And.intro (c105.old hN (by omega)) (And.intro rfl (And.intro (Or.inr (by decide)) (And.intro (c105.old e3 (by omega)) ?_)))))))
  show Wp 0 1 90 60 [(0, vr 10 0)] [] (rowR μ105 10 0 (up (mR μ105 10 0) 5 (0))) 33 4244 Q
  have c6 : Cnt (rowR μ105 10 0 (up (mR μ105 10 0) 5 (0))) (ord 10 0 + 34) := c105.R
  have r6 : RO 0 (rowR μ105 10 0 (up (mR μ105 10 0) 5 (0))) (ord 10 0 + 34) [] := (r105).put rfl
  have k6 : Kp 10 0 μ (rowR μ105 10 0 (up (mR μ105 10 0) 5 (0))) := (((k5.new 12).call k105 (hc.young e3 (by omega)))).R _
  have xa_6 : mI (rowR μ105 10 0 (up (mR μ105 10 0) 5 (0))) 10 0 1 = nI 0 := by rw [mI_rowR]; rw [(k105.2 10 0 (cc5.old hN (by omega)) (by omega)).1]; rw [mI_newC, if_neg (by omega)]; exact xa_5
  have xb_6 : mI (rowR μ105 10 0 (up (mR μ105 10 0) 5 (0))) 10 0 2 = (-1 : Int32) := by rw [mI_rowR]; rw [(k105.2 10 0 (cc5.old hN (by omega)) (by omega)).1]; rw [mI_newC, if_neg (by omega)]; exact xb_5
  have xp_6 : mR (rowR μ105 10 0 (up (mR μ105 10 0) 5 (0))) 10 0 3 = 0 := by rw [mR_rowR, if_pos ⟨rfl, rfl⟩, up_n _ _ (by omega)]; rw [(k105.2 10 0 (cc5.old hN (by omega)) (by omega)).2.2]; rw [mR_newC, if_neg (by omega)]; exact xp_5
  have xq_6 : mR (rowR μ105 10 0 (up (mR μ105 10 0) 5 (0))) 10 0 4 = 1 := by rw [mR_rowR, if_pos ⟨rfl, rfl⟩, up_n _ _ (by omega)]; rw [(k105.2 10 0 (cc5.old hN (by omega)) (by omega)).2.2]; rw [mR_newC, if_neg (by omega)]; exact xq_5
  generalize (rowR μ105 10 0 (up (mR μ105 10 0) 5 (0))) = μ6 at *
  have m6 := (c6.new e4).1
  have cc6 := (c6.new e4).2
  have rf6 : refI 0 (newC μ6 31) 10 0 3 = 0 := (refI_d rfl).trans (by rw [mR_newC, if_neg (by omega)]; exact xp_6)
  refine rn_ok ckx_90 (cut := cux_90) 1 _ _ _ _ _ _ (And.intro (by decide) (And.intro (by decide) (And.intro (by decide) (And.intro (by decide) (And.intro (c6.due e4 (fun _ => (lv0 _ _))) (And.intro (by decide) (And.intro (by decide) (And.intro (by decide) (And.intro (by decide) (And.intro rfl (And.intro (by decide) (And.intro (by decide) (And.intro (by decide) (And.intro (by decide) (And.intro rfl (And.intro (cc6.old hN (by omega)) (Exists.intro 0 (And.intro rf6 (And.intro (by decide) (And.intro (by decide) (And.intro (by decide) (And.intro (Nat.lt_of_le_of_lt (Nat.le_of_eq m6) (cc6.old e4 (by omega))) (And.intro (And.intro (Nat.le_of_ble_eq_true rfl) (Nat.le_of_ble_eq_true rfl)) (And.intro (by decide) (And.intro (by decide) ?_)))))))))))))))))))))))))
  rw [m6]
  refine kc_64 (i := 0) e4 cc6 (r6.new c6 e4 p4) (q := 0) e1 (by omega) (fun μ106 c106 r106 k106 => ?_)
  refine (And.intro (by decide) (And.intro (by decide) (And.intro rfl (And.intro (c106.old hN (by omega)) (And.intro rfl (And.intro (Or.inr (by decide)) (And.intro (c106.old e4 (by omega)) ?_)))))))
  show Wp 0 1 90 75 [(0, vr 10 0)] [] (rowR μ106 10 0 (up (mR μ106 10 0) 6 (0))) 54 4772 Q
  have c7 : Cnt (rowR μ106 10 0 (up (mR μ106 10 0) 6 (0))) (ord 10 0 + 55) := c106.R
  have r7 : RO 0 (rowR μ106 10 0 (up (mR μ106 10 0) 6 (0))) (ord 10 0 + 55) [] := (r106).put rfl
  have k7 : Kp 10 0 μ (rowR μ106 10 0 (up (mR μ106 10 0) 6 (0))) := (((k6.new 31).call k106 (hc.young e4 (by omega)))).R _
  have xa_7 : mI (rowR μ106 10 0 (up (mR μ106 10 0) 6 (0))) 10 0 1 = nI 0 := by rw [mI_rowR]; rw [(k106.2 10 0 (cc6.old hN (by omega)) (by omega)).1]; rw [mI_newC, if_neg (by omega)]; exact xa_6
  have xb_7 : mI (rowR μ106 10 0 (up (mR μ106 10 0) 6 (0))) 10 0 2 = (-1 : Int32) := by rw [mI_rowR]; rw [(k106.2 10 0 (cc6.old hN (by omega)) (by omega)).1]; rw [mI_newC, if_neg (by omega)]; exact xb_6
  have xp_7 : mR (rowR μ106 10 0 (up (mR μ106 10 0) 6 (0))) 10 0 3 = 0 := by rw [mR_rowR, if_pos ⟨rfl, rfl⟩, up_n _ _ (by omega)]; rw [(k106.2 10 0 (cc6.old hN (by omega)) (by omega)).2.2]; rw [mR_newC, if_neg (by omega)]; exact xp_6
  have xq_7 : mR (rowR μ106 10 0 (up (mR μ106 10 0) 6 (0))) 10 0 4 = 1 := by rw [mR_rowR, if_pos ⟨rfl, rfl⟩, up_n _ _ (by omega)]; rw [(k106.2 10 0 (cc6.old hN (by omega)) (by omega)).2.2]; rw [mR_newC, if_neg (by omega)]; exact xq_6
  generalize (rowR μ106 10 0 (up (mR μ106 10 0) 6 (0))) = μ7 at *
  have m7 := (c7.new e5).1
  have cc7 := (c7.new e5).2
  have rf7 : refI 0 (newC μ7 31) 10 0 3 = 0 := (refI_d rfl).trans (by rw [mR_newC, if_neg (by omega)]; exact xp_7)
  refine rn_ok ckx_90 (cut := cux_90) 1 _ _ _ _ _ _ (And.intro (by decide) (And.intro (by decide) (And.intro (by decide) (And.intro (by decide) (And.intro (c7.due e5 (fun _ => (lv0 _ _))) (And.intro (by decide) (And.intro (by decide) (And.intro (by decide) (And.intro (by decide) (And.intro rfl (And.intro (by decide) (And.intro (by decide) (And.intro (by decide) (And.intro (by decide) (And.intro rfl (And.intro (cc7.old hN (by omega)) (Exists.intro 0 (And.intro rf7 (And.intro (by decide) (And.intro (by decide) (And.intro (by decide) (And.intro (Nat.lt_of_le_of_lt (Nat.le_of_eq m7) (cc7.old e5 (by omega))) (And.intro (And.intro (Nat.le_of_ble_eq_true rfl) (Nat.le_of_ble_eq_true rfl)) (And.intro (by decide) (And.intro (by decide) ?_)))))))))))))))))))))))))
  rw [m7]
  refine kc_64 (i := 1) e5 cc7 (r7.new c7 e5 p5) (q := 0) e1 (by omega) (fun μ107 c107 r107 k107 => ?_)
  refine (And.intro (by decide) (And.intro (by decide) (And.intro rfl (And.intro (c107.old hN (by omega)) (And.intro rfl (And.intro (Or.inr (by decide)) (And.intro (c107.old e5 (by omega)) ?_)))))))
  show Wp 0 1 90 90 [(0, vr 10 0)] [] (rowR μ107 10 0 (up (mR μ107 10 0) 7 (1))) 75 5300 Q
  have c8 : Cnt (rowR μ107 10 0 (up (mR μ107 10 0) 7 (1))) (ord 10 0 + 76) := c107.R
  have r8 : RO 0 (rowR μ107 10 0 (up (mR μ107 10 0) 7 (1))) (ord 10 0 + 76) [] := (r107).put rfl
  have k8 : Kp 10 0 μ (rowR μ107 10 0 (up (mR μ107 10 0) 7 (1))) := (((k7.new 31).call k107 (hc.young e5 (by omega)))).R _
  have xa_8 : mI (rowR μ107 10 0 (up (mR μ107 10 0) 7 (1))) 10 0 1 = nI 0 := by rw [mI_rowR]; rw [(k107.2 10 0 (cc7.old hN (by omega)) (by omega)).1]; rw [mI_newC, if_neg (by omega)]; exact xa_7
  have xb_8 : mI (rowR μ107 10 0 (up (mR μ107 10 0) 7 (1))) 10 0 2 = (-1 : Int32) := by rw [mI_rowR]; rw [(k107.2 10 0 (cc7.old hN (by omega)) (by omega)).1]; rw [mI_newC, if_neg (by omega)]; exact xb_7
  have xp_8 : mR (rowR μ107 10 0 (up (mR μ107 10 0) 7 (1))) 10 0 3 = 0 := by rw [mR_rowR, if_pos ⟨rfl, rfl⟩, up_n _ _ (by omega)]; rw [(k107.2 10 0 (cc7.old hN (by omega)) (by omega)).2.2]; rw [mR_newC, if_neg (by omega)]; exact xp_7
  have xq_8 : mR (rowR μ107 10 0 (up (mR μ107 10 0) 7 (1))) 10 0 4 = 1 := by rw [mR_rowR, if_pos ⟨rfl, rfl⟩, up_n _ _ (by omega)]; rw [(k107.2 10 0 (cc7.old hN (by omega)) (by omega)).2.2]; rw [mR_newC, if_neg (by omega)]; exact xq_7
  generalize (rowR μ107 10 0 (up (mR μ107 10 0) 7 (1))) = μ8 at *
  have m8 := (c8.new e6).1
  have cc8 := (c8.new e6).2
  refine rn_ok ckx_90 (cut := cux_90) 1 _ _ _ _ _ _ (And.intro (by decide) (And.intro (by decide) (And.intro (by decide) (And.intro (by decide) (And.intro (c8.due e6 (fun _ => (lv0 _ _))) (And.intro (by decide) (And.intro (by decide) (And.intro (by decide) (And.intro (by decide) (And.intro rfl (And.intro (by decide) (And.intro (by decide) (And.intro (by decide) (And.intro (Nat.lt_of_le_of_lt (Nat.le_of_eq m8) (cc8.old e6 (by omega))) (And.intro (And.intro (Nat.le_of_ble_eq_true rfl) (Nat.le_of_ble_eq_true rfl)) (And.intro (by decide) (And.intro (by decide) ?_)))))))))))))))))
  rw [m8]
  refine kc_0 (i := 0) e6 (by decide) cc8 (r8.new c8 e6 p6) (fun μ108 c108 r108 k108 z108 => ?_)
  refine (And.intro (by decide) (And.intro (by decide) (And.intro rfl (And.intro (c108.old hN (by omega)) (And.intro rfl (And.intro (Or.inr (by decide)) (And.intro (c108.old e6 (by omega)) ?_)))))))
  show Wp 0 1 90 101 [(0, vr 10 0)] [] (rowR μ108 10 0 (up (mR μ108 10 0) 8 (0))) 277 6823 Q
  have c9 : Cnt (rowR μ108 10 0 (up (mR μ108 10 0) 8 (0))) (ord 10 0 + 278) := c108.R
  have r9 : RO 0 (rowR μ108 10 0 (up (mR μ108 10 0) 8 (0))) (ord 10 0 + 278) [] := (r108).put rfl
  have k9 : Kp 10 0 μ (rowR μ108 10 0 (up (mR μ108 10 0) 8 (0))) := (((k8.new 44).call k108 (hc.young e6 (by omega)))).R _
  have xa_9 : mI (rowR μ108 10 0 (up (mR μ108 10 0) 8 (0))) 10 0 1 = nI 0 := by rw [mI_rowR]; rw [(k108.2 10 0 (cc8.old hN (by omega)) (by omega)).1]; rw [mI_newC, if_neg (by omega)]; exact xa_8
  have xb_9 : mI (rowR μ108 10 0 (up (mR μ108 10 0) 8 (0))) 10 0 2 = (-1 : Int32) := by rw [mI_rowR]; rw [(k108.2 10 0 (cc8.old hN (by omega)) (by omega)).1]; rw [mI_newC, if_neg (by omega)]; exact xb_8
  have xp_9 : mR (rowR μ108 10 0 (up (mR μ108 10 0) 8 (0))) 10 0 3 = 0 := by rw [mR_rowR, if_pos ⟨rfl, rfl⟩, up_n _ _ (by omega)]; rw [(k108.2 10 0 (cc8.old hN (by omega)) (by omega)).2.2]; rw [mR_newC, if_neg (by omega)]; exact xp_8
  have xq_9 : mR (rowR μ108 10 0 (up (mR μ108 10 0) 8 (0))) 10 0 4 = 1 := by rw [mR_rowR, if_pos ⟨rfl, rfl⟩, up_n _ _ (by omega)]; rw [(k108.2 10 0 (cc8.old hN (by omega)) (by omega)).2.2]; rw [mR_newC, if_neg (by omega)]; exact xq_8
  have xz_9 : mI (rowR μ108 10 0 (up (mR μ108 10 0) 8 (0))) 44 0 1 = nI 0 := by rw [mI_rowR]; exact z108
  generalize (rowR μ108 10 0 (up (mR μ108 10 0) 8 (0))) = μ9 at *
  have m9 := (c9.new e7).1
  have cc9 := (c9.new e7).2
  refine rn_ok ckx_90 (cut := cux_90) 1 _ _ _ _ _ _ (And.intro (by decide) (And.intro (by decide) (And.intro (by decide) (And.intro (by decide) (And.intro (by decide) (And.intro (by decide) (And.intro (by decide) (And.intro (by decide) (And.intro (c9.due e7 (fun _ => (lv0 _ _))) (And.intro (by decide) (And.intro (by decide) (And.intro (by decide) (And.intro (by decide) (And.intro rfl (And.intro (cc9.old hN (by omega)) (And.intro rfl (And.intro (Or.inr (by decide)) (And.intro (Nat.lt_of_le_of_lt (Nat.le_of_eq m9) (cc9.old e7 (by omega))) ?_))))))))))))))))))
  show Wp 0 1 90 109 [(0, vr 10 0)] [] (rowR (newC μ9 46) 10 0 (up (mR (newC μ9 46) 10 0) 9 (mC μ9 46))) 278 6826 Q
  have c10 : Cnt (rowR (newC μ9 46) 10 0 (up (mR (newC μ9 46) 10 0) 9 (mC μ9 46))) (ord 10 0 + 279) := cc9.R
  have r10 : RO 0 (rowR (newC μ9 46) 10 0 (up (mR (newC μ9 46) 10 0) 9 (mC μ9 46))) (ord 10 0 + 279) [] := ((r9.new c9 e7 p7)).put m9
  have k10 : Kp 10 0 μ (rowR (newC μ9 46) 10 0 (up (mR (newC μ9 46) 10 0) 9 (mC μ9 46))) := ((k9.new 46)).R _
  have xa_10 : mI (rowR (newC μ9 46) 10 0 (up (mR (newC μ9 46) 10 0) 9 (mC μ9 46))) 10 0 1 = nI 0 := by rw [mI_rowR]; rw [mI_newC, if_neg (by omega)]; exact xa_9
  have xb_10 : mI (rowR (newC μ9 46) 10 0 (up (mR (newC μ9 46) 10 0) 9 (mC μ9 46))) 10 0 2 = (-1 : Int32) := by rw [mI_rowR]; rw [mI_newC, if_neg (by omega)]; exact xb_9
  have xp_10 : mR (rowR (newC μ9 46) 10 0 (up (mR (newC μ9 46) 10 0) 9 (mC μ9 46))) 10 0 3 = 0 := by rw [mR_rowR, if_pos ⟨rfl, rfl⟩, up_n _ _ (by omega)]; rw [mR_newC, if_neg (by omega)]; exact xp_9
  have xq_10 : mR (rowR (newC μ9 46) 10 0 (up (mR (newC μ9 46) 10 0) 9 (mC μ9 46))) 10 0 4 = 1 := by rw [mR_rowR, if_pos ⟨rfl, rfl⟩, up_n _ _ (by omega)]; rw [mR_newC, if_neg (by omega)]; exact xq_9
  have xz_10 : mI (rowR (newC μ9 46) 10 0 (up (mR (newC μ9 46) 10 0) 9 (mC μ9 46))) 44 0 1 = nI 0 := by rw [mI_rowR]; rw [mI_newC, if_neg (by omega)]; exact xz_9
  generalize (rowR (newC μ9 46) 10 0 (up (mR (newC μ9 46) 10 0) 9 (mC μ9 46))) = μ10 at *
  have m10 := (c10.new e8).1
  have cc10 := (c10.new e8).2
  refine rn_ok ckx_90 (cut := cux_90) 1 _ _ _ _ _ _ (And.intro (by decide) (And.intro (by decide) (And.intro (by decide) (And.intro (by decide) (And.intro (by decide) (And.intro (by decide) (And.intro (by decide) (And.intro (by decide) (And.intro (c10.due e8 (fun _ => (lv0 _ _))) (And.intro (by decide) (And.intro (by decide) (And.intro (by decide) (And.intro (by decide) (And.intro rfl (And.intro (cc10.old hN (by omega)) (And.intro rfl (And.intro (Or.inr (by decide)) (And.intro (Nat.lt_of_le_of_lt (Nat.le_of_eq m10) (cc10.old e8 (by omega))) ?_))))))))))))))))))
  show Wp 0 1 90 116 [(0, vr 10 0)] [] (rowR (newC μ10 47) 10 0 (up (mR (newC μ10 47) 10 0) 10 (mC μ10 47))) 279 6829 Q
  have c11 : Cnt (rowR (newC μ10 47) 10 0 (up (mR (newC μ10 47) 10 0) 10 (mC μ10 47))) (ord 10 0 + 280) := cc10.R
  have r11 : RO 0 (rowR (newC μ10 47) 10 0 (up (mR (newC μ10 47) 10 0) 10 (mC μ10 47))) (ord 10 0 + 280) [] := ((r10.new c10 e8 p8)).put m10
  have k11 : Kp 10 0 μ (rowR (newC μ10 47) 10 0 (up (mR (newC μ10 47) 10 0) 10 (mC μ10 47))) := ((k10.new 47)).R _
  have xa_11 : mI (rowR (newC μ10 47) 10 0 (up (mR (newC μ10 47) 10 0) 10 (mC μ10 47))) 10 0 1 = nI 0 := by rw [mI_rowR]; rw [mI_newC, if_neg (by omega)]; exact xa_10
  have xb_11 : mI (rowR (newC μ10 47) 10 0 (up (mR (newC μ10 47) 10 0) 10 (mC μ10 47))) 10 0 2 = (-1 : Int32) := by rw [mI_rowR]; rw [mI_newC, if_neg (by omega)]; exact xb_10
  have xp_11 : mR (rowR (newC μ10 47) 10 0 (up (mR (newC μ10 47) 10 0) 10 (mC μ10 47))) 10 0 3 = 0 := by rw [mR_rowR, if_pos ⟨rfl, rfl⟩, up_n _ _ (by omega)]; rw [mR_newC, if_neg (by omega)]; exact xp_10
  have xq_11 : mR (rowR (newC μ10 47) 10 0 (up (mR (newC μ10 47) 10 0) 10 (mC μ10 47))) 10 0 4 = 1 := by rw [mR_rowR, if_pos ⟨rfl, rfl⟩, up_n _ _ (by omega)]; rw [mR_newC, if_neg (by omega)]; exact xq_10
  have xz_11 : mI (rowR (newC μ10 47) 10 0 (up (mR (newC μ10 47) 10 0) 10 (mC μ10 47))) 44 0 1 = nI 0 := by rw [mI_rowR]; rw [mI_newC, if_neg (by omega)]; exact xz_10
  generalize (rowR (newC μ10 47) 10 0 (up (mR (newC μ10 47) 10 0) 10 (mC μ10 47))) = μ11 at *
  have m11 := (c11.new e9).1
  have cc11 := (c11.new e9).2
  refine rn_ok ckx_90 (cut := cux_90) 1 _ _ _ _ _ _ (And.intro (by decide) (And.intro (by decide) (And.intro (by decide) (And.intro (by decide) (And.intro (c11.due e9 (fun _ => (lv0 _ _))) (And.intro (by decide) (And.intro (by decide) (And.intro (by decide) (And.intro (by decide) (And.intro rfl (And.intro (by decide) (And.intro (by decide) (And.intro (by decide) (And.intro (Nat.lt_of_le_of_lt (Nat.le_of_eq m11) (cc11.old e9 (by omega))) (And.intro (And.intro (Nat.le_of_ble_eq_true rfl) (Nat.le_of_ble_eq_true rfl)) (And.intro (by decide) (And.intro (by decide) ?_)))))))))))))))))
  rw [m11]
  refine kc_39 (i := 0) e9 cc11 (r11.new c11 e9 p9) (fun μ111 c111 r111 k111 => ?_)
  refine (And.intro (by decide) (And.intro (by decide) (And.intro rfl (And.intro (c111.old hN (by omega)) (And.intro rfl (And.intro (Or.inr (by decide)) (And.intro (c111.old e9 (by omega)) ?_)))))))
  show Wp 0 1 90 127 [(0, vr 10 0)] [] (rowR μ111 10 0 (up (mR μ111 10 0) 11 (0))) 283 6893 Q
  have c12 : Cnt (rowR μ111 10 0 (up (mR μ111 10 0) 11 (0))) (ord 10 0 + 284) := c111.R
  have r12 : RO 0 (rowR μ111 10 0 (up (mR μ111 10 0) 11 (0))) (ord 10 0 + 284) [] := (r111).put rfl
  have k12 : Kp 10 0 μ (rowR μ111 10 0 (up (mR μ111 10 0) 11 (0))) := (((k11.new 48).call k111 (hc.young e9 (by omega)))).R _
  have xa_12 : mI (rowR μ111 10 0 (up (mR μ111 10 0) 11 (0))) 10 0 1 = nI 0 := by rw [mI_rowR]; rw [(k111.2 10 0 (cc11.old hN (by omega)) (by omega)).1]; rw [mI_newC, if_neg (by omega)]; exact xa_11
  have xb_12 : mI (rowR μ111 10 0 (up (mR μ111 10 0) 11 (0))) 10 0 2 = (-1 : Int32) := by rw [mI_rowR]; rw [(k111.2 10 0 (cc11.old hN (by omega)) (by omega)).1]; rw [mI_newC, if_neg (by omega)]; exact xb_11
  have xp_12 : mR (rowR μ111 10 0 (up (mR μ111 10 0) 11 (0))) 10 0 3 = 0 := by rw [mR_rowR, if_pos ⟨rfl, rfl⟩, up_n _ _ (by omega)]; rw [(k111.2 10 0 (cc11.old hN (by omega)) (by omega)).2.2]; rw [mR_newC, if_neg (by omega)]; exact xp_11
  have xq_12 : mR (rowR μ111 10 0 (up (mR μ111 10 0) 11 (0))) 10 0 4 = 1 := by rw [mR_rowR, if_pos ⟨rfl, rfl⟩, up_n _ _ (by omega)]; rw [(k111.2 10 0 (cc11.old hN (by omega)) (by omega)).2.2]; rw [mR_newC, if_neg (by omega)]; exact xq_11
  have xz_12 : mI (rowR μ111 10 0 (up (mR μ111 10 0) 11 (0))) 44 0 1 = nI 0 := by rw [mI_rowR]; rw [(k111.2 44 0 (cc11.old eX44 (by omega)) (by omega)).1]; rw [mI_newC, if_neg (by omega)]; exact xz_11
  generalize (rowR μ111 10 0 (up (mR μ111 10 0) 11 (0))) = μ12 at *
  have m12 := (c12.new e10).1
  have w12 : mC μ12 53 = 0 := c12.row0 e10 (f11 0 (by omega)).1 (by decide) (by decide)
  have x12 := r12.multi c12 e10 p10 (show 10 ≤ 53 by decide) (by decide) w12 (by decide) (n := 24) f11
  have cc12 := x12.1
  refine rn_ok ckx_90 (cut := cux_90) 1 _ _ _ _ _ _ (And.intro (by decide) (And.intro (by decide) (And.intro (by decide) (And.intro (by decide) (And.intro (by decide) (And.intro (by decide) (And.intro (by decide) (And.intro (by decide) (And.intro (by decide) (And.intro (by decide) (And.intro (by decide) (And.intro (by decide) (And.intro (c12.due e10 (fun _ => (lv0 _ _))) (And.intro (c12.dueM e10 w12 (by decide) (by decide) (by decide) (fun j hj => (f11 j hj).1) (show 0 + 24 ≤ 24 by omega)) (And.intro (by decide) (And.intro (by decide) (And.intro (by decide) (And.intro (by decide) (And.intro rfl (And.intro (cc12.old hN (by omega)) (And.intro rfl (And.intro (Or.inr (by decide)) (And.intro (Nat.lt_of_le_of_lt (Nat.le_of_eq m12) (cc12.old e10 (by omega))) ?_)))))))))))))))))))))))
  show Wp 0 1 90 139 [(0, vr 10 0)] [] (rowR (multiC μ12 52 53 24) 10 0 (up (mR (multiC μ12 52 53 24) 10 0) 12 (mC μ12 52))) 308 7061 Q
  have c13 : Cnt (rowR (multiC μ12 52 53 24) 10 0 (up (mR (multiC μ12 52 53 24) 10 0) 12 (mC μ12 52))) (ord 10 0 + 309) := cc12.R
  have r13 : RO 0 (rowR (multiC μ12 52 53 24) 10 0 (up (mR (multiC μ12 52 53 24) 10 0) 12 (mC μ12 52))) (ord 10 0 + 309) [] := (x12.2).put m12
  have k13 : Kp 10 0 μ (rowR (multiC μ12 52 53 24) 10 0 (up (mR (multiC μ12 52 53 24) 10 0) 12 (mC μ12 52))) := ((k12.multi (a := 52) (b := 53) (n := 24) (by decide) (by decide))).R _
  have xa_13 : mI (rowR (multiC μ12 52 53 24) 10 0 (up (mR (multiC μ12 52 53 24) 10 0) 12 (mC μ12 52))) 10 0 1 = nI 0 := by rw [mI_rowR]; rw [(multi_o μ12 52 53 24 (by decide) (by decide) (by omega) (by omega)).1]; exact xa_12
  have xb_13 : mI (rowR (multiC μ12 52 53 24) 10 0 (up (mR (multiC μ12 52 53 24) 10 0) 12 (mC μ12 52))) 10 0 2 = (-1 : Int32) := by rw [mI_rowR]; rw [(multi_o μ12 52 53 24 (by decide) (by decide) (by omega) (by omega)).1]; exact xb_12
  have xp_13 : mR (rowR (multiC μ12 52 53 24) 10 0 (up (mR (multiC μ12 52 53 24) 10 0) 12 (mC μ12 52))) 10 0 3 = 0 := by rw [mR_rowR, if_pos ⟨rfl, rfl⟩, up_n _ _ (by omega)]; rw [(multi_o μ12 52 53 24 (by decide) (by decide) (by omega) (by omega)).2.2]; exact xp_12
  have xq_13 : mR (rowR (multiC μ12 52 53 24) 10 0 (up (mR (multiC μ12 52 53 24) 10 0) 12 (mC μ12 52))) 10 0 4 = 1 := by rw [mR_rowR, if_pos ⟨rfl, rfl⟩, up_n _ _ (by omega)]; rw [(multi_o μ12 52 53 24 (by decide) (by decide) (by omega) (by omega)).2.2]; exact xq_12
  have xz_13 : mI (rowR (multiC μ12 52 53 24) 10 0 (up (mR (multiC μ12 52 53 24) 10 0) 12 (mC μ12 52))) 44 0 1 = nI 0 := by rw [mI_rowR]; rw [(multi_o μ12 52 53 24 (by decide) (by decide) (by omega) (by omega)).1]; exact xz_12
  generalize (rowR (multiC μ12 52 53 24) 10 0 (up (mR (multiC μ12 52 53 24) 10 0) 12 (mC μ12 52))) = μ13 at *
  have m13 := (c13.new e12).1
  have cc13 := (c13.new e12).2
  refine rn_ok ckx_90 (cut := cux_90) 1 _ _ _ _ _ _ (And.intro (by decide) (And.intro (by decide) (And.intro (by decide) (And.intro (by decide) (And.intro (by decide) (And.intro (by decide) (And.intro (by decide) (And.intro (by decide) (And.intro (c13.due e12 (fun _ => (lv0 _ _))) (And.intro (by decide) (And.intro (by decide) (And.intro (by decide) (And.intro (by decide) (And.intro rfl (And.intro (cc13.old hN (by omega)) (And.intro rfl (And.intro (Or.inr (by decide)) (And.intro (Nat.lt_of_le_of_lt (Nat.le_of_eq m13) (cc13.old e12 (by omega))) ?_))))))))))))))))))
  show Wp 0 1 90 146 [(0, vr 10 0)] [] (rowR (newC μ13 54) 10 0 (up (mR (newC μ13 54) 10 0) 13 (mC μ13 54))) 309 7064 Q
  have c14 : Cnt (rowR (newC μ13 54) 10 0 (up (mR (newC μ13 54) 10 0) 13 (mC μ13 54))) (ord 10 0 + 310) := cc13.R
  have r14 : RO 0 (rowR (newC μ13 54) 10 0 (up (mR (newC μ13 54) 10 0) 13 (mC μ13 54))) (ord 10 0 + 310) [] := ((r13.new c13 e12 p12)).put m13
  have k14 : Kp 10 0 μ (rowR (newC μ13 54) 10 0 (up (mR (newC μ13 54) 10 0) 13 (mC μ13 54))) := ((k13.new 54)).R _
  have xa_14 : mI (rowR (newC μ13 54) 10 0 (up (mR (newC μ13 54) 10 0) 13 (mC μ13 54))) 10 0 1 = nI 0 := by rw [mI_rowR]; rw [mI_newC, if_neg (by omega)]; exact xa_13
  have xb_14 : mI (rowR (newC μ13 54) 10 0 (up (mR (newC μ13 54) 10 0) 13 (mC μ13 54))) 10 0 2 = (-1 : Int32) := by rw [mI_rowR]; rw [mI_newC, if_neg (by omega)]; exact xb_13
  have xp_14 : mR (rowR (newC μ13 54) 10 0 (up (mR (newC μ13 54) 10 0) 13 (mC μ13 54))) 10 0 3 = 0 := by rw [mR_rowR, if_pos ⟨rfl, rfl⟩, up_n _ _ (by omega)]; rw [mR_newC, if_neg (by omega)]; exact xp_13
  have xq_14 : mR (rowR (newC μ13 54) 10 0 (up (mR (newC μ13 54) 10 0) 13 (mC μ13 54))) 10 0 4 = 1 := by rw [mR_rowR, if_pos ⟨rfl, rfl⟩, up_n _ _ (by omega)]; rw [mR_newC, if_neg (by omega)]; exact xq_13
  have xz_14 : mI (rowR (newC μ13 54) 10 0 (up (mR (newC μ13 54) 10 0) 13 (mC μ13 54))) 44 0 1 = nI 0 := by rw [mI_rowR]; rw [mI_newC, if_neg (by omega)]; exact xz_13
  generalize (rowR (newC μ13 54) 10 0 (up (mR (newC μ13 54) 10 0) 13 (mC μ13 54))) = μ14 at *
  have hN0 : invT[0]? = some (10, 0) := hN
  refine rn_ok ckx_90 (cut := cux_90) 1 _ _ _ _ _ _ (And.intro (by decide) (And.intro (by decide) (And.intro (by decide) (And.intro (by decide) ?_))))
  show Wp 0 1 90 148 [(0, vr 10 0), (1, vi (nI 0))] [] μ14 (309 + 5 * 0) (7064 + 37 * 0) Q
  have loop : ∀ (n j : Nat) (ν : Mem), j + n = 3 → Cnt ν (310 + 5 * j) → RO 0 ν (310 + 5 * j) [] → mI ν 10 0 1 = nI 0 → mI ν 10 0 2 = (-1 : Int32) → mR ν 10 0 3 = 0 → mR ν 10 0 4 = 1 → mI ν 44 0 1 = nI 0 → Wp 0 1 90 148 [(0, vr 10 0), (1, vi (nI j))] [] ν (309 + 5 * j) (7064 + 37 * j) Q := by
    intro n
    induction n with
    | zero =>
      intro j ν hj c r x1 x2 x4 x5 z
      obtain rfl : j = 3 := by omega
      refine rn_ok ckx_90 (cut := cux_90) 1 _ _ _ _ _ _ (And.intro (by decide) (And.intro (by decide) (And.intro (by decide) (And.intro (by decide) (And.intro (by decide) (And.intro (by decide) (And.intro (fun _ => ?_) (fun y => absurd (Int32.le_refl _) y))))))))
      exact hq ν c r x1 x2 x4 x5 z
    | succ n ih =>
      intro j ν hj c r x1 x2 x4 x5 z
      have hj3 : j < 3 := by omega
      have a1 : mAc 90 = 324 := by decide
      have a2 : mAs 90 = 7175 := by decide
      have a3 : mAc 36 = 4 := by decide
      have a4 : mAs 36 = 30 := by decide
      have b1 : rsz 26 = 7 := rfl
      obtain ⟨e1, p1⟩ := kb_90L j hj3
      obtain ⟨e46, p46⟩ := kb_46
      have m1 := (c.new e1).1
      have c1 := (c.new e1).2
      have ref0 : refI 0 ν 10 0 9 = 0 := by
        unfold refI
        rw [if_neg (fun y => absurd y.2 (by decide))]
        exact r 278 (10, 0, 9) p46 (by decide) (Nat.zero_le _) (by omega) (by simp)
      have n1 : 309 + 5 * j ≤ mAc 90 := by omega
      have n2 : 7064 + 37 * j ≤ mAs 90 := by omega
      have n3 : 309 + 5 * j + 1 ≤ mAc 90 := by omega
      have n4 : 7064 + 37 * j + rsz 26 ≤ mAs 90 := by omega
      have n5 : 309 + 5 * j + 1 + mAc 36 ≤ mAc 90 := by omega
      have n6 : 7064 + 37 * j + rsz 26 + mAs 36 ≤ mAs 90 := by omega
      refine rn_ok ckx_90 (cut := cux_90) 1 _ _ _ _ _ _ (And.intro n1 (And.intro n2 (And.intro n1 (And.intro n2 (And.intro n1 (And.intro n2 (And.intro (fun y => absurd y (nI_ge (a := j) (b := 3) (by omega) (by decide))) (fun _ => ?_))))))))
      refine And.intro n1 (And.intro n2 (And.intro n1 (And.intro n2 (And.intro rfl (And.intro (c.old hN0 (by omega)) (Exists.intro 0 (And.intro ref0 (And.intro n1 (And.intro n2 (And.intro n1 (And.intro n2 (And.intro (c.due e1 (fun _ => (lv0 _ _))) (And.intro n3 (And.intro n4 (And.intro n3 (And.intro n4 (And.intro rfl (And.intro n3 (And.intro n4 (And.intro (by decide) (And.intro (Nat.lt_of_le_of_lt (Nat.le_of_eq m1) (c1.old e1 (by omega))) (And.intro (And.intro (Nat.le_of_ble_eq_true rfl) (Nat.le_of_ble_eq_true rfl)) (And.intro n5 (And.intro n6 ?_))))))))))))))))))))))))
      rw [m1]
      refine kc_36 (i := 44 + j) e1 c1 (r.new c e1 p1) (fun μ2 c2 r2 k2 => ?_)
      have cl3 : (nI j).toNatClampNeg = j := nI_clamp (by omega)
      have vin : vp_in (nI j) (rsz 46) := vp_in_nI (show j < 3 from hj3) (by decide)
      refine And.intro n5 (And.intro n6 (And.intro rfl (And.intro (c2.old e46 (by omega)) (And.intro vin (And.intro rfl (And.intro (c2.old e1 (by omega)) (And.intro rfl (And.intro (Or.inr (by decide)) (And.intro n5 (And.intro n6 (And.intro n5 (And.intro n6 ?_))))))))))))
      show Wp 0 1 90 148 [(0, vr 10 0), (1, vi (nI j + Int32.ofInt 1))] [] (rowR μ2 46 0 (up (mR μ2 46 0) (nI j).toNatClampNeg (44 + j))) (309 + 5 * j + 1 + mAc 36) (7064 + 37 * j + rsz 26 + mAs 36) Q
      rw [cl3, show nI j + Int32.ofInt 1 = nI (j + 1) from nI_add j 1, show 309 + 5 * j + 1 + mAc 36 = 309 + 5 * (j + 1) by omega, show 7064 + 37 * j + rsz 26 + mAs 36 = 7064 + 37 * (j + 1) by omega]
      have k10 := k2.2 10 0 (c1.old hN0 (by omega)) (by omega)
      have k44 := k2.2 44 0 (c1.old eX44 (by omega)) (by omega)
      refine ih (j + 1) _ (by omega) ?_ ?_ ?_ ?_ ?_ ?_ ?_
      · rw [show 310 + 5 * (j + 1) = 310 + 5 * j + 5 by omega]; exact c2.R
      · rw [show 310 + 5 * (j + 1) = 310 + 5 * j + 5 by omega]; exact r2.put (Nat.add_comm 44 j)
      · rw [mI_rowR, k10.1, mI_newC, if_neg (by omega)]; exact x1
      · rw [mI_rowR, k10.1, mI_newC, if_neg (by omega)]; exact x2
      · rw [mR_rowR, if_neg (by omega), k10.2.2, mR_newC, if_neg (by omega)]; exact x4
      · rw [mR_rowR, if_neg (by omega), k10.2.2, mR_newC, if_neg (by omega)]; exact x5
      · rw [mI_rowR, k44.1, mI_newC, if_neg (by omega)]; exact z
  exact loop 3 0 _ (by omega) c14 r14 xa_14 xb_14 xp_14 xq_14 xz_14


/-! the class reads: laws -/
def ED (μ0 : Mem) (ip s0 : Nat) (μ : Mem) (L : List Nat) : Prop := EC μ0 ip s0 μ L ∧ ∀ j, mI μ 24 ip j = mI μ0 24 ip j
def QD (Z : Tks) (ip : Nat) (μ0 : Mem) (s0 : Nat) (L : List Nat) (s : Sg) (μ : Mem) : Prop := CuC Z ip μ s ∧ ED μ0 ip s0 μ L ∧ s0 + L.length ≤ 8 + yT s
theorem readSum_e {Z : Tks} {μ0 μ : Mem} {ip s0 : Nat} {L0 : List Nat} {s : Sg} (hz : ZOK Z) (i2 : ip < 2) (hs : SgI Z s) (h : QD Z ip μ0 s0 L0 s μ) : CV (rd_readSum μ) (fun e s' μ' => QD Z ip μ0 s0 (L0 ++ cdR e) s' μ') (gE Z s) := by
  obtain ⟨h1, ⟨h2, h3⟩, h4⟩ := h
  have s1 := hs.2.2.2.2.2.2.2.1
  have g0 : Fr [(12, none, some 8)] μ (stI μ 12 0 8 (nI 0)) := Fr.stI (Fr.rf _ _) (iT 0 rfl inA_ns)
  have base : CV (rd_readSum μ) (QS Z ip μ0 s0 L0) (gE Z s) := by
    refine sum_e hz i2 _ (401 - yT s) true 0 [] [] s (stI μ 12 0 8 (nI 0)) 60000 0 (by omega) hs rfl (by omega) (h1.frk g0 rfl rfl rfl rfl rfl rfl) ⟨by rw [mI_stI, if_pos ⟨rfl, rfl, rfl⟩]; rfl, fun i hi => absurd hi (Nat.not_lt_zero _)⟩ trivial rfl (by omega) ?_ ?_
    · rw [show cdR [] = [] from rfl, List.append_nil]; exact h2.fr g0 rfl
    · rw [show cdR [] = [] from rfl, List.append_nil]; show s0 + L0.length + 0 ≤ 8 + yT s; omega
  unfold CV at base ⊢
  cases e : gE Z s with
  | error φ => rw [e] at base; exact base
  | ok a =>
    rw [e] at base
    obtain ⟨μ', b1, b2, b3, b4⟩ := base
    have g := f_rd_readSum h1.2.1 b1
    exact ⟨μ', b1, b2, ⟨b3, fun j => (g.I (by simp [inT, inA, T_rd_readSum])).trans (h3 j)⟩, b4⟩
theorem takeD_e {Z : Tks} {μ0 μ : Mem} {ip s0 : Nat} {L : List Nat} {s : Sg} (hz : ZOK Z) (hs : SgI Z s) (h : QD Z ip μ0 s0 L s μ) {k : Nat} (hk : k < 44) : CX (rd_take (nI k) μ) (QD Z ip μ0 s0 L) (gTake Z k s) := by
  obtain ⟨h1, ⟨h2, h3⟩, h4⟩ := h
  refine (rd_take_e h1 hs hz hk).imp (fun r ν e hq => ?_)
  obtain ⟨a, g⟩ := hq
  obtain ⟨rfl, -, -⟩ := gTake_ok e
  exact ⟨a, ⟨h2.fr g rfl, fun j => (g.I rfl).trans (h3 j)⟩, by show _ ≤ 8 + (yT s + 1); omega⟩
theorem takeAs_e {Z : Tks} {μ0 μ : Mem} {ip s0 : Nat} {L : List Nat} {s : Sg} (hz : ZOK Z) (i2 : ip < 2) (hs : SgI Z s) (h : QD Z ip μ0 s0 L s μ) {k : Nat} (hk : k < 44) (c : Nat) : CX (rd_takeAsCode (nI k) (nI c) μ) (QD Z ip μ0 s0 (L ++ [c])) (gTake Z k s) := by
  obtain ⟨h1, ⟨h2, h3⟩, h4⟩ := h
  have k2 := hz.2.1 (yT s)
  have s1 := hs.2.2.2.2.2.2.2.1
  unfold rd_takeAsCode gTake
  rw [ob_eq (rd_kind_e h1 hs)]
  by_cases z : tkd Z (yT s) = k
  · obtain ⟨μ1, e1, g1, e2⟩ := addCode_e (c := c) h2 (by omega)
    have c1 : CuC Z ip μ1 s := h1.frk g1 rfl rfl rfl rfl rfl rfl
    rw [if_pos z, if_pos (congrArg nI z), h1.2.1, if_pos i2, ob_eq e1]
    refine ((rd_pass_e c1 hs).imp (fun r ν e hq => ?_)).t
    obtain ⟨a, g⟩ := hq
    obtain ⟨rfl, t⟩ := gPass_ok e
    have e3 := e2 (by omega)
    refine ⟨a, ⟨e3.fr g rfl, fun j => (g.I rfl).trans ((g1.I (by simp [inT, inA, T25])).trans (h3 j))⟩, ?_⟩
    rw [List.length_append, List.length_singleton]
    show _ ≤ 8 + (yT s + 1)
    omega
  · rw [if_neg z, if_neg (nI_ne z (by omega) (by omega))]
    exact (rd_fail_e h1 hs (Or.inl rfl)).t
def preL : List (Rp × Rp × Rp) → List Nat
  | [] => []
  | (a, b, c) :: t => cdR a ++ (cdR b ++ (20004 :: (cdR c ++ (20005 :: preL t))))
theorem cdL_pre (e : Rp) : ∀ L, cdL e L = preL L ++ (cdR e ++ [20006])
  | [] => rfl
  | (a, b, c) :: t => by simp [cdL, preL, cdL_pre e t]
theorem preL_sn (a b c : Rp) : ∀ L, preL (L ++ [(a, b, c)]) = preL L ++ (cdR a ++ (cdR b ++ (20004 :: (cdR c ++ [20005]))))
  | [] => rfl
  | (x, y, z) :: t => by simp [preL, preL_sn a b c t]
def QL (Z : Tks) (ip k : Nat) (μ0 : Mem) (s0 : Nat) (s : Sg) (μ : Mem) : Prop := QD Z ip μ0 s0 (cdL (yW s k).2 (yW s k).1) s μ
theorem ifs_e {Z : Tks} {μ0 : Mem} {ip s0 k : Nat} (hz : ZOK Z) (i2 : ip < 2) : ∀ (n : Nat) (L : List (Rp × Rp × Rp)) (s : Sg) (μ : Mem) (fuel : Nat), n < fuel → n ≤ 4 → SgI Z s → QD Z ip μ0 s0 (preL L) s μ → CX (fixN (fun _ _ => none) (rd_readLaw_B36 (fun (μ109 : Mem) =>
ob (rd_readSum μ109) fun r116 μ113 =>
if r116 = (nI 0) then
some ((nI 0), μ113) else
ob (rd_takeAsCode (nI 30) (nI 20006) μ113) fun r124 μ121 =>
if r124 = (nI 0) then
some ((nI 0), μ121) else
some ((nI 1), μ121))) fuel (nI (4 - n)) μ) (QL Z ip k μ0 s0) (gIfs Z k n L s) := by
  intro n
  have last : ∀ (L : List (Rp × Rp × Rp)) (s : Sg) (μ : Mem), SgI Z s → QD Z ip μ0 s0 (preL L) s μ → CX (ob (rd_readSum μ) fun r116 μ113 =>
if r116 = (nI 0) then
some ((nI 0), μ113) else
ob (rd_takeAsCode (nI 30) (nI 20006) μ113) fun r124 μ121 =>
if r124 = (nI 0) then
some ((nI 0), μ121) else
some ((nI 1), μ121)) (QL Z ip k μ0 s0) (gLast Z k L s) := fun L s μ hs h => by
    unfold gLast
    refine (readSum_e hz i2 hs h).b (fun e r ν he hq => ?_)
    obtain ⟨-, hs1, -⟩ := gE_ok hz hs he
    refine (takeAs_e hz i2 hs1 hq (show 30 < 44 by omega) 20006).b (fun q ν2 he2 hq2 => ?_)
    refine ⟨ν2, rfl, ?_⟩
    show QD Z ip μ0 s0 (cdL (up (yW q) k (L, e) k).2 (up (yW q) k (L, e) k).1) _ ν2
    rw [up_s, cdL_pre, ← List.append_assoc]
    exact hq2
  induction n with
  | zero =>
    intro L s μ fuel hf h4 hs h
    obtain ⟨f, rfl⟩ : ∃ f, fuel = f + 1 := ⟨fuel - 1, by omega⟩
    have k44 := hz.2.1 (yT s)
    rw [fixN_s]
    unfold rd_readLaw_B36 gIfs
    rw [if_neg (nI_nlt (show 4 - 0 ≤ 4 by omega) (by omega)), ob_eq (rd_kind_e h.1 hs)]
    by_cases c : tkd Z (yT s) = 11
    · rw [if_pos c, if_pos (congrArg nI c), if_pos (show nI (4 - 0) = nI 4 from rfl)]
      exact (rd_fail_e h.1 hs (Or.inr rfl)).t
    · rw [if_neg c, if_neg (nI_ne c (by omega) (by omega))]
      exact last L s μ hs h
  | succ n ih =>
    intro L s μ fuel hf h4 hs h
    obtain ⟨f, rfl⟩ : ∃ f, fuel = f + 1 := ⟨fuel - 1, by omega⟩
    have k44 := hz.2.1 (yT s)
    have s1 := hs.2.2.2.2.2.2.2.1
    rw [fixN_s]
    unfold rd_readLaw_B36 gIfs
    rw [if_neg (nI_nlt (show 4 - (n + 1) ≤ 4 by omega) (by omega)), ob_eq (rd_kind_e h.1 hs)]
    by_cases c : tkd Z (yT s) = 11
    · rw [if_pos c, if_pos (congrArg nI c), if_neg (nI_ne (show ¬ 4 - (n + 1) = 4 by omega) (by omega) (by omega))]
      refine (rd_pass_e h.1 hs).b (fun r1 ν1 e1 q1 => ?_)
      obtain ⟨rfl, t1⟩ := gPass_ok e1
      have hs1 := hs.wyT t1 (by omega)
      have d1 : QD Z ip μ0 s0 (preL L) (wyT s (yT s + 1)) ν1 := ⟨q1.1, ⟨h.2.1.1.fr q1.2 rfl, fun j => (q1.2.I rfl).trans (h.2.1.2 j)⟩, by have := h.2.2; show _ ≤ 8 + (yT s + 1); omega⟩
      refine (readSum_e hz i2 hs1 d1).b (fun a r2 ν2 e2 d2 => ?_)
      obtain ⟨-, hs2, -⟩ := gE_ok hz hs1 e2
      refine (takeD_e hz hs2 d2 (show 36 < 44 by omega)).b (fun r3 ν3 e3 d3 => ?_)
      have hs3 := gTake_I hs2 (by omega) e3
      refine (readSum_e hz i2 hs3 d3).b (fun b r4 ν4 e4 d4 => ?_)
      obtain ⟨-, hs4, -⟩ := gE_ok hz hs3 e4
      refine (takeAs_e hz i2 hs4 d4 (show 12 < 44 by omega) 20004).b (fun r5 ν5 e5 d5 => ?_)
      have hs5 := gTake_I hs4 (by omega) e5
      refine (readSum_e hz i2 hs5 d5).b (fun d r6 ν6 e6 d6 => ?_)
      obtain ⟨-, hs6, -⟩ := gE_ok hz hs5 e6
      refine (takeAs_e hz i2 hs6 d6 (show 13 < 44 by omega) 20005).b (fun r7 ν7 e7 d7 => ?_)
      have hs7 := gTake_I hs6 (by omega) e7
      rw [nI_add, show 4 - (n + 1) + 1 = 4 - n by omega]
      refine ih (L ++ [(a, b, d)]) r7 ν7 f (by omega) (by omega) hs7 ?_
      rw [preL_sn]
      simpa using d7
    · rw [if_neg c, if_neg (nI_ne c (by omega) (by omega))]
      exact last L s μ hs h
def LwC (ip : Nat) (μ : Mem) (s : Sg) : Prop := ∃ cs : Nat, cs ≤ 8 + yT s ∧ mI μ 18 ip 11 = nI cs ∧ ∀ k, k < 4 → ∃ a : Nat, mI μ 24 ip k = nI a ∧ a + (cdL (yW s k).2 (yW s k).1).length ≤ cs ∧ isC (mI μ 25 ip) a (cdL (yW s k).2 (yW s k).1)
theorem readLaw_e {Z : Tks} {μ : Mem} {ip k : Nat} {s : Sg} (hz : ZOK Z) (hs : SgI Z s) (h : CuC Z ip μ s) (p : PnC ip μ s) (l : LwC ip μ s) (k0 : tkd Z (yT s) ≠ 43) (hk : k < 4) : CX (rd_readLaw (nI k) μ) (fun s' μ' => (CuC Z ip μ' s' ∧ PnC ip μ' s') ∧ LwC ip μ' s') (gLaw Z k s) := by
  have i2 := p.i2
  have s1 := hs.2.2.2.2.2.2.2.1
  obtain ⟨cs, l1, l2, l3⟩ := l
  have base : CX (rd_readLaw (nI k) μ) (fun s' μ' => CuC Z ip μ' s' ∧ LwC ip μ' s') (gLaw Z k s) := by
    unfold rd_readLaw gLaw
    refine (rd_pass_e h hs).b (fun r1 ν1 e1 q1 => ?_)
    obtain ⟨rfl, t1⟩ := gPass_ok e1
    have hs1 := hs.wyT t1 k0
    refine (rd_take_e q1.1 hs1 hz (show 31 < 44 by omega)).b (fun r2 ν2 e2 q2 => ?_)
    have hs2 := gTake_I hs1 (by omega) e2
    obtain ⟨rfl, -, -⟩ := gTake_ok e2
    have c18 : mI ν2 18 ip 11 = nI cs := (q2.2.I rfl).trans ((q1.2.I rfl).trans l2)
    rw [q2.1.2.1, if_pos i2, if_pos (inB_nI hk (by omega)), cl_nI (by omega), c18, mb_e]
    have g : Fr [(24, none, none)] ν2 (stI ν2 24 ip k (nI cs)) := Fr.stI (Fr.rf _ _) (iT 0 rfl inA_nn)
    generalize hM : stI ν2 24 ip k (nI cs) = M at g
    have d : QD Z ip M cs (preL []) (wyT (wyT s (yT s + 1)) (yT (wyT s (yT s + 1)) + 1)) M := ⟨q2.1.fr g rfl, ⟨⟨(g.I rfl).trans c18, fun i hi => absurd hi (Nat.not_lt_zero _), fun _ _ => rfl⟩, fun _ => rfl⟩, by show cs + 0 ≤ 8 + (yT s + 1 + 1); omega⟩
    refine (ifs_e hz i2 (k := k) 4 [] _ M 60000 (by omega) (Nat.le_refl _) hs2 d).imp (fun r ν e hq => ?_)
    obtain ⟨hq1, ⟨⟨hq2, hq3, hq4⟩, hq5⟩, hq6⟩ := hq
    obtain ⟨-, L, -, w3, w4⟩ := gIfs_I hz 4 [] _ r hs2 (fun q hq => by cases hq) e
    refine ⟨hq1, _, hq6, hq2, fun j hj => ?_⟩
    by_cases z : j = k
    · subst z
      refine ⟨cs, ?_, Nat.le_refl _, hq3⟩
      rw [hq5, ← hM, mI_stI, if_pos ⟨rfl, rfl, rfl⟩]
    · obtain ⟨a, b1, b2, b3⟩ := l3 j hj
      have wj : yW r j = yW s j := by
        rw [w3]
        exact up_n _ _ z
      refine ⟨a, ?_, by rw [wj]; omega, fun i hi => ?_⟩
      · rw [hq5, ← hM, mI_stI, if_neg (by omega)]
        exact (q2.2.I rfl).trans ((q1.2.I rfl).trans b1)
      · rw [wj] at hi ⊢
        rw [hq4 _ (by omega), ← hM, mI_stI, if_neg (by omega), q2.2.I rfl, q1.2.I rfl]
        exact b3 i hi
  unfold CX at base ⊢
  cases e : gLaw Z k s with
  | error φ => rw [e] at base; exact base
  | ok a =>
    rw [e] at base
    obtain ⟨μ', b1, b2, b3⟩ := base
    have g := f_rd_readLaw h.2.1 b1
    obtain ⟨-, L, -, w3, -⟩ := gLaw_I hz hs k0 e
    refine ⟨μ', b1, ⟨b2, ?_⟩, b3⟩
    refine PnC.eq (s := s) ?_ (by rw [w3]; rfl) (by rw [w3]; rfl) (by rw [w3]; rfl)
    have z : ∀ r j, (r = 18 → j ≠ 11) → (18 ≤ r ∧ r ≤ 23 ∨ 26 ≤ r ∧ r ≤ 30) → inT (T_rd_readLaw ip) r ip j = false := fun r j h1 h2 => by
      cases e : inT (T_rd_readLaw ip) r ip j with
      | false => rfl
      | true =>
        exfalso
        obtain ⟨a, ha, hb⟩ := List.any_eq_true.mp e
        unfold T_rd_readLaw at ha
        unfold inA at hb
        simp only [List.mem_cons, List.not_mem_nil, or_false] at ha
        rcases ha with rfl | rfl | rfl | rfl | rfl | rfl | rfl | rfl <;> (simp only [Bool.and_eq_true, beq_iff_eq] at hb; omega)
    obtain ⟨a0, a1, a2, a3, a4, a5, a6, a7, a8, a9, c0, c1, c2⟩ := p
    exact ⟨a0, (g.I (z _ _ (by omega) (by omega))).trans a1, (g.I (z _ _ (by omega) (by omega))).trans a2, (g.I (z _ _ (by omega) (by omega))).trans a3, (g.I (z _ _ (by omega) (by omega))).trans a4, (g.I (z _ _ (by omega) (by omega))).trans a5, ⟨(g.I (z _ _ (by omega) (by omega))).trans a6.1, (g.I (z _ _ (by omega) (by omega))).trans a6.2⟩, fun l w h => (g.L (z _ _ (by omega) (by omega))).trans (a7 l w h), fun l w h => (g.L (z _ _ (by omega) (by omega))).trans (a8 l w h), fun f h => (g.I (z _ _ (by omega) (by omega))).trans (a9 f h), fun n h => ⟨(g.I (z _ _ (by omega) (by omega))).trans (c0 n h).1, (g.I (z _ _ (by omega) (by omega))).trans (c0 n h).2.1, (g.I (z _ _ (by omega) (by omega))).trans (c0 n h).2.2⟩, fun f h => ⟨(g.I (z _ _ (by omega) (by omega))).trans (c1 f h).1, (g.I (z _ _ (by omega) (by omega))).trans (c1 f h).2⟩, fun f h => (g.I (z _ _ (by omega) (by omega))).trans (c2 f h)⟩

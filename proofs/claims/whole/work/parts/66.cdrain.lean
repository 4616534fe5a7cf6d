/-! the class reads: drains, the spring, the seed -/
theorem gKn_I {Z : Tks} {b : Nat} {s r : Sg} (hs : SgI Z s) (h : gKn Z b s = .ok r) : SgI Z r ∧ yT r = yT s + 1 ∧ yN r = yN s ∧ yC r = yC s ∧ yA r = yA s ∧ yW r = yW s ∧ tkd Z (yT s) = 40 ∧ yT s ≠ 400 ∧ ((yL r).1 = 0 → lkW b (tvl Z (yT s)) (yN s) ≠ -1 ∧ yL r = yL s) := by
  obtain ⟨q, h1, h2⟩ := bG_ok h
  obtain ⟨rfl, h3, h4⟩ := gTake_ok h1
  have g := hs.wyT h3 (by omega)
  split at h2
  · cases h2
    obtain ⟨b1, b2, b3, b4, b5⟩ := lat_T Z 4 (yT s) (wyT s (yT s + 1))
    exact ⟨g.later (by omega) (Nat.lt_succ_self _), b1, b2, b3, b4, b5, h4, h3, fun z => absurd z (lat_nz (by omega))⟩
  · rename_i c
    cases h2
    exact ⟨g, rfl, rfl, rfl, rfl, rfl, h4, h3, fun _ => ⟨c, rfl⟩⟩
theorem bG_as (e : Rs) (f g : Sg → Rs) : bG (bG e f) g = bG e (fun s => bG (f s) g) := by cases e <;> rfl
theorem CX.eq {f : Option (Int32 × Mem)} {Q : Sg → Mem → Prop} {e e' : Rs} (h : CX f Q e) (z : e' = e) : CX f Q e' := z ▸ h
/-- numbers and the end, where nothing is kept -/
theorem rd_drE_e {Z : Tks} {ip : Nat} {μ : Mem} {s : Sg} (h : CuC Z ip μ s) (p : PnC ip μ s) (hs : SgI Z s) (hz : ZOK Z) : CX (ob (rd_takeNumber (nI 0) (nI 3) μ) fun r173 μ170 =>
if r173 = (nI 0) then
some ((nI 0), μ170) else
ob (rd_take (nI 30) μ170) fun r182 μ179 =>
if r182 = nI 0 ∨ r182 = nI 1 then
some (r182, μ179) else none) (CP Z ip) (bG (gNum Z 0 3 s) fun o => bG (gTake Z 30 o) fun n => .ok n) := by
  refine (rd_takeNumber_e h hs hz (show 0 < 10000 by omega) (show 3 < 10000 by omega)).b (fun n ν3 e3 hq3 => ?_)
  obtain ⟨h4, g4⟩ := hq3
  obtain ⟨hs4, t4, n4, c4, a4, -, -⟩ := gNum_I hs e3
  have p4 : PnC ip ν3 n := (p.fr g4 rfl).eq n4 c4 a4
  refine ((rd_take_e h4 hs4 hz (show 30 < 44 by omega)).map (k := fun n => n) (fun m ν4 e4 hq4 => ?_)).t
  obtain ⟨h6, g6⟩ := hq4
  obtain ⟨rfl, k5, k6⟩ := gTake_ok e4
  exact ⟨h6, p4.fr g6 rfl⟩
theorem PnC.dr {ip : Nat} {μ : Mem} {s : Sg} (h : PnC ip μ s) {f : Nat} (hf : f < (yC s).2.1) {l x : Int32} : PnC ip (stI (stI μ 28 ip f l) 29 ip f x) (stDr f l x s) := by
  obtain ⟨a0, a1, a2, a3, a4, a5, a6, a7, a8, a9, b0, b1, b2⟩ := h
  have A' : ∀ a b, yA (stDr f l x s) a b = if a = 6 ∧ b = f then x else if a = 5 ∧ b = f then l else yA s a b := fun a b => by
    show up2 (up2 (yA s) 5 f l) 6 f x a b = _
    rw [up2_e, up2_e]
  have C1 : (yC (stDr f l x s)) = (yC s) := rfl
  refine ⟨a0, a1, a2, a3, ?_, ?_, a6, a7, a8, fun f hf => ?_, fun n hn => ⟨?_, ?_, ?_⟩, fun g hg => ⟨?_, ?_⟩, fun g hg => ?_⟩
  · rw [mI_stI, if_neg (by omega), mI_stI, if_neg (by omega), A', if_neg (by omega), if_neg (by omega)]; exact a4
  · rw [mI_stI, if_neg (by omega), mI_stI, if_neg (by omega), A', if_neg (by omega), if_neg (by omega)]; exact a5
  · rw [mI_stI, if_neg (by omega), mI_stI, if_neg (by omega), A', if_neg (by omega), if_neg (by omega)]; exact a9 f hf
  · rw [mI_stI, if_neg (by omega), mI_stI, if_neg (by omega), A', if_neg (by omega), if_neg (by omega)]; exact (b0 n hn).1
  · rw [mI_stI, if_neg (by omega), mI_stI, if_neg (by omega), A', if_neg (by omega), if_neg (by omega)]; exact (b0 n hn).2.1
  · rw [mI_stI, if_neg (by omega), mI_stI, if_neg (by omega), A', if_neg (by omega), if_neg (by omega)]; exact (b0 n hn).2.2
  · have e5 : yA (stDr f l x s) 5 g = if g = f then l else yA s 5 g := by
      rw [A', if_neg (by omega)]
      by_cases z : g = f
      · rw [if_pos ⟨rfl, z⟩, if_pos z]
      · rw [if_neg (by omega), if_neg z]
    rw [mI_stI, if_neg (by omega), mI_stI, e5, C1]
    by_cases z : g = f
    · rw [if_pos ⟨rfl, rfl, z⟩, if_pos (by omega), if_pos z]
    · rw [if_neg (by omega), if_neg z]; exact (b1 g hg).1
  · have e6 : yA (stDr f l x s) 6 g = if g = f then x else yA s 6 g := by
      rw [A']
      by_cases z : g = f
      · rw [if_pos ⟨rfl, z⟩, if_pos z]
      · rw [if_neg (by omega), if_neg (by omega), if_neg z]
    rw [mI_stI, e6, C1]
    by_cases z : g = f
    · rw [if_pos ⟨rfl, rfl, z⟩, if_pos (by omega), if_pos z]
    · rw [if_neg (by omega), if_neg z, mI_stI, if_neg (by omega)]; exact (b1 g hg).2
  · rw [mI_stI, if_neg (by omega), mI_stI, if_neg (by omega)]; exact b2 g hg
theorem rd_drT_e {Z : Tks} {ip : Nat} {μ : Mem} {s : Sg} (h : CuC Z ip μ s) (p : PnC ip μ s) (hs : SgI Z s) (hz : ZOK Z) {f : Nat} (hf : f < (yC s).2.1) (l : Int32) : CX (ob (rd_takeNumber (nI 0) (nI 3) μ) fun r101 μ98 =>
if r101 = (nI 0) then
some ((nI 0), μ98) else
if (nI f) = (-1 : Int32) then
ob (rd_take (nI 30) μ98) fun r112 μ109 =>
if r112 = nI 0 ∨ r112 = nI 1 then
some (r112, μ109) else none else
if (mR μ98 12 0 3) < 2 then
if inB (nI f) 6 = true then
if (mR (stI μ98 28 (mR μ98 12 0 3) (cl (nI f)) l) 12 0 3) < 2 then
ob (rd_taken (stI μ98 28 (mR μ98 12 0 3) (cl (nI f)) l)) fun r126 μ123 =>
mb (stI μ123 29 (mR (stI μ98 28 (mR μ98 12 0 3) (cl (nI f)) l) 12 0 3) (cl (nI f)) (Int64.toInt32 r126)) fun μ128 =>
ob (rd_take (nI 30) μ128) fun r133 μ130 =>
if r133 = nI 0 ∨ r133 = nI 1 then
some (r133, μ130) else none else none else none else none) (CP Z ip) (bG (gNum Z 0 3 s) fun o => bG (gTake Z 30 o) fun n => .ok (stDr f l (nI (tvl Z (yT s))) n)) := by
  have i2 := p.i2
  have s1 := hs.2.1
  refine (rd_takeNumber_e h hs hz (show 0 < 10000 by omega) (show 3 < 10000 by omega)).b (fun n ν3 e3 hq3 => ?_)
  obtain ⟨h4, g4⟩ := hq3
  obtain ⟨hs4, t4, n4, c4, a4, -, -⟩ := gNum_I hs e3
  obtain ⟨k3, k4, -⟩ := gNum_ok e3
  have p4 : PnC ip ν3 n := (p.fr g4 rfl).eq n4 c4 a4
  have v4 := hz.2.2.2.1 _ k4
  generalize hM : stI ν3 28 ip f l = M
  have hc : CuC Z ip M n := by
    rw [← hM]
    exact h4.fr (T := [(28, none, none)]) (Fr.stI (Fr.rf _ _) (iT 0 rfl inA_nn)) rfl
  have tk2 := rd_taken_e hc hs4 (i := yT s) t4 (Or.inr k4)
  simp (disch := omega) only [nI_nm1, h4.2.1, i2, inB_nI, cl_nI, hM, hc.2.1, ↓ob_eq tk2, ↓mb_e, oL_i32, ↓reduceIte]
  have h5 : CuC Z ip (stI M 29 ip f (nI (tvl Z (yT s)))) n := hc.fr (T := [(29, none, none)]) (Fr.stI (Fr.rf _ _) (iT 0 rfl inA_nn)) rfl
  refine ((rd_take_e h5 hs4 hz (show 30 < 44 by omega)).map (fun m ν4 e4 hq4 => ?_)).t
  obtain ⟨h6, g6⟩ := hq4
  obtain ⟨rfl, k5, k6⟩ := gTake_ok e4
  have p5 := p4.dr (f := f) (by rw [c4]; exact hf) (l := l) (x := nI (tvl Z (yT s)))
  rw [hM] at p5
  exact ⟨h6, p5.fr g6 rfl⟩
theorem lkW_c {b v : Nat} {N : List (Nat × Nat)} {i j : Nat} (h : NOK 0 0 N i j) (hi : i ≤ 10) (hj : j ≤ 10) (hb : b = 0 ∨ b = 10) : lkW b v N = -1 ∨ ∃ k, k < (if b = 0 then i else j) ∧ lkW b v N = nI k := by
  obtain ⟨l1, l2, -⟩ := h.len hi
  rcases hb with rfl | rfl
  · rw [lkW_L v h hi]
    rcases idxF_c (lgs N) 0 v with c | ⟨k, c, d⟩
    · exact Or.inl c
    · exact Or.inr ⟨k, by rw [if_pos rfl]; omega, by rw [d]; congr 1; omega⟩
  · rw [lkW_F v h hi hj]
    rcases idxF_c (fds N) 0 v with c | ⟨k, c, d⟩
    · exact Or.inl c
    · exact Or.inr ⟨k, by rw [if_neg (by omega)]; omega, by rw [d]; congr 1; omega⟩
theorem rd_readDrain_e {Z : Tks} {ip : Nat} {μ : Mem} {s : Sg} (h : CuC Z ip μ s) (p : PnC ip μ s) (hs : SgI Z s) (hz : ZOK Z) (k0 : tkd Z (yT s) ≠ 43) : CX (rd_readDrain μ) (CP Z ip) (gDrain Z s) := by
  have i2 := p.i2
  unfold rd_readDrain gDrain
  refine (rd_pass_e h hs).b (fun r ν e hq => ?_)
  obtain ⟨h1, g1⟩ := hq
  obtain ⟨rfl, k1⟩ := gPass_ok e
  have hs1 := hs.wyT k1 k0
  have p1 : PnC ip ν (wyT s (yT s + 1)) := p.fr g1 rfl
  have N1 : yN (wyT s (yT s + 1)) = yN s := rfl
  have C1 : yC (wyT s (yT s + 1)) = yC s := rfl
  generalize hr : wyT s (yT s + 1) = r at *
  unfold gKn
  rw [bG_as]
  refine (rd_take_e h1 hs1 hz (show 40 < 44 by omega)).b (fun q ν2 e2 hq2 => ?_)
  obtain ⟨h2, g2⟩ := hq2
  obtain ⟨rfl, k2, k3⟩ := gTake_ok e2
  have hs2 := hs1.wyT k2 (by omega)
  have tk := rd_taken_e h2 hs2 (i := yT r) rfl (Or.inl k3)
  have v4 := hz.2.2.2.2.1 _ k3
  have p2 : PnC ip ν2 (wyT r (yT r + 1)) := p1.fr g2 rfl
  have l1 : rd_fieldNamed (oL ((tvl Z (yT r) : Nat) : Int)) ν2 = some (lkW 10 (tvl Z (yT r)) (yN r), ν2) := rd_fieldNamed_e h2.2.1 p2 hs2 v4
  have fc := lkW_c (b := 10) (v := tvl Z (yT r)) hs1.2.2.2.1 (by have := hs1.1; omega) (by have := hs1.2.1; omega) (Or.inr rfl)
  rw [if_neg (by omega)] at fc
  rw [ob_eq tk, ob_eq l1]
  show CX _ _ (bG (bG (gTake Z 40 (if lkW 10 (tvl Z (yT r)) (yN r) = -1 then lat Z 4 (yT r) (wyT r (yT r + 1)) else wyT r (yT r + 1))) _) _)
  rw [bG_as]
  -- what follows the second name, for one state
  have second : ∀ (q : Sg) (ν3 : Mem), CuC Z ip ν3 q → PnC ip ν3 q → SgI Z q → yN q = yN r → yC q = yC r → tkd Z (yT q) = 40 → yT q ≠ 400 → ∀ ν4, CuC Z ip ν4 (wyT q (yT q + 1)) → PnC ip ν4 (wyT q (yT q + 1)) → rd_taken ν4 = some (oL ((tvl Z (yT q) : Nat) : Int), ν4) ∧ rd_logNamed (oL ((tvl Z (yT q) : Nat) : Int)) ν4 = some (lkW 0 (tvl Z (yT q)) (yN q), ν4) ∧ SgI Z (wyT q (yT q + 1)) := fun q ν3 a1 a2 a3 a4 a5 a6 a7 ν4 b1 b2 => by
    have hs3 := a3.wyT a7 (by omega)
    exact ⟨rd_taken_e b1 hs3 (i := yT q) rfl (Or.inl a6), rd_logNamed_e b1.2.1 b2 hs3 (hz.2.2.2.2.1 _ a6), hs3⟩
  rcases fc with fc | ⟨f, hf, fc⟩
  · obtain ⟨ν3, e3, h3, g3⟩ := rd_failLater_e h2 hs2 (c := 4) (i := yT r) rfl (by omega)
    have p3 := (p2.fr g3 rfl).lat Z 4 (yT r)
    have hs3 : SgI Z (lat Z 4 (yT r) (wyT r (yT r + 1))) := hs2.later (by omega) (Nat.lt_succ_self _)
    obtain ⟨b1, b2, b3, b4, b5⟩ := lat_T Z 4 (yT r) (wyT r (yT r + 1))
    rw [if_pos fc, ob_eq e3, if_pos fc]
    generalize hq : lat Z 4 (yT r) (wyT r (yT r + 1)) = q at *
    refine (rd_take_e h3 hs3 hz (show 40 < 44 by omega)).b (fun n ν4 e4 hq4 => ?_)
    obtain ⟨h4, g4⟩ := hq4
    obtain ⟨rfl, k4, k5⟩ := gTake_ok e4
    have p4 : PnC ip ν4 (wyT q (yT q + 1)) := p3.fr g4 rfl
    obtain ⟨t1, t2, hs4⟩ := second q ν3 h3 p3 hs3 b2 b3 k5 k4 ν4 h4 p4
    rw [ob_eq t1, ob_eq t2]
    have fin : ∀ (n : Sg) (ν5 : Mem), CuC Z ip ν5 n → PnC ip ν5 n → SgI Z n → CX (ob (rd_takeNumber (nI 0) (nI 3) ν5) fun r173 μ170 =>
if r173 = (nI 0) then
some ((nI 0), μ170) else
ob (rd_take (nI 30) μ170) fun r182 μ179 =>
if r182 = nI 0 ∨ r182 = nI 1 then
some (r182, μ179) else none) (CP Z ip) (bG (gNum Z 0 3 n) fun o => bG (gTake Z 30 o) fun m => .ok (if lkW 10 (tvl Z (yT r)) (yN r) = -1 then m else stDr (cl (lkW 10 (tvl Z (yT r)) (yN r))) (lkW 0 (tvl Z (yT q)) (yN q)) (nI (tvl Z (yT n))) m)) := fun n ν5 a1 a2 a3 => by
      simp only [fc, ↓reduceIte]
      exact rd_drE_e a1 a2 a3 hz
    by_cases c2 : lkW 0 (tvl Z (yT q)) (yN q) = -1
    · obtain ⟨ν5, e5, h5, g5⟩ := rd_failLater_e h4 hs4 (c := 4) (i := yT q) rfl (by omega)
      rw [if_pos c2, ob_eq e5]
      refine (fin _ ν5 h5 ((p4.fr g5 rfl).lat Z 4 (yT q)) (hs4.later (by omega) (Nat.lt_succ_self _))).eq ?_
      show bG (gNum Z 0 3 (if lkW 0 (tvl Z (yT q)) (yN q) = -1 then lat Z 4 (yT q) (wyT q (yT q + 1)) else wyT q (yT q + 1))) _ = _
      simp only [c2, ↓reduceIte]
    · rw [if_neg c2]
      refine (fin _ ν4 h4 p4 hs4).eq ?_
      show bG (gNum Z 0 3 (if lkW 0 (tvl Z (yT q)) (yN q) = -1 then lat Z 4 (yT q) (wyT q (yT q + 1)) else wyT q (yT q + 1))) _ = _
      simp only [c2, ↓reduceIte]
  · have fn : ¬ lkW 10 (tvl Z (yT r)) (yN r) = -1 := by
      rw [fc, nI_nm1 (by have := hs1.2.1; omega)]; exact id
    rw [if_neg fn, if_neg fn]
    have b3 : yC (wyT r (yT r + 1)) = yC r := rfl
    generalize hq : wyT r (yT r + 1) = q at *
    refine (rd_take_e h2 hs2 hz (show 40 < 44 by omega)).b (fun n ν4 e4 hq4 => ?_)
    obtain ⟨h4, g4⟩ := hq4
    obtain ⟨rfl, k4, k5⟩ := gTake_ok e4
    have p4 : PnC ip ν4 (wyT q (yT q + 1)) := p2.fr g4 rfl
    obtain ⟨t1, t2, hs4⟩ := second q ν2 h2 p2 hs2 (by rw [← hq]; rfl) b3 k5 k4 ν4 h4 p4
    rw [ob_eq t1, ob_eq t2]
    have fin : ∀ (n : Sg) (ν5 : Mem), CuC Z ip ν5 n → PnC ip ν5 n → SgI Z n → yC n = yC r → CX (ob (rd_takeNumber (nI 0) (nI 3) ν5) fun r101 μ98 =>
if r101 = (nI 0) then
some ((nI 0), μ98) else
if (nI f) = (-1 : Int32) then
ob (rd_take (nI 30) μ98) fun r112 μ109 =>
if r112 = nI 0 ∨ r112 = nI 1 then
some (r112, μ109) else none else
if (mR μ98 12 0 3) < 2 then
if inB (nI f) 6 = true then
if (mR (stI μ98 28 (mR μ98 12 0 3) (cl (nI f)) (lkW 0 (tvl Z (yT q)) (yN q))) 12 0 3) < 2 then
ob (rd_taken (stI μ98 28 (mR μ98 12 0 3) (cl (nI f)) (lkW 0 (tvl Z (yT q)) (yN q)))) fun r126 μ123 =>
mb (stI μ123 29 (mR (stI μ98 28 (mR μ98 12 0 3) (cl (nI f)) (lkW 0 (tvl Z (yT q)) (yN q))) 12 0 3) (cl (nI f)) (Int64.toInt32 r126)) fun μ128 =>
ob (rd_take (nI 30) μ128) fun r133 μ130 =>
if r133 = nI 0 ∨ r133 = nI 1 then
some (r133, μ130) else none else none else none else none) (CP Z ip) (bG (gNum Z 0 3 n) fun o => bG (gTake Z 30 o) fun m => .ok (if lkW 10 (tvl Z (yT r)) (yN r) = -1 then m else stDr (cl (lkW 10 (tvl Z (yT r)) (yN r))) (lkW 0 (tvl Z (yT q)) (yN q)) (nI (tvl Z (yT n))) m)) := fun n ν5 a1 a2 a3 a4 => by
      have cf : cl (lkW 10 (tvl Z (yT r)) (yN r)) = f := by rw [fc, cl_nI (by have := hs1.2.1; omega)]
      simp only [fn, cf, ↓reduceIte]
      exact rd_drT_e a1 a2 a3 hz (by rw [a4]; exact hf) _
    rw [fc]
    by_cases c2 : lkW 0 (tvl Z (yT q)) (yN q) = -1
    · obtain ⟨ν5, e5, h5, g5⟩ := rd_failLater_e h4 hs4 (c := 4) (i := yT q) rfl (by omega)
      rw [if_pos c2, ob_eq e5]
      refine (fin _ ν5 h5 ((p4.fr g5 rfl).lat Z 4 (yT q)) (hs4.later (by omega) (Nat.lt_succ_self _)) ((lat_T _ _ _ _).2.2.1.trans b3)).eq ?_
      rw [fc]
      show bG (gNum Z 0 3 (if lkW 0 (tvl Z (yT q)) (yN q) = -1 then lat Z 4 (yT q) (wyT q (yT q + 1)) else wyT q (yT q + 1))) _ = _
      simp only [c2, ↓reduceIte]
    · rw [if_neg c2]
      refine (fin _ ν4 h4 p4 hs4 b3).eq ?_
      rw [fc]
      show bG (gNum Z 0 3 (if lkW 0 (tvl Z (yT q)) (yN q) = -1 then lat Z 4 (yT q) (wyT q (yT q + 1)) else wyT q (yT q + 1))) _ = _
      simp only [c2, ↓reduceIte]
theorem PnC.at0 {ip : Nat} {μ : Mem} {s : Sg} (h : PnC ip μ s) (x : Int32) : PnC ip (stI μ 18 ip 3 x) (stAt 0 0 x s) := by
  obtain ⟨a0, a1, a2, a3, a4, a5, a6, a7, a8, a9, b0, b1, b2⟩ := h
  have A' : ∀ a b, yA (stAt 0 0 x s) a b = if a = 0 ∧ b = 0 then x else yA s a b := fun a b => up2_e _ _ _ _ _ _
  refine ⟨a0, by rw [mI_stI, if_neg (by omega)]; exact a1, by rw [mI_stI, if_neg (by omega)]; exact a2, by rw [mI_stI, if_neg (by omega)]; exact a3, by rw [mI_stI, if_pos ⟨rfl, rfl, rfl⟩, A', if_pos ⟨rfl, rfl⟩], by rw [A', if_neg (by omega)]; exact a5, a6, a7, a8, fun f hf => ?_, fun n hn => ⟨?_, ?_, ?_⟩, fun g hg => ⟨?_, ?_⟩, fun g hg => ?_⟩
  · rw [A', if_neg (by omega)]; exact a9 f hf
  · rw [A', if_neg (by omega)]; exact (b0 n hn).1
  · rw [A', if_neg (by omega)]; exact (b0 n hn).2.1
  · rw [A', if_neg (by omega)]; exact (b0 n hn).2.2
  · rw [A', if_neg (c := (5 = 0 ∧ g = _)) (by omega)]; exact (b1 g hg).1
  · rw [A', if_neg (c := (6 = 0 ∧ g = _)) (by omega)]; exact (b1 g hg).2
  · exact b2 g hg
theorem PnC.at1 {ip : Nat} {μ : Mem} {s : Sg} (h : PnC ip μ s) (x : Int32) : PnC ip (stI μ 26 ip 4 x) (stAt 0 1 x s) := by
  obtain ⟨a0, a1, a2, a3, a4, a5, a6, a7, a8, a9, b0, b1, b2⟩ := h
  have A' : ∀ a b, yA (stAt 0 1 x s) a b = if a = 0 ∧ b = 1 then x else yA s a b := fun a b => up2_e _ _ _ _ _ _
  refine ⟨a0, a1, a2, a3, by rw [A', if_neg (by omega)]; exact a4, by rw [mI_stI, if_pos ⟨rfl, rfl, rfl⟩, A', if_pos ⟨rfl, rfl⟩], ⟨by rw [mI_stI, if_neg (by omega)]; exact a6.1, by rw [mI_stI, if_neg (by omega)]; exact a6.2⟩, a7, a8, fun f hf => ?_, fun n hn => ⟨?_, ?_, ?_⟩, fun g hg => ⟨?_, ?_⟩, fun g hg => ?_⟩
  · rw [A', if_neg (by omega)]; exact a9 f hf
  · rw [A', if_neg (by omega)]; exact (b0 n hn).1
  · rw [A', if_neg (by omega)]; exact (b0 n hn).2.1
  · rw [A', if_neg (by omega)]; exact (b0 n hn).2.2
  · rw [A', if_neg (c := (5 = 0 ∧ g = _)) (by omega)]; exact (b1 g hg).1
  · rw [A', if_neg (c := (6 = 0 ∧ g = _)) (by omega)]; exact (b1 g hg).2
  · exact b2 g hg
theorem rd_readSpring_e {Z : Tks} {ip : Nat} {μ : Mem} {s : Sg} (h : CuC Z ip μ s) (p : PnC ip μ s) (hs : SgI Z s) (hz : ZOK Z) (k0 : tkd Z (yT s) ≠ 43) : CX (rd_readSpring μ) (CP Z ip) (gSpring Z s) := by
  have i2 := p.i2
  unfold rd_readSpring gSpring
  refine (rd_pass_e h hs).b (fun r ν e hq => ?_)
  obtain ⟨h1, g1⟩ := hq
  obtain ⟨rfl, k1⟩ := gPass_ok e
  have hs1 := hs.wyT k1 k0
  have p1 : PnC ip ν (wyT s (yT s + 1)) := p.fr g1 rfl
  refine (rd_takeNumber_e h1 hs1 hz (show 1 < 10000 by omega) (show 9 < 10000 by omega)).b (fun n ν3 e3 hq3 => ?_)
  obtain ⟨h4, g4⟩ := hq3
  obtain ⟨hs4, t4, n4, c4, a4, -, -⟩ := gNum_I hs1 e3
  obtain ⟨k3, k4, -⟩ := gNum_ok e3
  have p4 : PnC ip ν3 n := (p1.fr g4 rfl).eq n4 c4 a4
  have v4 := hz.2.2.2.1 _ k4
  have tk2 := rd_taken_e h4 hs4 (i := yT (wyT s (yT s + 1))) t4 (Or.inr k4)
  rw [h4.2.1, if_pos i2, ob_eq tk2, oL_i32 (by omega), mb_e]
  have h5 : CuC Z ip (stI ν3 26 ip 4 (nI (tvl Z (yT (wyT s (yT s + 1)))))) n := h4.fr (T := [(26, none, none)]) (Fr.stI (Fr.rf _ _) (iT 0 rfl inA_nn)) rfl
  refine ((rd_take_e h5 hs4 hz (show 30 < 44 by omega)).map (fun m ν4 e4 hq4 => ?_)).t
  obtain ⟨h6, g6⟩ := hq4
  obtain ⟨rfl, k5, k6⟩ := gTake_ok e4
  exact ⟨h6, (p4.at1 _).fr g6 rfl⟩
theorem rd_readSeed_e {Z : Tks} {ip : Nat} {μ : Mem} {s : Sg} (h : CuC Z ip μ s) (p : PnC ip μ s) (hs : SgI Z s) (hz : ZOK Z) (k0 : tkd Z (yT s) ≠ 43) : CX (rd_readSeed μ) (CP Z ip) (gSeed Z s) := by
  have i2 := p.i2
  unfold rd_readSeed gSeed
  refine (rd_pass_e h hs).b (fun r ν e hq => ?_)
  obtain ⟨h1, g1⟩ := hq
  obtain ⟨rfl, k1⟩ := gPass_ok e
  have hs1 := hs.wyT k1 k0
  have p1 : PnC ip ν (wyT s (yT s + 1)) := p.fr g1 rfl
  refine (rd_take_e h1 hs1 hz (show 41 < 44 by omega)).b (fun n ν3 e3 hq3 => ?_)
  obtain ⟨h4, g4⟩ := hq3
  obtain ⟨rfl, k3, k4⟩ := gTake_ok e3
  have hs4 := hs1.wyT k3 (by omega)
  generalize hr : wyT s (yT s + 1) = r at *
  have p4 : PnC ip ν3 (wyT r (yT r + 1)) := p1.fr g4 rfl
  have v4 := hz.2.2.2.1 _ k4
  have tk2 := rd_taken_e h4 hs4 (i := yT r) rfl (Or.inr k4)
  rw [h4.2.1, if_pos i2, ob_eq tk2, oL_i32 (by omega), mb_e]
  have h5 : CuC Z ip (stI ν3 18 ip 3 (nI (tvl Z (yT r)))) (wyT r (yT r + 1)) := h4.fr (T := [(18, none, none)]) (Fr.stI (Fr.rf _ _) (iT 0 rfl inA_nn)) rfl
  refine ((rd_take_e h5 hs4 hz (show 30 < 44 by omega)).map (fun m ν4 e4 hq4 => ?_)).t
  obtain ⟨h6, g6⟩ := hq4
  obtain ⟨rfl, k5, k6⟩ := gTake_ok e4
  exact ⟨h6, (p4.at0 _).fr g6 rfl⟩

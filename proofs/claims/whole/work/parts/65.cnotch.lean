/-! the class reads: notches -/
theorem lat_N (Z : Tks) (c i : Nat) (s : Sg) : yN (lat Z c i s) = yN s := (lat_T Z c i s).2.1
theorem PnC.lat {ip : Nat} {μ : Mem} {s : Sg} (h : PnC ip μ s) (Z : Tks) (c i : Nat) : PnC ip μ (lat Z c i s) := h.eq (lat_T Z c i s).2.1 (lat_T Z c i s).2.2.1 (lat_T Z c i s).2.2.2.1
theorem gTo_I {Z : Tks} {s r : Sg} (hs : SgI Z s) (h : gTo Z s = .ok r) : SgI Z r ∧ yT r = yT s + 1 ∧ yN r = yN s ∧ yC r = yC s ∧ yA r = yA s ∧ yW r = yW s ∧ ((yL r).1 = 0 → yL r = yL s ∧ (tkd Z (yT s) = 10 ∨ ¬ (lkW 0 (tvl Z (yT s)) (yN s) = -1 ∧ lkW 10 (tvl Z (yT s)) (yN s) = -1))) := by
  unfold gTo at h
  by_cases c : tkd Z (yT s) = 10
  · rw [if_pos c] at h
    obtain ⟨rfl, h3⟩ := gPass_ok h
    exact ⟨hs.wyT h3 (by omega), rfl, rfl, rfl, rfl, rfl, fun _ => ⟨rfl, Or.inl c⟩⟩
  · rw [if_neg c] at h
    obtain ⟨q, h1, h2⟩ := bG_ok h
    obtain ⟨rfl, h3, h4⟩ := gTake_ok h1
    have g := hs.wyT h3 (by omega)
    split at h2
    · cases h2
      obtain ⟨b1, b2, b3, b4, b5⟩ := lat_T Z 4 (yT s) (wyT s (yT s + 1))
      exact ⟨g.later (by omega) (Nat.lt_succ_self _), b1, b2, b3, b4, b5, fun z => absurd z (lat_nz (by omega))⟩
    · rename_i c
      cases h2
      exact ⟨g, rfl, rfl, rfl, rfl, rfl, fun _ => ⟨rfl, Or.inr c⟩⟩
theorem PnC.st23 {ip : Nat} {μ : Mem} {s : Sg} (h : PnC ip μ s) (v : Int32) : PnC ip (stI μ 23 ip (yC s).2.2 v) s := by
  obtain ⟨a0, a1, a2, a3, a4, a5, a6, a7, a8, a9, b0, b1, b2⟩ := h
  exact ⟨a0, a1, a2, a3, a4, a5, a6, a7, a8, a9, fun n hn => ⟨(b0 n hn).1, by rw [mI_stI, if_neg (by omega)]; exact (b0 n hn).2.1, (b0 n hn).2.2⟩, b1, b2⟩
theorem PnC.st22 {ip : Nat} {μ : Mem} {s : Sg} (h : PnC ip μ s) (v : Int32) : PnC ip (stI μ 22 ip (yC s).2.2 v) s := by
  obtain ⟨a0, a1, a2, a3, a4, a5, a6, a7, a8, a9, b0, b1, b2⟩ := h
  exact ⟨a0, a1, a2, a3, a4, a5, a6, a7, a8, a9, fun n hn => ⟨by rw [mI_stI, if_neg (by omega)]; exact (b0 n hn).1, (b0 n hn).2.1, (b0 n hn).2.2⟩, b1, b2⟩
theorem rd_readTo_e {Z : Tks} {ip : Nat} {μ : Mem} {s : Sg} (h : CuC Z ip μ s) (p : PnC ip μ s) (hs : SgI Z s) (hz : ZOK Z) (hn : (yC s).2.2 < 12) : CX (rd_readTo μ) (fun s' μ' => CuC Z ip μ' s' ∧ PnC ip μ' s' ∧ mI μ' 23 ip (yC s).2.2 = toV Z s ∧ mI μ' 22 ip (yC s).2.2 = mI μ 22 ip (yC s).2.2) (gTo Z s) := by
  have i2 := p.i2
  have k2 := hz.2.1 (yT s)
  unfold rd_readTo gTo
  rw [ob_eq (rd_kind_e h hs)]
  by_cases c : tkd Z (yT s) = 10
  · rw [if_pos c, if_pos (by rw [c])]
    have h1 : CuC Z ip (stI μ 23 ip (yC s).2.2 (nI 20)) s := h.fr (T := [(23, none, none)]) (Fr.stI (Fr.rf _ _) (iT 0 rfl inA_nn)) rfl
    simp (disch := omega) only [h.2.1, i2, p.c2, inB_nI, cl_nI, ↓mb_e, ↓reduceIte]
    refine ((rd_pass_e h1 hs).imp (fun r ν e hq => ?_)).t
    obtain ⟨h2, g2⟩ := hq
    obtain ⟨rfl, -⟩ := gPass_ok e
    refine ⟨h2, (p.st23 (nI 20)).fr g2 rfl, ?_, g2.I rfl⟩
    rw [g2.I rfl, mI_stI, if_pos ⟨rfl, rfl, rfl⟩]
    unfold toV
    rw [if_pos c]
  · rw [if_neg c, if_neg (by rw [nI_eqF c (by omega) (by omega)]; exact id)]
    refine (rd_take_e h hs hz (show 40 < 44 by omega)).b (fun r ν e hq => ?_)
    obtain ⟨h1, g1⟩ := hq
    obtain ⟨rfl, k1, k2⟩ := gTake_ok e
    have hs1 := hs.wyT k1 (by omega)
    have tk := rd_taken_e h1 hs1 (i := yT s) rfl (Or.inl k2)
    have v4 := hz.2.2.2.2.1 _ k2
    have p1 : PnC ip ν (wyT s (yT s + 1)) := p.fr g1 rfl
    have l1 : rd_logNamed (oL ((tvl Z (yT s) : Nat) : Int)) ν = some (lkW 0 (tvl Z (yT s)) (yN s), ν) := rd_logNamed_e h1.2.1 p1 hs1 v4
    have l2 : rd_fieldNamed (oL ((tvl Z (yT s) : Nat) : Int)) ν = some (lkW 10 (tvl Z (yT s)) (yN s), ν) := rd_fieldNamed_e h1.2.1 p1 hs1 v4
    obtain ⟨ν2, e2, h2, g2⟩ := rd_failLater_e h1 hs1 (c := 4) (i := yT s) rfl (by omega)
    have fin : ∀ (μ2 : Mem) (r : Sg) (v : Int32), CuC Z ip μ2 r → PnC ip μ2 r → (yC r).2.2 = (yC s).2.2 → mI μ2 22 ip (yC s).2.2 = mI μ 22 ip (yC s).2.2 → v = toV Z s → CuC Z ip (stI μ2 23 ip (yC s).2.2 v) r ∧ PnC ip (stI μ2 23 ip (yC s).2.2 v) r ∧ mI (stI μ2 23 ip (yC s).2.2 v) 23 ip (yC s).2.2 = toV Z s ∧ mI (stI μ2 23 ip (yC s).2.2 v) 22 ip (yC s).2.2 = mI μ 22 ip (yC s).2.2 := fun μ2 r v a1 a2 a3 a4 a5 => by
      refine ⟨a1.fr (T := [(23, none, none)]) (Fr.stI (Fr.rf _ _) (iT 0 rfl inA_nn)) rfl, ?_, ?_, ?_⟩
      · rw [← a3]; exact a2.st23 v
      · rw [mI_stI, if_pos ⟨rfl, rfl, rfl⟩, a5]
      · rw [mI_stI, if_neg (by omega)]; exact a4
    have tv : toV Z s = if lkW 0 (tvl Z (yT s)) (yN s) = -1 then nI 10 + lkW 10 (tvl Z (yT s)) (yN s) else lkW 0 (tvl Z (yT s)) (yN s) := by unfold toV; rw [if_neg c]
    have pc : mI ν 18 ip 2 = nI (yC s).2.2 := p1.c2
    rw [ob_eq tk, ob_eq l1, ob_eq tk, ob_eq l2]
    by_cases c1 : lkW 0 (tvl Z (yT s)) (yN s) = -1
    · rw [if_pos c1] at tv
      rw [if_pos c1]
      by_cases c2 : lkW 10 (tvl Z (yT s)) (yN s) = -1
      · have p2 : PnC ip ν2 (lat Z 4 (yT s) (wyT s (yT s + 1))) := (p1.fr g2 rfl).lat Z 4 (yT s)
        have pc2 : mI ν2 18 ip 2 = nI (yC s).2.2 := (p1.fr g2 rfl).c2
        rw [if_pos c2, ob_eq e2, h2.2.1, if_pos i2, pc2, if_pos (inB_nI (by omega) (by omega)), cl_nI (by omega), if_pos ⟨c1, c2⟩, mb_e]
        exact ⟨_, rfl, fin ν2 _ _ h2 p2 (by rw [(lat_T Z 4 (yT s) (wyT s (yT s + 1))).2.2.1]; rfl) ((g2.I rfl).trans (g1.I rfl)) tv.symm⟩
      · rw [if_neg c2, h1.2.1, if_pos i2, pc, if_pos (inB_nI (by omega) (by omega)), cl_nI (by omega), if_neg (fun z => c2 z.2), mb_e]
        exact ⟨_, rfl, fin ν _ _ h1 p1 rfl (g1.I rfl) tv.symm⟩
    · rw [if_neg c1] at tv
      rw [if_neg c1, h1.2.1, if_pos i2, if_neg c1, pc, if_pos (inB_nI (by omega) (by omega)), cl_nI (by omega), if_neg (fun z => c1 z.1), mb_e]
      exact ⟨_, rfl, fin ν _ _ h1 p1 rfl (g1.I rfl) tv.symm⟩
theorem PnC.adN {ip : Nat} {μ : Mem} {s : Sg} (h : PnC ip μ s) {l t x : Int32} (h1 : mI μ 22 ip (yC s).2.2 = l) (h2 : mI μ 23 ip (yC s).2.2 = t) : PnC ip (stI (stI μ 27 ip (yC s).2.2 x) 18 ip 2 (nI ((yC s).2.2 + 1))) (adNo l t x s) := by
  obtain ⟨a0, a1, a2, a3, a4, a5, a6, a7, a8, a9, b0, b1, b2⟩ := h
  have A' : ∀ a b, yA (adNo l t x s) a b = if a = 4 ∧ b = (yC s).2.2 then x else if a = 3 ∧ b = (yC s).2.2 then t else if a = 2 ∧ b = (yC s).2.2 then l else yA s a b := fun a b => by
    show up2 (up2 (up2 (yA s) 2 (yC s).2.2 l) 3 (yC s).2.2 t) 4 (yC s).2.2 x a b = _
    rw [up2_e, up2_e, up2_e]
  have C1 : (yC (adNo l t x s)).2.1 = (yC s).2.1 := rfl
  have C2 : (yC (adNo l t x s)).2.2 = (yC s).2.2 + 1 := rfl
  refine ⟨a0, ?_, ?_, by rw [mI_stI, if_pos ⟨rfl, rfl, rfl⟩, C2], ?_, ?_, ⟨?_, ?_⟩, fun l w hw => ?_, fun f w hw => ?_, fun f hf => ?_, fun n hn => ⟨?_, ?_, ?_⟩, fun f hf => ⟨?_, ?_⟩, fun f hf => ?_⟩
  · rw [mI_stI, if_neg (by omega), mI_stI, if_neg (by omega)]; exact a1
  · rw [mI_stI, if_neg (by omega), mI_stI, if_neg (by omega)]; exact a2
  · rw [mI_stI, if_neg (by omega), mI_stI, if_neg (by omega), A', if_neg (by omega), if_neg (by omega), if_neg (by omega)]; exact a4
  · rw [mI_stI, if_neg (by omega), mI_stI, if_neg (by omega), A', if_neg (by omega), if_neg (by omega), if_neg (by omega)]; exact a5
  · rw [mI_stI, if_neg (by omega), mI_stI, if_neg (by omega)]; exact a6.1
  · rw [mI_stI, if_neg (by omega), mI_stI, if_neg (by omega)]; exact a6.2
  · exact a7 l w hw
  · exact a8 f w hw
  · rw [mI_stI, if_neg (by omega), mI_stI, if_neg (by omega), A', if_neg (by omega), if_neg (by omega), if_neg (by omega)]; exact a9 f hf
  · rw [C2] at hn
    rw [mI_stI, if_neg (by omega), mI_stI, if_neg (by omega), A', if_neg (by omega), if_neg (by omega)]
    by_cases z : n = (yC s).2.2
    · rw [if_pos ⟨rfl, z⟩, z]; exact h1
    · rw [if_neg (by omega)]; exact (b0 n (by omega)).1
  · rw [C2] at hn
    rw [mI_stI, if_neg (by omega), mI_stI, if_neg (by omega), A', if_neg (by omega)]
    by_cases z : n = (yC s).2.2
    · rw [if_pos ⟨rfl, z⟩, z]; exact h2
    · rw [if_neg (by omega), if_neg (by omega)]; exact (b0 n (by omega)).2.1
  · rw [C2] at hn
    rw [mI_stI, if_neg (by omega), mI_stI, A']
    by_cases z : n = (yC s).2.2
    · rw [if_pos ⟨rfl, rfl, z⟩, if_pos ⟨rfl, z⟩]
    · rw [if_neg (by omega), if_neg (by omega), if_neg (by omega), if_neg (by omega)]; exact (b0 n (by omega)).2.2
  · rw [mI_stI, if_neg (by omega), mI_stI, if_neg (by omega), show yA (adNo l t x s) 5 f = yA s 5 f by rw [A', if_neg (by omega), if_neg (by omega), if_neg (by omega)], C1]; exact (b1 f hf).1
  · rw [mI_stI, if_neg (by omega), mI_stI, if_neg (by omega), show yA (adNo l t x s) 6 f = yA s 6 f by rw [A', if_neg (by omega), if_neg (by omega), if_neg (by omega)], C1]; exact (b1 f hf).2
  · rw [mI_stI, if_neg (by omega), mI_stI, if_neg (by omega)]; exact b2 f hf
/-- what stands behind a notch's log -/
theorem rd_noT_e {Z : Tks} {ip : Nat} {μ : Mem} {s : Sg} (h : CuC Z ip μ s) (p : PnC ip μ s) (hs : SgI Z s) (hz : ZOK Z) (hn : (yC s).2.2 < 12) (l : Int32) : CX (if (mR μ 12 0 3) < 2 then
if inB (mI μ 18 (mR μ 12 0 3) 2) 12 = true then
mb (stI μ 22 (mR μ 12 0 3) (cl (mI μ 18 (mR μ 12 0 3) 2)) l) fun μ163 =>
ob (rd_readTo μ163) fun r168 μ165 =>
if r168 = (nI 0) then
some ((nI 0), μ165) else
ob (rd_takeNumber (nI 0) (nI 3) μ165) fun r176 μ173 =>
if r176 = (nI 0) then
some ((nI 0), μ173) else
if (mR μ173 12 0 3) < 2 then
ob (rd_taken μ173) fun r186 μ183 =>
if inB (mI μ173 18 (mR μ173 12 0 3) 2) 12 = true then
mb (stI μ183 27 (mR μ173 12 0 3) (cl (mI μ173 18 (mR μ173 12 0 3) 2)) (Int64.toInt32 r186)) fun μ190 =>
if (mR μ190 12 0 3) < 2 then
mb (stI μ190 18 (mR μ190 12 0 3) 2 ((mI μ190 18 (mR μ190 12 0 3) 2) + (nI 1))) fun μ194 =>
ob (rd_take (nI 30) μ194) fun r199 μ196 =>
if r199 = nI 0 ∨ r199 = nI 1 then
some (r199, μ196) else none else none else none else none else none else none) (CP Z ip) (bG (gTo Z s) fun p => bG (gNum Z 0 3 p) fun o => bG (gTake Z 30 o) fun n => .ok (adNo l (toV Z s) (nI (tvl Z (yT p))) n)) := by
  have i2 := p.i2
  rw [h.2.1, if_pos i2, p.c2, if_pos (inB_nI (by omega) (by omega)), cl_nI (by omega), mb_e]
  have h1 : CuC Z ip (stI μ 22 ip (yC s).2.2 l) s := h.fr (T := [(22, none, none)]) (Fr.stI (Fr.rf _ _) (iT 0 rfl inA_nn)) rfl
  refine (rd_readTo_e h1 (p.st22 l) hs hz hn).b (fun q ν e hq => ?_)
  obtain ⟨h2, p2, v23, v22⟩ := hq
  obtain ⟨hs2, t2, n2, c2, a2, -, -⟩ := gTo_I hs e
  rw [mI_stI, if_pos ⟨rfl, rfl, rfl⟩] at v22
  refine (rd_takeNumber_e h2 hs2 hz (show 0 < 10000 by omega) (show 3 < 10000 by omega)).b (fun n ν3 e3 hq3 => ?_)
  obtain ⟨h4, g4⟩ := hq3
  obtain ⟨hs4, t4, n4, c4, a4, -, -⟩ := gNum_I hs2 e3
  obtain ⟨k3, k4, -⟩ := gNum_ok e3
  have p4 : PnC ip ν3 n := (p2.fr g4 rfl).eq n4 c4 a4
  have p4c : mI ν3 18 ip 2 = nI (yC s).2.2 := by rw [p4.c2, c4, c2]
  have v4 := hz.2.2.2.1 _ k4
  have tk2 := rd_taken_e h4 hs4 (i := yT q) t4 (Or.inr k4)
  generalize hM : stI ν3 27 ip (yC s).2.2 (nI (tvl Z (yT q))) = M
  have f1 : mR M 12 0 3 = ip := by rw [← hM]; exact h4.2.1
  have f2 : mI M 18 ip 2 = nI (yC s).2.2 := by rw [← hM, mI_stI, if_neg (by omega)]; exact p4c
  simp (disch := omega) only [h4.2.1, i2, ↓ob_eq tk2, p4c, inB_nI, cl_nI, ↓mb_e, oL_i32, hM, f1, f2, nI_add, ↓reduceIte]
  have h5 : CuC Z ip (stI M 18 ip 2 (nI ((yC s).2.2 + 1))) n := by
    rw [← hM]
    exact h4.fr (T := [(27, none, none), (18, none, none)]) (Fr.stI (Fr.stI (Fr.rf _ _) (iT 0 rfl inA_nn)) (iT 1 rfl inA_nn)) rfl
  refine ((rd_take_e h5 hs4 hz (show 30 < 44 by omega)).map (fun m ν4 e4 hq4 => ?_)).t
  obtain ⟨h6, g6⟩ := hq4
  obtain ⟨rfl, k5, k6⟩ := gTake_ok e4
  have cn : (yC n).2.2 = (yC s).2.2 := by rw [c4, c2]
  have p5 := p4.adN (x := nI (tvl Z (yT q))) ((congrArg (mI ν3 22 ip) cn).trans ((g4.I rfl).trans v22)) ((congrArg (mI ν3 23 ip) cn).trans ((g4.I rfl).trans v23))
  rw [cn, hM] at p5
  exact ⟨h6, p5.fr g6 rfl⟩
theorem notches_x {ip : Nat} {μ : Mem} {s : Sg} (h : PnC ip μ s) (hn : (yC s).2.2 ≤ 12) (l : Int32) : pl_notchesOf ip l μ = some (bitI (yC s).2.2 (fun n => decide (yA s 2 n = l)), μ) := by
  have c2 := h.c2
  have b0 := h.2.2.2.2.2.2.2.2.2.2.1
  refine fixN_up (fun i (self : Int32 → Int32 → Mem → Option (Int32 × Mem)) => self (bitI i (fun n => decide (yA s 2 n = l))) (nI i) μ = some (bitI (yC s).2.2 (fun n => decide (yA s 2 n = l)), μ)) (yC s).2.2 ?_ ?_ 60000 0 (by omega) (by omega)
  · intro i self hi ih
    rw [bitI_s] at ih
    unfold pl_notchesOf_B4
    have b := (b0 i hi).1
    simp (disch := omega) only [c2, nI_leF, inB_nI, cl_nI, b, nI_add, ↓reduceIte]
    by_cases e : yA s 2 i = l
    · rw [if_pos (decide_eq_true e)] at ih
      rw [if_pos e]; exact ih
    · rw [if_neg (by simpa using e)] at ih
      rw [if_neg e]; exact ih
  · intro self
    unfold pl_notchesOf_B4
    simp (disch := omega) only [c2, nI_leT, ↓reduceIte]
theorem bits_x {p : Nat → Bool} {n : Nat} (hn : n ≤ 24) (μ : Mem) : j_bitCount (bitI n p) μ = some (nI (cntB n p), μ) := by
  have h1 : bitI 24 (fun i => p i && decide (i < n)) = bitI n p := by
    rw [bitI_ext hn (fun i a b => by rw [decide_eq_false (by omega), Bool.and_false])]
    exact bitI_c (fun i hi => by rw [decide_eq_true hi, Bool.and_true])
  have h2 : cntB 24 (fun i => p i && decide (i < n)) = cntB n p := by
    rw [cntB_ext hn (fun i a b => by rw [decide_eq_false (by omega), Bool.and_false])]
    exact cntB_c (fun i hi => by rw [decide_eq_true hi, Bool.and_true])
  rw [← h1, j_bits_24, h2]
theorem latN_T (Z : Tks) (i : Nat) (l : Int32) (s : Sg) : yT (latN Z i l s) = yT s ∧ yN (latN Z i l s) = yN s ∧ yC (latN Z i l s) = yC s ∧ yA (latN Z i l s) = yA s ∧ yW (latN Z i l s) = yW s := by
  unfold latN
  split
  · exact lat_T _ _ _ _
  · split
    · exact lat_T _ _ _ _
    · exact ⟨rfl, rfl, rfl, rfl, rfl⟩
theorem SgI.ltN {Z : Tks} {s : Sg} (h : SgI Z s) {i : Nat} {l : Int32} (hi : i < yT s) : SgI Z (latN Z i l s) := by
  unfold latN
  split
  · exact h.later (by omega) hi
  · split
    · exact h.later (by omega) hi
    · exact h
theorem toV_eq {Z : Tks} {s r : Sg} (h1 : yT r = yT s) (h2 : yN r = yN s) : toV Z r = toV Z s := by
  unfold toV
  rw [h1, h2]
theorem rd_readNotch_e {Z : Tks} {ip : Nat} {μ : Mem} {s : Sg} (h : CuC Z ip μ s) (p : PnC ip μ s) (hs : SgI Z s) (hz : ZOK Z) (k0 : tkd Z (yT s) ≠ 43) : CX (rd_readNotch μ) (CP Z ip) (gNotch Z s) := by
  have i2 := p.i2
  have s0 := hs.2.2.1
  unfold rd_readNotch gNotch
  rw [h.2.1, if_pos i2, p.c2]
  by_cases c : (yC s).2.2 = 12
  · rw [if_pos c, if_neg (by rw [nI_ltF (by omega) (by omega)]; exact id)]
    exact (rd_fail_e h hs (Or.inr rfl)).t
  · rw [if_neg c, if_pos (nI_lt (by omega) (by omega))]
    refine (rd_pass_e h hs).b (fun r ν e hq => ?_)
    obtain ⟨h1, g1⟩ := hq
    obtain ⟨rfl, k1⟩ := gPass_ok e
    have hs1 := hs.wyT k1 k0
    have p1 : PnC ip ν (wyT s (yT s + 1)) := p.fr g1 rfl
    refine (rd_take_e h1 hs1 hz (show 40 < 44 by omega)).b (fun q ν2 e2 hq2 => ?_)
    obtain ⟨h2, g2⟩ := hq2
    obtain ⟨rfl, k2, k3⟩ := gTake_ok e2
    have hs2 := hs1.wyT k2 (by omega)
    have tk := rd_taken_e h2 hs2 (i := yT (wyT s (yT s + 1))) rfl (Or.inl k3)
    have v4 := hz.2.2.2.2.1 _ k3
    have p2 : PnC ip ν2 (wyT (wyT s (yT s + 1)) (yT (wyT s (yT s + 1)) + 1)) := p1.fr g2 rfl
    generalize hq : wyT (wyT s (yT s + 1)) (yT (wyT s (yT s + 1)) + 1) = q at *
    have qN : yN q = yN s := by rw [← hq]; rfl
    have qC : yC q = yC s := by rw [← hq]; rfl
    have qT : yT q = yT (wyT s (yT s + 1)) + 1 := by rw [← hq]; rfl
    have rN : yN (wyT s (yT s + 1)) = yN s := rfl
    generalize hi : yT (wyT s (yT s + 1)) = i at *
    have l1 : rd_logNamed (oL ((tvl Z i : Nat) : Int)) ν2 = some (lkW 0 (tvl Z i) (yN s), ν2) := by rw [← qN]; exact rd_logNamed_e h2.2.1 p2 hs2 v4
    rw [ob_eq tk, ob_eq l1, rN]
    generalize hl : lkW 0 (tvl Z i) (yN s) = l
    obtain ⟨b1, b2, b3, b4, b5⟩ := latN_T Z i l q
    have tv : toV Z (latN Z i l q) = toV Z q := toV_eq b1 b2
    have hsL := hs2.ltN (i := i) (l := l) (by omega)
    by_cases c1 : l = -1
    · obtain ⟨ν3, e3, h3, g3⟩ := rd_failLater_e h2 hs2 (c := 4) (i := i) qT (by omega)
      rw [if_pos c1, ob_eq e3]
      have e : latN Z i l q = lat Z 4 i q := by unfold latN; rw [if_pos c1]
      have r := rd_noT_e (l := l) (h3) ((p2.fr g3 rfl).lat Z 4 i) (by rw [← e]; exact hsL) hz (by rw [(lat_T Z 4 i q).2.2.1, qC]; omega)
      rw [← e, tv] at r
      exact r
    · have e4 := notches_x p2 (by rw [qC]; omega) l
      have e5 := bits_x (p := fun n => decide (yA q 2 n = l)) (n := (yC q).2.2) (by rw [qC]; omega) ν2
      have q12 : (yC q).2.2 ≤ 12 := by rw [qC]; omega
      have cle := cntB_le (fun n => decide (yA q 2 n = l)) (yC q).2.2
      rw [if_neg c1, h2.2.1, if_pos i2, ob_eq e4, ob_eq e5]
      by_cases c2 : 3 ≤ ofLog q l
      · obtain ⟨ν3, e3, h3, g3⟩ := rd_failLater_e h2 hs2 (c := 6) (i := i) qT (by omega)
        have c2' : 3 ≤ cntB (yC q).2.2 (fun n => decide (yA q 2 n = l)) := c2
        rw [if_neg (by rw [nI_ltF c2' (by omega)]; exact id), ob_eq e3]
        have e : latN Z i l q = lat Z 6 i q := by unfold latN; rw [if_neg c1, if_pos c2]
        have r := rd_noT_e (l := l) (h3) ((p2.fr g3 rfl).lat Z 6 i) (by rw [← e]; exact hsL) hz (by rw [(lat_T Z 6 i q).2.2.1, qC]; omega)
        rw [← e, tv] at r
        exact r
      · have c2' : cntB (yC q).2.2 (fun n => decide (yA q 2 n = l)) < 3 := Nat.lt_of_not_le c2
        rw [if_pos (nI_lt c2' (by omega))]
        have e : latN Z i l q = q := by unfold latN; rw [if_neg c1, if_neg c2]
        have r := rd_noT_e (l := l) h2 p2 hs2 hz (by rw [qC]; omega)
        rw [e]
        exact r

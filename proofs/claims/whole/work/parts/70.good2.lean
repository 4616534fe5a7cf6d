/-! what the grammar keeps: drains, laws, all -/
theorem gDrain_I {Z : Tks} (hz : ZOK Z) {s r : Sg} (hs : SgI Z s) (k0 : tkd Z (yT s) ≠ 43) (h : gDrain Z s = .ok r) : SgI Z r ∧ yT s ≤ yT r ∧ yW r = yW s ∧ (SgG s → SgG r) := by
  unfold gDrain at h
  obtain ⟨a, h1, h⟩ := bG_ok h
  obtain ⟨q, h2, h⟩ := bG_ok h
  obtain ⟨p, h3, h⟩ := bG_ok h
  obtain ⟨n, h4, h⟩ := bG_ok h
  obtain ⟨o, h5, h⟩ := bG_ok h
  obtain ⟨rfl, t1⟩ := gPass_ok h1
  have hs1 := hs.wyT t1 k0
  have C1 : yC (wyT s (yT s + 1)) = yC s := rfl
  have A1 : yA (wyT s (yT s + 1)) = yA s := rfl
  have W1 : yW (wyT s (yT s + 1)) = yW s := rfl
  have L1 : yL (wyT s (yT s + 1)) = yL s := rfl
  have T1 : yT (wyT s (yT s + 1)) = yT s + 1 := rfl
  generalize wyT s (yT s + 1) = a at *
  obtain ⟨hs2, b1, b2, b3, b4, b5, -, -, b6⟩ := gKn_I hs1 h2
  obtain ⟨hs3, c1, c2, c3, c4, c5, -, -, c6⟩ := gKn_I hs2 h3
  obtain ⟨hs4, d1, d2, d3, d4, d5, d6⟩ := gNum_I hs3 h4
  have hs5 := gTake_I hs4 (by omega) h5
  obtain ⟨rfl, -, -⟩ := gTake_ok h5
  have base : SgG s → SgG (wyT n (yT n + 1)) := fun g => SgG.eq (s := s) g (d3.trans (c3.trans (b3.trans C1))) (d4.trans (c4.trans (b4.trans A1))) (d5.trans (c5.trans (b5.trans W1))) (fun z => by
    have z1 := (d6 z).2.2
    have hz1 : (yL p).1 = 0 := by rw [← z1]; exact z
    have z2 := (c6 hz1).2
    have hz2 : (yL q).1 = 0 := by rw [← z2]; exact hz1
    exact z1.trans (z2.trans ((b6 hz2).2.trans L1)))
  have T2 : yT s ≤ yT (wyT n (yT n + 1)) := by show yT s ≤ yT n + 1; omega
  have W2 : yW (wyT n (yT n + 1)) = yW s := d5.trans (c5.trans (b5.trans W1))
  split at h
  · cases h
    exact ⟨hs5, T2, W2, base⟩
  · rename_i cf
    cases h
    refine ⟨hs5, T2, W2, fun g => SgG.dr (s := wyT n (yT n + 1)) (base g) (fun hz0 => ?_)⟩
    obtain ⟨z1, z2, z3⟩ := d6 hz0
    have hz1 : (yL p).1 = 0 := by rw [← z3]; exact hz0
    have z4 := (c6 hz1).1
    have q0 := lkW_c (b := 0) (v := tvl Z (yT q)) hs2.2.2.2.1 (by have := hs2.1; omega) (by have := hs2.2.1; omega) (Or.inl rfl)
    rw [if_pos rfl] at q0
    have cc : yC (wyT n (yT n + 1)) = yC q := d3.trans c3
    rw [cc]
    exact ⟨q0.resolve_left z4, _, z2, rfl⟩
theorem gSpring_I {Z : Tks} {s r : Sg} (hs : SgI Z s) (k0 : tkd Z (yT s) ≠ 43) (h : gSpring Z s = .ok r) : SgI Z r ∧ yT s ≤ yT r ∧ yW r = yW s ∧ (SgG s → SgG r) := by
  unfold gSpring at h
  obtain ⟨a, h1, h⟩ := bG_ok h
  obtain ⟨n, h4, h⟩ := bG_ok h
  obtain ⟨o, h5, h⟩ := bG_ok h
  cases h
  obtain ⟨rfl, t1⟩ := gPass_ok h1
  have hs1 := hs.wyT t1 k0
  obtain ⟨hs4, d1, d2, d3, d4, d5, d6⟩ := gNum_I hs1 h4
  have hs5 := gTake_I hs4 (by omega) h5
  obtain ⟨rfl, -, -⟩ := gTake_ok h5
  have T1 : yT (wyT s (yT s + 1)) = yT s + 1 := rfl
  refine ⟨hs5, by show yT s ≤ yT n + 1; omega, d5, fun g => SgG.at1 (s := wyT n (yT n + 1)) (SgG.eq (s := s) g d3 d4 d5 (fun z => (d6 z).2.2)) (fun hz0 => ?_)⟩
  obtain ⟨z1, z2, z3⟩ := d6 hz0
  exact ⟨_, z1, z2, rfl⟩
theorem gSeed_I {Z : Tks} {s r : Sg} (hs : SgI Z s) (k0 : tkd Z (yT s) ≠ 43) (h : gSeed Z s = .ok r) : SgI Z r ∧ yT s ≤ yT r ∧ yW r = yW s ∧ (SgG s → SgG r) := by
  unfold gSeed at h
  obtain ⟨a, h1, h⟩ := bG_ok h
  obtain ⟨n, h4, h⟩ := bG_ok h
  obtain ⟨o, h5, h⟩ := bG_ok h
  cases h
  obtain ⟨rfl, t1⟩ := gPass_ok h1
  have hs1 := hs.wyT t1 k0
  have hs4 := gTake_I hs1 (by omega) h4
  obtain ⟨rfl, -, -⟩ := gTake_ok h4
  have hs5 := gTake_I hs4 (by omega) h5
  obtain ⟨rfl, -, -⟩ := gTake_ok h5
  refine ⟨hs5, ?_, rfl, fun g => SgG.at0 (s := s) g _⟩
  show yT s ≤ yT s + 1 + 1 + 1
  omega
/-- what a law leaves: the state but for where it reads and this law -/
def LwK (s r : Sg) (k : Nat) : Prop := ∃ L : Lw, lwOK L ∧ r = stLw k L (wyT s (yT r)) ∧ yT s ≤ yT r
theorem gLast_I {Z : Tks} (hz : ZOK Z) {k : Nat} {L : List (Rp × Rp × Rp)} {s r : Sg} (hs : SgI Z s) (hL : ∀ q ∈ L, rpOK q.1 ∧ rpOK q.2.1 ∧ rpOK q.2.2) (h : gLast Z k L s = .ok r) : SgI Z r ∧ LwK s r k := by
  unfold gLast at h
  obtain ⟨e, q, h1, h⟩ := bV_ok h
  obtain ⟨o, h5, h⟩ := bG_ok h
  cases h
  obtain ⟨e1, hs1, e2, e3, e4⟩ := gE_ok hz hs h1
  have hs5 := gTake_I hs1 (by omega) h5
  obtain ⟨rfl, -, -⟩ := gTake_ok h5
  refine ⟨hs5, (L, e), ⟨hL, e1⟩, ?_, by show yT s ≤ yT q + 1; omega⟩
  rw [e2]; rfl
theorem gIfs_I {Z : Tks} (hz : ZOK Z) {k : Nat} : ∀ (n : Nat) (L : List (Rp × Rp × Rp)) (s r : Sg), SgI Z s → (∀ q ∈ L, rpOK q.1 ∧ rpOK q.2.1 ∧ rpOK q.2.2) → gIfs Z k n L s = .ok r → SgI Z r ∧ LwK s r k
  | 0, L, s, r, hs, hL, h => by
    unfold gIfs at h
    split at h
    · cases h
    · exact gLast_I hz hs hL h
  | n + 1, L, s, r, hs, hL, h => by
    unfold gIfs at h
    split at h
    · rename_i c
      obtain ⟨r1, h1, h⟩ := bG_ok h
      obtain ⟨a, r2, h2, h⟩ := bV_ok h
      obtain ⟨r3, h3, h⟩ := bG_ok h
      obtain ⟨b, r4, h4, h⟩ := bV_ok h
      obtain ⟨r5, h5, h⟩ := bG_ok h
      obtain ⟨d, r6, h6, h⟩ := bV_ok h
      obtain ⟨r7, h7, h⟩ := bG_ok h
      obtain ⟨rfl, t1⟩ := gPass_ok h1
      have s1 := hs.wyT t1 (by omega)
      obtain ⟨x1, s2, x2, x3, x4⟩ := gE_ok hz s1 h2
      have s3 := gTake_I s2 (by omega) h3
      obtain ⟨rfl, -, -⟩ := gTake_ok h3
      obtain ⟨y1, s4, y2, y3, y4⟩ := gE_ok hz s3 h4
      have s5 := gTake_I s4 (by omega) h5
      obtain ⟨rfl, -, -⟩ := gTake_ok h5
      obtain ⟨z1, s6, z2, z3, z4⟩ := gE_ok hz s5 h6
      have s7 := gTake_I s6 (by omega) h7
      obtain ⟨rfl, -, -⟩ := gTake_ok h7
      obtain ⟨w1, Lw, w2, w3, w4⟩ := gIfs_I hz n _ _ r s7 (fun q hq => by
        rcases List.mem_append.mp hq with hq | hq
        · exact hL q hq
        · rw [List.mem_singleton] at hq; subst hq; exact ⟨x1, y1, z1⟩) h
      have T1 : yT (wyT s (yT s + 1)) = yT s + 1 := rfl
      have T2 : yT (wyT r2 (yT r2 + 1)) = yT r2 + 1 := rfl
      have T3 : yT (wyT r4 (yT r4 + 1)) = yT r4 + 1 := rfl
      have T4 : yT (wyT r6 (yT r6 + 1)) = yT r6 + 1 := rfl
      refine ⟨w1, Lw, w2, ?_, by omega⟩
      rw [w3, z2, y2, x2]; rfl
    · exact gLast_I hz hs hL h
theorem SgG.lw {s : Sg} (h : SgG s) {k : Nat} {L : Lw} (hL : lwOK L) : SgG (stLw k L s) := fun hz => by
  obtain ⟨a, b, c, d, e⟩ := h hz
  refine ⟨a, b, c, d, fun j => ?_⟩
  show lwOK (up (yW s) k L j)
  by_cases z : j = k
  · rw [z, up_s]; exact hL
  · rw [up_n _ _ z]; exact e j
theorem gLaw_I {Z : Tks} (hz : ZOK Z) {k : Nat} {s r : Sg} (hs : SgI Z s) (k0 : tkd Z (yT s) ≠ 43) (h : gLaw Z k s = .ok r) : SgI Z r ∧ LwK s r k := by
  unfold gLaw at h
  obtain ⟨a, h1, h⟩ := bG_ok h
  obtain ⟨q, h2, h⟩ := bG_ok h
  obtain ⟨rfl, t1⟩ := gPass_ok h1
  have s1 := hs.wyT t1 k0
  have s2 := gTake_I s1 (by omega) h2
  obtain ⟨rfl, -, -⟩ := gTake_ok h2
  obtain ⟨w1, L, w2, w3, w4⟩ := gIfs_I hz 4 [] _ r s2 (fun q hq => by cases hq) h
  refine ⟨w1, L, w2, w3, ?_⟩
  have T1 : yT (wyT (wyT s (yT s + 1)) (yT (wyT s (yT s + 1)) + 1)) = yT s + 1 + 1 := rfl
  omega
theorem gTell_I {Z : Tks} (hz : ZOK Z) {s r : Sg} (hs : SgI Z s) (k0 : tkd Z (yT s) ≠ 43) (h : gTell Z s = .ok r) : SgI Z r ∧ yT s ≤ yT r ∧ (SgG s → SgG r) := by
  unfold gTell at h
  split at h
  · obtain ⟨a, b, c, d⟩ := gLog_I hz hs k0 h; exact ⟨a, b, d⟩
  split at h
  · obtain ⟨a, b, c, d⟩ := gFld_I hz hs k0 h; exact ⟨a, b, d⟩
  split at h
  · obtain ⟨a, b, c, d⟩ := gNotch_I hz hs k0 h; exact ⟨a, b, d⟩
  split at h
  · obtain ⟨a, b, c, d⟩ := gDrain_I hz hs k0 h; exact ⟨a, b, d⟩
  split at h
  · obtain ⟨a, b, c, d⟩ := gSpring_I hs k0 h; exact ⟨a, b, d⟩
  split at h
  · obtain ⟨a, b, c, d⟩ := gSeed_I hs k0 h; exact ⟨a, b, d⟩
  split at h
  · obtain ⟨a, L, b, c, d⟩ := gLaw_I hz hs k0 h
    refine ⟨a, d, fun g => ?_⟩
    rw [c]
    exact SgG.lw (s := wyT s (yT r)) g b
  · cases h
/-- every tell goes on -/
theorem gTell_lt {Z : Tks} (hz : ZOK Z) {s r : Sg} (hs : SgI Z s) (k0 : tkd Z (yT s) ≠ 43) (h : gTell Z s = .ok r) : yT s < yT r := by
  have hp : ∀ a, gPass Z s = .ok a → yT a = yT s + 1 ∧ SgI Z a := fun a h1 => by
    obtain ⟨rfl, t1⟩ := gPass_ok h1
    exact ⟨rfl, hs.wyT t1 k0⟩
  unfold gTell at h
  split at h
  · unfold gLog at h
    split at h
    · cases h
    obtain ⟨a, h1, h⟩ := bG_ok h
    obtain ⟨q, h2, h⟩ := bG_ok h
    obtain ⟨p, h3, h⟩ := bG_ok h
    cases h
    obtain ⟨t1, s1⟩ := hp a h1
    have t2 := (gNew_I s1 h2).2.1
    obtain ⟨rfl, -, -⟩ := gTake_ok h3
    show yT s < yT q + 1
    omega
  split at h
  · unfold gFld at h
    split at h
    · cases h
    obtain ⟨a, h1, h⟩ := bG_ok h
    obtain ⟨q, h2, h⟩ := bG_ok h
    obtain ⟨n, h4, h⟩ := bG_ok h
    obtain ⟨p, h3, h⟩ := bG_ok h
    cases h
    obtain ⟨t1, s1⟩ := hp a h1
    have t2 := gNew_I s1 h2
    have t3 := (gNum_I t2.1 h4).2.1
    obtain ⟨rfl, -, -⟩ := gTake_ok h3
    show yT s < yT n + 1
    omega
  split at h
  · unfold gNotch at h
    split at h
    · cases h
    obtain ⟨a, h1, h⟩ := bG_ok h
    obtain ⟨q, h2, h⟩ := bG_ok h
    obtain ⟨p, h3, h⟩ := bG_ok h
    obtain ⟨n, h4, h⟩ := bG_ok h
    obtain ⟨o, h5, h⟩ := bG_ok h
    cases h
    obtain ⟨t1, s1⟩ := hp a h1
    have s2 := gTake_I s1 (by omega) h2
    obtain ⟨rfl, -, -⟩ := gTake_ok h2
    have sL := s2.ltN (i := yT a) (l := lkW 0 (tvl Z (yT a)) (yN a)) (Nat.lt_succ_self _)
    have t3 := gTo_I sL h3
    have t4 := (gNum_I t3.1 h4).2.1
    have l1 := (latN_T Z (yT a) (lkW 0 (tvl Z (yT a)) (yN a)) (wyT a (yT a + 1))).1
    have e1 : yT (wyT a (yT a + 1)) = yT a + 1 := rfl
    obtain ⟨rfl, -, -⟩ := gTake_ok h5
    show yT s < yT n + 1
    omega
  split at h
  · unfold gDrain at h
    obtain ⟨a, h1, h⟩ := bG_ok h
    obtain ⟨q, h2, h⟩ := bG_ok h
    obtain ⟨p, h3, h⟩ := bG_ok h
    obtain ⟨n, h4, h⟩ := bG_ok h
    obtain ⟨o, h5, h⟩ := bG_ok h
    obtain ⟨t1, s1⟩ := hp a h1
    have t2 := gKn_I s1 h2
    have t3 := gKn_I t2.1 h3
    have t4 := (gNum_I t3.1 h4).2.1
    obtain ⟨rfl, -, -⟩ := gTake_ok h5
    have e : yT r = yT n + 1 := by
      split at h
      · cases h; rfl
      · cases h; rfl
    omega
  split at h
  · unfold gSpring at h
    obtain ⟨a, h1, h⟩ := bG_ok h
    obtain ⟨n, h4, h⟩ := bG_ok h
    obtain ⟨o, h5, h⟩ := bG_ok h
    cases h
    obtain ⟨t1, s1⟩ := hp a h1
    have t4 := (gNum_I s1 h4).2.1
    obtain ⟨rfl, -, -⟩ := gTake_ok h5
    show yT s < yT n + 1
    omega
  split at h
  · unfold gSeed at h
    obtain ⟨a, h1, h⟩ := bG_ok h
    obtain ⟨n, h4, h⟩ := bG_ok h
    obtain ⟨o, h5, h⟩ := bG_ok h
    cases h
    obtain ⟨t1, s1⟩ := hp a h1
    obtain ⟨rfl, -, -⟩ := gTake_ok h4
    obtain ⟨rfl, -, -⟩ := gTake_ok h5
    show yT s < yT a + 1 + 1
    omega
  split at h
  · unfold gLaw at h
    obtain ⟨a, h1, h⟩ := bG_ok h
    obtain ⟨q, h2, h⟩ := bG_ok h
    obtain ⟨t1, s1⟩ := hp a h1
    have s2 := gTake_I s1 (by omega) h2
    obtain ⟨rfl, -, -⟩ := gTake_ok h2
    obtain ⟨-, L, -, -, w4⟩ := gIfs_I hz 4 [] _ r s2 (fun q hq => by cases hq) h
    have T1 : yT (wyT a (yT a + 1)) = yT a + 1 := rfl
    omega
  · cases h
theorem sg0_I (Z : Tks) : SgI Z sg0 := ⟨Nat.zero_le _, Nat.zero_le _, Nat.zero_le _, ⟨rfl, rfl⟩, fun q hq => (by cases hq), Nat.zero_le _, fun z => absurd rfl z, Nat.zero_le _, Nat.zero_le _⟩
theorem sg0_G : SgG sg0 := fun _ => ⟨fun n hn => absurd hn (Nat.not_lt_zero _), fun n hn => absurd hn (Nat.not_lt_zero _), ⟨8, by omega, by omega, rfl⟩, rfl, fun k => by
  show lwOK (plainL k)
  unfold plainL
  split <;> exact ⟨fun q hq => (by cases hq), rfl⟩⟩
theorem gTells_I {Z : Tks} (hz : ZOK Z) : ∀ f {s r : Sg}, SgI Z s → SgG s → gTells Z f s = .ok r → SgI Z r ∧ SgG r
  | 0, s, r, hs, hg, h => by cases h; exact ⟨hs, hg⟩
  | f + 1, s, r, hs, hg, h => by
    unfold gTells at h
    split at h
    · cases h; exact ⟨hs, hg⟩
    · rename_i c
      obtain ⟨q, h1, h2⟩ := bG_ok h
      obtain ⟨a, b, d⟩ := gTell_I hz hs c h1
      exact gTells_I hz f a (d hg) h2
/-! what a good text comes to -/
def plG (s : Sg) : Pl := ((yC s).1, (yC s).2.1, (yC s).2.2, yA s 0 0, yA s 1, fun n => cl (yA s 2 n), fun n => cl (yA s 3 n), yW s)
def stG (s : Sg) : Nat → Int32 := fun k => if k < 6 then (if k < (yC s).2.1 then yA s 5 k else nI 0) else if k < 12 then (if k - 6 < (yC s).2.1 then yA s 6 (k - 6) else nI 0) else if k < 18 then nI 0 else if k < 30 then (if k - 18 < (yC s).2.2 then yA s 4 (k - 18) else nI 0) else if k = 30 then yA s 0 1 else nI 0
theorem stG_d {s : Sg} {f : Nat} (h6 : (yC s).2.1 ≤ 6) (hf : f < (yC s).2.1) : stG s f = yA s 5 f := by unfold stG; rw [if_pos (by omega), if_pos hf]
theorem stG_q {s : Sg} {f : Nat} (h6 : (yC s).2.1 ≤ 6) (hf : f < (yC s).2.1) : stG s (6 + f) = yA s 6 f := by unfold stG; rw [if_neg (by omega), if_pos (by omega), show 6 + f - 6 = f by omega, if_pos hf]
theorem stG_g {s : Sg} {f : Nat} (hf : f < 6) : stG s (12 + f) = nI 0 := by unfold stG; rw [if_neg (by omega), if_neg (by omega), if_pos (by omega)]
theorem stG_w {s : Sg} {n : Nat} (h12 : (yC s).2.2 ≤ 12) (hn : n < (yC s).2.2) : stG s (18 + n) = yA s 4 n := by unfold stG; rw [if_neg (by omega), if_neg (by omega), if_neg (by omega), if_pos (by omega), show 18 + n - 18 = n by omega, if_pos hn]
theorem stG_s (s : Sg) : stG s 30 = yA s 0 1 ∧ stG s 31 = nI 0 ∧ stG s 32 = nI 0 := by
  unfold stG
  exact ⟨rfl, rfl, rfl⟩
theorem plG_ok {Z : Tks} {s : Sg} (hs : SgI Z s) (hg : SgG s) (h0 : (yL s).1 = 0) : PlOK (plG s) ∧ StOK (plG s) (stG s) := by
  obtain ⟨a, b, c, d, e⟩ := hg h0
  obtain ⟨s1, s2, s3, -⟩ := hs
  refine ⟨⟨s1, s2, s3, fun n hn => ?_, fun n hn => ?_, e⟩, fun n hn => ?_, fun f hf => ?_, ?_⟩
  · obtain ⟨⟨l, h1, h2⟩, -⟩ := a n hn
    show cl (yA s 2 n) < (yC s).1
    rw [h2, cl_nI (by omega)]; exact h1
  · obtain ⟨-, h3, -⟩ := a n hn
    show cl (yA s 3 n) < (yC s).1 ∨ (10 ≤ cl (yA s 3 n) ∧ cl (yA s 3 n) < 10 + (yC s).2.1) ∨ cl (yA s 3 n) = 20
    rcases h3 with ⟨l, h1, h2⟩ | ⟨f, h1, h2⟩ | h2
    · rw [h2, cl_nI (by omega)]; exact Or.inl h1
    · rw [h2, cl_nI (by omega)]; exact Or.inr (Or.inl ⟨by omega, by omega⟩)
    · rw [h2, cl_nI (by omega)]; exact Or.inr (Or.inr rfl)
  · have hn2 : n < (yC s).2.2 := hn
    obtain ⟨-, -, w, h1, h2⟩ := a n hn2
    unfold sW
    rw [stG_w s3 hn2, h2, cl_nI (by omega)]
    exact ⟨rfl, h1⟩
  · have hf2 : f < (yC s).2.1 := hf
    obtain ⟨q, h1, h2, h3⟩ := b f hf2
    unfold sQ sD sG
    rw [stG_q s2 hf2, stG_d s2 hf2, stG_g (by omega), h2, cl_nI (by omega), cl_nI (by omega)]
    refine ⟨rfl, h1, ?_, rfl, by omega⟩
    rcases h3 with ⟨h3, h4⟩ | ⟨d, h4, h5⟩
    · exact Or.inl ⟨h3, h4⟩
    · have h4' : d < (yC s).1 := h4
      rw [h5, cl_nI (by omega)]; exact Or.inr ⟨rfl, h4⟩
  · obtain ⟨w, h1, h2, h3⟩ := c
    unfold sS
    rw [(stG_s s).1, h3, cl_nI (by omega)]
    exact ⟨rfl, h1, h2⟩

/-! what the grammar keeps -/
theorem lat_z {Z : Tks} {c i : Nat} {s : Sg} (h : (yL (lat Z c i s)).1 = 0) (hc : c ≠ 0) : False := lat_nz hc h
theorem SgI.adL {Z : Tks} {s : Sg} (h : SgI Z s) (h4 : (yC s).1 ≠ 4) {v : Nat} (hv : v < 1000000000000) : SgI Z (adLog v s) := by
  obtain ⟨a1, a2, a3, a4, a5, a6, a7, a8, a9⟩ := h
  refine ⟨by show (yC s).1 + 1 ≤ 4; omega, a2, a3, a4.addL v, fun q hq => ?_, a6, a7, a8, a9⟩
  rcases List.mem_append.mp hq with hq | hq
  · exact a5 q hq
  · rw [List.mem_singleton] at hq; subst hq; exact hv
theorem SgG.adL {s : Sg} (h : SgG s) (v : Nat) : SgG (adLog v s) := fun hz => by
  obtain ⟨a, b, c, d, e⟩ := h hz
  refine ⟨fun n hn => ?_, fun f hf => ?_, c, d, e⟩
  · obtain ⟨⟨l, h1, h2⟩, h3, h4⟩ := a n hn
    refine ⟨⟨l, Nat.lt_succ_of_lt h1, h2⟩, ?_, h4⟩
    rcases h3 with ⟨l, h5, h6⟩ | h5
    · exact Or.inl ⟨l, Nat.lt_succ_of_lt h5, h6⟩
    · exact Or.inr h5
  · obtain ⟨q, h1, h2, h3⟩ := b f hf
    refine ⟨q, h1, h2, ?_⟩
    rcases h3 with h3 | ⟨d, h4, h5⟩
    · exact Or.inl h3
    · exact Or.inr ⟨d, Nat.lt_succ_of_lt h4, h5⟩
theorem SgI.adF {Z : Tks} {s : Sg} (h : SgI Z s) (h4 : (yC s).2.1 ≠ 6) {v : Nat} (hv : v < 1000000000000) (x : Int32) : SgI Z (adFld v x s) := by
  obtain ⟨a1, a2, a3, a4, a5, a6, a7, a8, a9⟩ := h
  refine ⟨a1, by show (yC s).2.1 + 1 ≤ 6; omega, a3, a4.addF v, fun q hq => ?_, a6, a7, a8, a9⟩
  rcases List.mem_append.mp hq with hq | hq
  · exact a5 q hq
  · rw [List.mem_singleton] at hq; subst hq; exact hv
theorem SgG.adF {s : Sg} (h : SgG s) (v : Nat) (x : Int32) : SgG (adFld v x s) := fun hz => by
  obtain ⟨a, b, c, d, e⟩ := h hz
  have A' : ∀ a b, yA (adFld v x s) a b = if a = 6 ∧ b = (yC s).2.1 then nI 0 else if a = 5 ∧ b = (yC s).2.1 then (-2 : Int32) else if a = 1 ∧ b = (yC s).2.1 then x else yA s a b := fun a b => by
    show up2 (up2 (up2 (yA s) 1 (yC s).2.1 _) 5 (yC s).2.1 (-2)) 6 (yC s).2.1 (nI 0) a b = _
    rw [up2_e, up2_e, up2_e]
  have A2 : ∀ i n, i ≠ 1 → i ≠ 5 → i ≠ 6 → yA (adFld v x s) i n = yA s i n := fun i n h1 h2 h3 => by rw [A', if_neg (fun z => h3 z.1), if_neg (fun z => h2 z.1), if_neg (fun z => h1 z.1)]
  refine ⟨fun n hn => ?_, fun f hf => ?_, ?_, d, e⟩
  · obtain ⟨h1, h3, h4⟩ := a n hn
    rw [A2 2 n (by omega) (by omega) (by omega), A2 3 n (by omega) (by omega) (by omega), A2 4 n (by omega) (by omega) (by omega)]
    refine ⟨h1, ?_, h4⟩
    rcases h3 with h5 | ⟨f, h5, h6⟩ | h5
    · exact Or.inl h5
    · exact Or.inr (Or.inl ⟨f, Nat.lt_succ_of_lt h5, h6⟩)
    · exact Or.inr (Or.inr h5)
  · have hf2 : f < (yC s).2.1 + 1 := hf
    by_cases z : f = (yC s).2.1
    · refine ⟨0, by omega, by rw [A', if_pos ⟨rfl, z⟩], Or.inl ⟨by rw [A', if_neg (by omega), if_pos ⟨rfl, z⟩], rfl⟩⟩
    · obtain ⟨q, h1, h2, h3⟩ := b f (by omega)
      refine ⟨q, h1, by rw [A', if_neg (by omega), if_neg (by omega), if_neg (by omega)]; exact h2, ?_⟩
      rw [show yA (adFld v x s) 5 f = yA s 5 f by rw [A', if_neg (by omega), if_neg (by omega), if_neg (by omega)]]
      exact h3
  · rw [A2 0 1 (by omega) (by omega) (by omega)]; exact c
theorem SgI.adN {Z : Tks} {s : Sg} (h : SgI Z s) (h4 : (yC s).2.2 ≠ 12) (l t x : Int32) : SgI Z (adNo l t x s) := by
  obtain ⟨a1, a2, a3, a4, a5, a6, a7, a8, a9⟩ := h
  exact ⟨a1, a2, by show (yC s).2.2 + 1 ≤ 12; omega, a4, a5, a6, a7, a8, a9⟩
theorem SgG.adN {s : Sg} (h : SgG s) {l t x : Int32} (g : (yL s).1 = 0 → (∃ i, i < (yC s).1 ∧ l = nI i) ∧ ((∃ i, i < (yC s).1 ∧ t = nI i) ∨ (∃ f, f < (yC s).2.1 ∧ t = nI (10 + f)) ∨ t = nI 20) ∧ ∃ w, w ≤ 3 ∧ x = nI w) : SgG (adNo l t x s) := fun hz => by
  obtain ⟨a, b, c, d, e⟩ := h hz
  obtain ⟨g1, g2, g3⟩ := g hz
  have A' : ∀ a b, yA (adNo l t x s) a b = if a = 4 ∧ b = (yC s).2.2 then x else if a = 3 ∧ b = (yC s).2.2 then t else if a = 2 ∧ b = (yC s).2.2 then l else yA s a b := fun a b => by
    show up2 (up2 (up2 (yA s) 2 (yC s).2.2 l) 3 (yC s).2.2 t) 4 (yC s).2.2 x a b = _
    rw [up2_e, up2_e, up2_e]
  have A2 : ∀ i n, i ≠ 2 → i ≠ 3 → i ≠ 4 → yA (adNo l t x s) i n = yA s i n := fun i n h1 h2 h3 => by rw [A', if_neg (fun z => h3 z.1), if_neg (fun z => h2 z.1), if_neg (fun z => h1 z.1)]
  refine ⟨fun n hn => ?_, fun f hf => ?_, ?_, d, e⟩
  · have hn2 : n < (yC s).2.2 + 1 := hn
    by_cases z : n = (yC s).2.2
    · rw [show yA (adNo l t x s) 2 n = l by rw [A', if_neg (by omega), if_neg (by omega), if_pos ⟨rfl, z⟩], show yA (adNo l t x s) 3 n = t by rw [A', if_neg (by omega), if_pos ⟨rfl, z⟩], show yA (adNo l t x s) 4 n = x by rw [A', if_pos ⟨rfl, z⟩]]
      exact ⟨g1, g2, g3⟩
    · rw [show yA (adNo l t x s) 2 n = yA s 2 n by rw [A', if_neg (by omega), if_neg (by omega), if_neg (by omega)], show yA (adNo l t x s) 3 n = yA s 3 n by rw [A', if_neg (by omega), if_neg (by omega), if_neg (by omega)], show yA (adNo l t x s) 4 n = yA s 4 n by rw [A', if_neg (by omega), if_neg (by omega), if_neg (by omega)]]
      exact a n (by omega)
  · rw [A2 5 f (by omega) (by omega) (by omega), A2 6 f (by omega) (by omega) (by omega)]; exact b f hf
  · rw [A2 0 1 (by omega) (by omega) (by omega)]; exact c
theorem SgG.dr {s : Sg} (h : SgG s) {f : Nat} {l x : Int32} (g : (yL s).1 = 0 → (∃ i, i < (yC s).1 ∧ l = nI i) ∧ ∃ w, w ≤ 3 ∧ x = nI w) : SgG (stDr f l x s) := fun hz => by
  obtain ⟨a, b, c, d, e⟩ := h hz
  obtain ⟨⟨i, g1, g2⟩, w, g3, g4⟩ := g hz
  have A' : ∀ a b, yA (stDr f l x s) a b = if a = 6 ∧ b = f then x else if a = 5 ∧ b = f then l else yA s a b := fun a b => by
    show up2 (up2 (yA s) 5 f l) 6 f x a b = _
    rw [up2_e, up2_e]
  have A2 : ∀ i n, i ≠ 5 → i ≠ 6 → yA (stDr f l x s) i n = yA s i n := fun i n h1 h2 => by rw [A', if_neg (fun z => h2 z.1), if_neg (fun z => h1 z.1)]
  refine ⟨fun n hn => ?_, fun g hg => ?_, ?_, d, e⟩
  · rw [A2 2 n (by omega) (by omega), A2 3 n (by omega) (by omega), A2 4 n (by omega) (by omega)]
    exact a n hn
  · by_cases z : g = f
    · refine ⟨w, g3, by rw [A', if_pos ⟨rfl, z⟩, g4], Or.inr ⟨i, g1, by rw [A', if_neg (by omega), if_pos ⟨rfl, z⟩, g2]⟩⟩
    · rw [show yA (stDr f l x s) 5 g = yA s 5 g by rw [A', if_neg (by omega), if_neg (by omega)], show yA (stDr f l x s) 6 g = yA s 6 g by rw [A', if_neg (by omega), if_neg (by omega)]]
      exact b g hg
  · rw [A2 0 1 (by omega) (by omega)]; exact c
theorem SgG.at1 {s : Sg} (h : SgG s) {x : Int32} (g : (yL s).1 = 0 → ∃ w, 1 ≤ w ∧ w ≤ 9 ∧ x = nI w) : SgG (stAt 0 1 x s) := fun hz => by
  obtain ⟨a, b, c, d, e⟩ := h hz
  have A' : ∀ a b, yA (stAt 0 1 x s) a b = if a = 0 ∧ b = 1 then x else yA s a b := fun a b => up2_e _ _ _ _ _ _
  have A2 : ∀ i n, i ≠ 0 → yA (stAt 0 1 x s) i n = yA s i n := fun i n h1 => by rw [A', if_neg (fun z => h1 z.1)]
  refine ⟨fun n hn => ?_, fun g hg => ?_, ?_, d, e⟩
  · rw [A2 2 n (by omega), A2 3 n (by omega), A2 4 n (by omega)]
    exact a n hn
  · rw [A2 5 g (by omega), A2 6 g (by omega)]
    exact b g hg
  · rw [A', if_pos ⟨rfl, rfl⟩]; exact g hz
theorem SgG.at0 {s : Sg} (h : SgG s) (x : Int32) : SgG (stAt 0 0 x s) := fun hz => by
  obtain ⟨a, b, c, d, e⟩ := h hz
  have A' : ∀ a b, yA (stAt 0 0 x s) a b = if a = 0 ∧ b = 0 then x else yA s a b := fun a b => up2_e _ _ _ _ _ _
  have A2 : ∀ i n, i ≠ 0 → yA (stAt 0 0 x s) i n = yA s i n := fun i n h1 => by rw [A', if_neg (fun z => h1 z.1)]
  refine ⟨fun n hn => ?_, fun g hg => ?_, ?_, d, e⟩
  · rw [A2 2 n (by omega), A2 3 n (by omega), A2 4 n (by omega)]
    exact a n hn
  · rw [A2 5 g (by omega), A2 6 g (by omega)]
    exact b g hg
  · rw [A', if_neg (by omega)]; exact c
/-- the same but for where it reads -/
theorem SgG.T {s : Sg} (h : SgG s) (t : Nat) : SgG (wyT s t) := h
theorem SgG.eq {s r : Sg} (h : SgG s) (e1 : yC r = yC s) (e2 : yA r = yA s) (e3 : yW r = yW s) (e4 : (yL r).1 = 0 → yL r = yL s) : SgG r := fun hz => by
  have e := e4 hz
  rw [e] at hz
  have := h hz
  rw [e1, e2, e3, e]
  exact this
theorem gLog_I {Z : Tks} (hz : ZOK Z) {s r : Sg} (hs : SgI Z s) (k0 : tkd Z (yT s) ≠ 43) (h : gLog Z s = .ok r) : SgI Z r ∧ yT s ≤ yT r ∧ yW r = yW s ∧ (SgG s → SgG r) := by
  unfold gLog at h
  split at h
  · cases h
  · rename_i c4
    obtain ⟨a, h1, h⟩ := bG_ok h
    obtain ⟨q, h2, h⟩ := bG_ok h
    obtain ⟨p, h3, h⟩ := bG_ok h
    cases h
    obtain ⟨rfl, t1⟩ := gPass_ok h1
    have hs1 := hs.wyT t1 k0
    obtain ⟨hs2, b1, b2, b3, b4, b5, b6, b7, b8⟩ := gNew_I hs1 h2
    have hs3 := gTake_I hs2 (by omega) h3
    obtain ⟨rfl, -, -⟩ := gTake_ok h3
    have cp : yC (wyT q (yT q + 1)) = yC s := b3
    have T : yT (adLog (tvl Z (yT (wyT s (yT s + 1)))) (wyT q (yT q + 1))) = yT q + 1 := rfl
    have T1 : yT (wyT s (yT s + 1)) = yT s + 1 := rfl
    refine ⟨hs3.adL (by rw [cp]; exact c4) (hz.2.2.2.2.1 _ b6), by omega, b5, fun g => ?_⟩
    refine SgG.adL (s := wyT q (yT q + 1)) ?_ _
    exact SgG.eq (s := s) g b3 b4 b5 (fun z => (b8 z).2)
theorem gFld_I {Z : Tks} (hz : ZOK Z) {s r : Sg} (hs : SgI Z s) (k0 : tkd Z (yT s) ≠ 43) (h : gFld Z s = .ok r) : SgI Z r ∧ yT s ≤ yT r ∧ yW r = yW s ∧ (SgG s → SgG r) := by
  unfold gFld at h
  split at h
  · cases h
  · rename_i c4
    obtain ⟨a, h1, h⟩ := bG_ok h
    obtain ⟨q, h2, h⟩ := bG_ok h
    obtain ⟨n, h5, h⟩ := bG_ok h
    obtain ⟨p, h3, h⟩ := bG_ok h
    cases h
    obtain ⟨rfl, t1⟩ := gPass_ok h1
    have hs1 := hs.wyT t1 k0
    obtain ⟨hs2, b1, b2, b3, b4, b5, b6, b7, b8⟩ := gNew_I hs1 h2
    obtain ⟨hs4, d1, d2, d3, d4, d5, d6⟩ := gNum_I hs2 h5
    have hs3 := gTake_I hs4 (by omega) h3
    obtain ⟨rfl, -, -⟩ := gTake_ok h3
    have cp : yC (wyT n (yT n + 1)) = yC s := d3.trans b3
    have T1 : yT (wyT s (yT s + 1)) = yT s + 1 := rfl
    refine ⟨hs3.adF (by rw [cp]; exact c4) (hz.2.2.2.2.1 _ b6) _, by show yT s ≤ yT n + 1; omega, d5.trans b5, fun g => ?_⟩
    refine SgG.adF (s := wyT n (yT n + 1)) ?_ _ _
    exact SgG.eq (s := s) g (d3.trans b3) (d4.trans b4) (d5.trans b5) (fun z => by
      have z1 := (d6 z).2.2
      have z2 := (b8 (by rw [← z1]; exact z)).2
      exact z1.trans z2)
theorem toV_g {Z : Tks} {s : Sg} (hs : SgI Z s) (h : tkd Z (yT s) = 10 ∨ ¬ (lkW 0 (tvl Z (yT s)) (yN s) = -1 ∧ lkW 10 (tvl Z (yT s)) (yN s) = -1)) : (∃ i, i < (yC s).1 ∧ toV Z s = nI i) ∨ (∃ f, f < (yC s).2.1 ∧ toV Z s = nI (10 + f)) ∨ toV Z s = nI 20 := by
  have q0 := lkW_c (b := 0) (v := tvl Z (yT s)) hs.2.2.2.1 (by have := hs.1; omega) (by have := hs.2.1; omega) (Or.inl rfl)
  have q1 := lkW_c (b := 10) (v := tvl Z (yT s)) hs.2.2.2.1 (by have := hs.1; omega) (by have := hs.2.1; omega) (Or.inr rfl)
  rw [if_pos rfl] at q0
  rw [if_neg (by omega)] at q1
  unfold toV
  by_cases c : tkd Z (yT s) = 10
  · rw [if_pos c]; exact Or.inr (Or.inr rfl)
  · rw [if_neg c]
    rcases q0 with q0 | ⟨i, q2, q3⟩
    · rw [if_pos q0]
      rcases q1 with q1 | ⟨f, q4, q5⟩
      · exfalso
        rcases h with h | h
        · exact c h
        · exact h ⟨q0, q1⟩
      · exact Or.inr (Or.inl ⟨f, q4, by rw [q5, nI_add]⟩)
    · rw [if_neg (by rw [q3, nI_nm1 (by have := hs.1; omega)]; exact id)]
      exact Or.inl ⟨i, q2, q3⟩
theorem gNotch_I {Z : Tks} (hz : ZOK Z) {s r : Sg} (hs : SgI Z s) (k0 : tkd Z (yT s) ≠ 43) (h : gNotch Z s = .ok r) : SgI Z r ∧ yT s ≤ yT r ∧ yW r = yW s ∧ (SgG s → SgG r) := by
  unfold gNotch at h
  split at h
  · cases h
  · rename_i c4
    obtain ⟨a, h1, h⟩ := bG_ok h
    obtain ⟨q, h2, h⟩ := bG_ok h
    obtain ⟨p, h3, h⟩ := bG_ok h
    obtain ⟨n, h4, h⟩ := bG_ok h
    obtain ⟨o, h5, h⟩ := bG_ok h
    cases h
    obtain ⟨rfl, t1⟩ := gPass_ok h1
    have hs1 := hs.wyT t1 k0
    obtain ⟨rfl, t2, k2⟩ := gTake_ok h2
    have hs2 := hs1.wyT t2 (by omega)
    have hsL := hs2.ltN (i := yT (wyT s (yT s + 1))) (l := lkW 0 (tvl Z (yT (wyT s (yT s + 1)))) (yN (wyT s (yT s + 1)))) (Nat.lt_succ_self _)
    obtain ⟨l1, l2, l3, l4, l5⟩ := latN_T Z (yT (wyT s (yT s + 1))) (lkW 0 (tvl Z (yT (wyT s (yT s + 1)))) (yN (wyT s (yT s + 1)))) (wyT (wyT s (yT s + 1)) (yT (wyT s (yT s + 1)) + 1))
    obtain ⟨hs3, b1, b2, b3, b4, b5, b6⟩ := gTo_I hsL h3
    obtain ⟨hs4, d1, d2, d3, d4, d5, d6⟩ := gNum_I hs3 h4
    have hs5 := gTake_I hs4 (by omega) h5
    obtain ⟨rfl, -, -⟩ := gTake_ok h5
    have cp : yC (wyT n (yT n + 1)) = yC s := d3.trans (b3.trans l3)
    refine ⟨hs5.adN (by rw [cp]; exact c4) _ _ _, ?_, (d5.trans b5).trans l5, fun g => ?_⟩
    · have e1 : yT (wyT (wyT s (yT s + 1)) (yT (wyT s (yT s + 1)) + 1)) = yT s + 2 := rfl
      show yT s ≤ yT n + 1
      omega
    · have key : (yL n).1 = 0 → yL n = yL s ∧ (∃ i, i < (yC s).1 ∧ lkW 0 (tvl Z (yT (wyT s (yT s + 1)))) (yN (wyT s (yT s + 1))) = nI i) ∧ (tkd Z (yT (latN Z (yT (wyT s (yT s + 1))) (lkW 0 (tvl Z (yT (wyT s (yT s + 1)))) (yN (wyT s (yT s + 1)))) (wyT (wyT s (yT s + 1)) (yT (wyT s (yT s + 1)) + 1)))) = 10 ∨ ¬ (lkW 0 (tvl Z (yT (latN Z (yT (wyT s (yT s + 1))) (lkW 0 (tvl Z (yT (wyT s (yT s + 1)))) (yN (wyT s (yT s + 1)))) (wyT (wyT s (yT s + 1)) (yT (wyT s (yT s + 1)) + 1))))) (yN (latN Z (yT (wyT s (yT s + 1))) (lkW 0 (tvl Z (yT (wyT s (yT s + 1)))) (yN (wyT s (yT s + 1)))) (wyT (wyT s (yT s + 1)) (yT (wyT s (yT s + 1)) + 1)))) = -1 ∧ lkW 10 (tvl Z (yT (latN Z (yT (wyT s (yT s + 1))) (lkW 0 (tvl Z (yT (wyT s (yT s + 1)))) (yN (wyT s (yT s + 1)))) (wyT (wyT s (yT s + 1)) (yT (wyT s (yT s + 1)) + 1))))) (yN (latN Z (yT (wyT s (yT s + 1))) (lkW 0 (tvl Z (yT (wyT s (yT s + 1)))) (yN (wyT s (yT s + 1)))) (wyT (wyT s (yT s + 1)) (yT (wyT s (yT s + 1)) + 1)))) = -1)) ∧ tvl Z (yT p) ≤ 3 := fun hz0 => by
        obtain ⟨z1, z2, z3⟩ := d6 hz0
        have hz1 : (yL p).1 = 0 := by rw [← z3]; exact hz0
        obtain ⟨z4, z5⟩ := b6 hz1
        have q0 := lkW_c (b := 0) (v := tvl Z (yT (wyT s (yT s + 1)))) hs.2.2.2.1 (by have := hs.1; omega) (by have := hs.2.1; omega) (Or.inl rfl)
        rw [if_pos rfl] at q0
        have hz2 : (yL (latN Z (yT (wyT s (yT s + 1))) (lkW 0 (tvl Z (yT (wyT s (yT s + 1)))) (yN (wyT s (yT s + 1)))) (wyT (wyT s (yT s + 1)) (yT (wyT s (yT s + 1)) + 1)))).1 = 0 := by rw [← z4]; exact hz1
        rcases q0 with q0 | q0
        · exfalso
          unfold latN at hz2
          rw [if_pos (show lkW 0 (tvl Z (yT (wyT s (yT s + 1)))) (yN (wyT s (yT s + 1))) = -1 from q0)] at hz2
          exact lat_z hz2 (by omega)
        · refine ⟨z3.trans (z4.trans ?_), q0, z5, z2⟩
          unfold latN at hz2 ⊢
          split at hz2
          · exact absurd hz2 (lat_nz (by omega))
          · rename_i c1
            rw [if_neg c1]
            split at hz2
            · exact absurd hz2 (lat_nz (by omega))
            · rename_i c2
              rw [if_neg c2]; rfl
      refine SgG.adN (s := wyT n (yT n + 1)) (SgG.eq (s := s) g (d3.trans (b3.trans l3)) (d4.trans (b4.trans l4)) ((d5.trans b5).trans l5) (fun z => (key z).1)) (fun hz0 => ?_)
      obtain ⟨w1, w2, w3, w4⟩ := key hz0
      have tg := toV_g hsL w3
      rw [toV_eq l1 l2, l3] at tg
      rw [cp]
      exact ⟨w2, tg, _, w4, rfl⟩

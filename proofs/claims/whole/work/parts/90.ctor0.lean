/-! constructors: what has been made -/
/-- the slot of each cell that leads to it for good -/
def parT : List (Nat × Nat × Nat) := [(0, 0, 0), (10, 0, 0), (0, 0, 0), (18, 0, 4), (18, 0, 5), (18, 0, 6), (18, 0, 7), (18, 0, 8), (18, 0, 9), (18, 0, 10), (18, 0, 12), (26, 0, 0), (26, 0, 1), (26, 0, 2), (26, 0, 3), (0, 0, 0), (18, 1, 4), (18, 1, 5), (18, 1, 6), (18, 1, 7), (18, 1, 8), (18, 1, 9), (18, 1, 10), (18, 1, 12), (26, 1, 0), (26, 1, 1), (26, 1, 2), (26, 1, 3), (10, 0, 5), (12, 0, 2), (13, 0, 0), (13, 0, 1), (13, 0, 2), (12, 0, 7), (10, 0, 6), (31, 0, 1), (26, 2, 0), (26, 2, 1), (26, 2, 2), (26, 2, 3), (31, 0, 2), (32, 0, 5), (32, 0, 6), (32, 0, 7), (32, 0, 8), (32, 0, 9), (32, 0, 10), (32, 0, 11), (32, 0, 12), (40, 0, 0), (40, 0, 1), (40, 0, 2), (40, 0, 3), (31, 0, 3), (31, 0, 4), (10, 0, 7), (31, 1, 1), (26, 3, 0), (26, 3, 1), (26, 3, 2), (26, 3, 3), (31, 1, 2), (32, 1, 5), (32, 1, 6), (32, 1, 7), (32, 1, 8), (32, 1, 9), (32, 1, 10), (32, 1, 11), (32, 1, 12), (40, 1, 0), (40, 1, 1), (40, 1, 2), (40, 1, 3), (31, 1, 3), (31, 1, 4), (10, 0, 8), (44, 0, 0), (45, 0, 0), (26, 4, 0), (26, 4, 1), (26, 4, 2), (26, 4, 3), (45, 0, 1), (26, 5, 0), (26, 5, 1), (26, 5, 2), (26, 5, 3), (45, 0, 2), (26, 6, 0), (26, 6, 1), (26, 6, 2), (26, 6, 3), (45, 0, 3), (26, 7, 0), (26, 7, 1), (26, 7, 2), (26, 7, 3), (45, 0, 4), (26, 8, 0), (26, 8, 1), (26, 8, 2), (26, 8, 3), (45, 0, 5), (26, 9, 0), (26, 9, 1), (26, 9, 2), (26, 9, 3), (45, 0, 6), (26, 10, 0), (26, 10, 1), (26, 10, 2), (26, 10, 3), (45, 0, 7), (26, 11, 0), (26, 11, 1), (26, 11, 2), (26, 11, 3), (45, 0, 8), (26, 12, 0), (26, 12, 1), (26, 12, 2), (26, 12, 3), (45, 0, 9), (26, 13, 0), (26, 13, 1), (26, 13, 2), (26, 13, 3), (45, 0, 10), (26, 14, 0), (26, 14, 1), (26, 14, 2), (26, 14, 3), (45, 0, 11), (26, 15, 0), (26, 15, 1), (26, 15, 2), (26, 15, 3), (45, 0, 12), (26, 16, 0), (26, 16, 1), (26, 16, 2), (26, 16, 3), (45, 0, 13), (26, 17, 0), (26, 17, 1), (26, 17, 2), (26, 17, 3), (45, 0, 14), (26, 18, 0), (26, 18, 1), (26, 18, 2), (26, 18, 3), (45, 0, 15), (26, 19, 0), (26, 19, 1), (26, 19, 2), (26, 19, 3), (45, 0, 16), (26, 20, 0), (26, 20, 1), (26, 20, 2), (26, 20, 3), (45, 0, 17), (26, 21, 0), (26, 21, 1), (26, 21, 2), (26, 21, 3), (45, 0, 18), (26, 22, 0), (26, 22, 1), (26, 22, 2), (26, 22, 3), (45, 0, 19), (26, 23, 0), (26, 23, 1), (26, 23, 2), (26, 23, 3), (45, 0, 20), (26, 24, 0), (26, 24, 1), (26, 24, 2), (26, 24, 3), (45, 0, 21), (26, 25, 0), (26, 25, 1), (26, 25, 2), (26, 25, 3), (45, 0, 22), (26, 26, 0), (26, 26, 1), (26, 26, 2), (26, 26, 3), (45, 0, 23), (26, 27, 0), (26, 27, 1), (26, 27, 2), (26, 27, 3), (45, 0, 24), (26, 28, 0), (26, 28, 1), (26, 28, 2), (26, 28, 3), (45, 0, 25), (26, 29, 0), (26, 29, 1), (26, 29, 2), (26, 29, 3), (45, 0, 26), (26, 30, 0), (26, 30, 1), (26, 30, 2), (26, 30, 3), (45, 0, 27), (26, 31, 0), (26, 31, 1), (26, 31, 2), (26, 31, 3), (45, 0, 28), (26, 32, 0), (26, 32, 1), (26, 32, 2), (26, 32, 3), (45, 0, 29), (26, 33, 0), (26, 33, 1), (26, 33, 2), (26, 33, 3), (45, 0, 30), (26, 34, 0), (26, 34, 1), (26, 34, 2), (26, 34, 3), (45, 0, 31), (26, 35, 0), (26, 35, 1), (26, 35, 2), (26, 35, 3), (45, 0, 32), (26, 36, 0), (26, 36, 1), (26, 36, 2), (26, 36, 3), (45, 0, 33), (26, 37, 0), (26, 37, 1), (26, 37, 2), (26, 37, 3), (45, 0, 34), (26, 38, 0), (26, 38, 1), (26, 38, 2), (26, 38, 3), (45, 0, 35), (26, 39, 0), (26, 39, 1), (26, 39, 2), (26, 39, 3), (45, 0, 36), (26, 40, 0), (26, 40, 1), (26, 40, 2), (26, 40, 3), (45, 0, 37), (26, 41, 0), (26, 41, 1), (26, 41, 2), (26, 41, 3), (45, 0, 38), (26, 42, 0), (26, 42, 1), (26, 42, 2), (26, 42, 3), (45, 0, 39), (26, 43, 0), (26, 43, 1), (26, 43, 2), (26, 43, 3), (10, 0, 9), (10, 0, 10), (10, 0, 11), (48, 0, 0), (48, 0, 1), (48, 0, 2), (10, 0, 12), (52, 0, 0), (52, 0, 1), (52, 0, 2), (52, 0, 3), (52, 0, 4), (52, 0, 5), (52, 0, 6), (52, 0, 7), (52, 0, 8), (52, 0, 9), (52, 0, 10), (52, 0, 11), (52, 0, 12), (52, 0, 13), (52, 0, 14), (52, 0, 15), (52, 0, 16), (52, 0, 17), (52, 0, 18), (52, 0, 19), (52, 0, 20), (52, 0, 21), (52, 0, 22), (52, 0, 23), (10, 0, 13), (46, 0, 0), (26, 44, 0), (26, 44, 1), (26, 44, 2), (26, 44, 3), (46, 0, 1), (26, 45, 0), (26, 45, 1), (26, 45, 2), (26, 45, 3), (46, 0, 2), (26, 46, 0), (26, 46, 1), (26, 46, 2), (26, 46, 3), (0, 0, 0), (55, 0, 1), (55, 0, 3), (55, 0, 5), (55, 0, 6), (55, 0, 7), (55, 0, 8), (55, 0, 9), (55, 0, 21), (55, 0, 22), (55, 0, 23), (55, 0, 24), (55, 0, 25), (55, 0, 26), (55, 0, 27), (55, 0, 28), (55, 0, 29), (55, 0, 30), (55, 0, 31), (55, 0, 32), (55, 0, 33), (55, 0, 34), (55, 0, 35), (55, 0, 37), (55, 0, 38), (55, 0, 39), (55, 0, 40), (55, 0, 41), (55, 0, 43), (55, 0, 44), (55, 0, 45), (55, 0, 47), (55, 0, 48), (55, 0, 50), (55, 0, 51), (55, 0, 54), (55, 0, 55), (55, 0, 58), (55, 0, 59), (55, 0, 60), (55, 0, 62), (55, 0, 63), (55, 0, 66), (55, 0, 68), (55, 0, 69), (55, 0, 70), (55, 0, 71), (55, 0, 72), (55, 0, 73)]
def cN (r N : Nat) : Nat := (invT.take N).countP (fun q => q.1 == r)
def Cnt (μ : Mem) (N : Nat) : Prop := mC μ 0 = N ∧ ∀ r, 10 ≤ r → mC μ r = cN r N
theorem inv_len : invT.length = 374 := by decide +kernel
theorem cN_tab : ∀ N, N < 374 → cN (invT.getD N (0, 0)).1 N = (invT.getD N (0, 0)).2 ∧ 10 ≤ (invT.getD N (0, 0)).1 ∧ (invT.getD N (0, 0)).1 < 104 ∧ (invT.getD N (0, 0)).2 < cap (invT.getD N (0, 0)).1 ∧ ord (invT.getD N (0, 0)).1 (invT.getD N (0, 0)).2 = N := by decide +kernel
theorem inv_at {N r i : Nat} (e : invT[N]? = some (r, i)) : N < 374 ∧ cN r N = i ∧ 10 ≤ r ∧ r < 104 ∧ i < cap r ∧ ord r i = N := by
  have h : N < invT.length := by
    rcases Nat.lt_or_ge N invT.length with c | c
    · exact c
    · rw [List.getElem?_eq_none c] at e; cases e
  rw [inv_len] at h
  have g : invT.getD N (0, 0) = (r, i) := by rw [List.getD_eq_getElem?_getD, e]; rfl
  have := cN_tab N h
  rw [g] at this
  exact ⟨h, this⟩
theorem cN_s {N r i : Nat} (e : invT[N]? = some (r, i)) (q : Nat) : cN q (N + 1) = cN q N + if r = q then 1 else 0 := by
  have h := (inv_at e).1
  have hl : N < invT.length := by rw [inv_len]; exact h
  have g : invT[N] = (r, i) := by
    rw [List.getElem?_eq_getElem hl] at e
    exact Option.some.inj e
  unfold cN
  rw [List.take_succ_eq_append_getElem hl, List.countP_append, g]
  by_cases c : r = q
  · rw [if_pos c, List.countP_cons_of_pos (by simpa using c)]; rfl
  · rw [if_neg c, List.countP_cons_of_neg (by simpa using c)]; rfl
theorem cN_mono {q N M : Nat} (h : N ≤ M) : cN q N ≤ cN q M := by
  unfold cN
  exact List.Sublist.countP_le (List.take_sublist_take_left h)
theorem Cnt.new {μ : Mem} {N r i : Nat} (h : Cnt μ N) (e : invT[N]? = some (r, i)) : mC μ r = i ∧ Cnt (newC μ r) (N + 1) := by
  obtain ⟨h1, h2, h3, h4, h5, h6⟩ := inv_at e
  refine ⟨(h.2 r h3).trans h2, ?_, fun q hq => ?_⟩
  · rw [mC_newC, if_neg (by omega), if_pos rfl, h.1]
  · rw [mC_newC, cN_s e q, h.2 r h3]
    by_cases c : q = r
    · rw [if_pos c, if_pos c.symm, c]
    · rw [if_neg c, if_neg (by omega), if_neg (fun z => c z.symm), h.2 q hq, Nat.add_zero]
theorem Cnt.due {μ : Mem} {N r i md : Nat} (h : Cnt μ N) (e : invT[N]? = some (r, i)) (hl : ∀ j, isS r j = 0 ∨ md < isS r j) : dueC md μ r := by
  obtain ⟨h1, h2, h3, h4, h5, h6⟩ := inv_at e
  have m := (h.new e).1
  exact ⟨h3, h4, by rw [m]; exact h5, by rw [m, h6, h.1], hl⟩
theorem Cnt.old {μ : Mem} {N n r i : Nat} (h : Cnt μ N) (e : invT[n]? = some (r, i)) (hn : n < N) : i < mC μ r := by
  obtain ⟨h1, h2, h3, h4, h5, h6⟩ := inv_at e
  have a := cN_s e r
  rw [if_pos rfl, h2] at a
  have b := cN_mono (q := r) (show n + 1 ≤ N by omega)
  rw [h.2 r h3]
  omega
theorem Cnt.young {μ : Mem} {N n r i : Nat} (h : Cnt μ N) (e : invT[n]? = some (r, i)) (hn : N ≤ n) : mC μ r ≤ i := by
  obtain ⟨h1, h2, h3, h4, h5, h6⟩ := inv_at e
  rw [h.2 r h3, ← h2]
  exact cN_mono hn
theorem Cnt.R {μ : Mem} {N r i : Nat} {f : Nat → Nat} (h : Cnt μ N) : Cnt (rowR μ r i f) N := h
theorem Cnt.I {μ : Mem} {N r i : Nat} {f : Nat → Int32} (h : Cnt μ N) : Cnt (rowI μ r i f) N := h
/-- what leads for good leads right, but for the slots of E -/
def RO (b : Nat) (μ : Mem) (N : Nat) (E : List (Nat × Nat × Nat)) : Prop := ∀ (n : Nat) (q : Nat × Nat × Nat), parT[n]? = some q → q.1 ≠ 0 → b ≤ n → n < N → q ∉ E → mR μ q.1 q.2.1 q.2.2 = chs q.1 q.2.1 q.2.2
theorem par_tab : ∀ n, n < 374 → (parT.getD n (0, 0, 0)).1 = 0 ∨ (10 ≤ (parT.getD n (0, 0, 0)).1 ∧ (parT.getD n (0, 0, 0)).1 < 104 ∧ (parT.getD n (0, 0, 0)).2.1 < cap (parT.getD n (0, 0, 0)).1 ∧ ord (parT.getD n (0, 0, 0)).1 (parT.getD n (0, 0, 0)).2.1 < n ∧ isS (parT.getD n (0, 0, 0)).1 (parT.getD n (0, 0, 0)).2.2 ≠ 0 ∧ rkd (parT.getD n (0, 0, 0)).1 ≠ 10 ∧ rkd (parT.getD n (0, 0, 0)).1 ≠ 11) := by decide +kernel
theorem par_len : parT.length = 374 := by decide +kernel
theorem par_at {n r i k : Nat} (e : parT[n]? = some (r, i, k)) (h0 : r ≠ 0) : n < 374 ∧ 10 ≤ r ∧ r < 104 ∧ i < cap r ∧ ord r i < n ∧ isS r k ≠ 0 ∧ rkd r ≠ 10 ∧ rkd r ≠ 11 := by
  have h : n < parT.length := by
    rcases Nat.lt_or_ge n parT.length with c | c
    · exact c
    · rw [List.getElem?_eq_none c] at e; cases e
  rw [par_len] at h
  have g : parT.getD n (0, 0, 0) = (r, i, k) := by rw [List.getD_eq_getElem?_getD, e]; rfl
  have := par_tab n h
  rw [g] at this
  rcases this with this | this
  · exact absurd this h0
  · exact ⟨h, this⟩
theorem ord_inv {r i : Nat} (h1 : r < 104) (h2 : i < cap r) : invT[ord r i]? = some (r, i) := inv_ok r h1 i h2
theorem RO.new {b : Nat} {μ : Mem} {N r i : Nat} {E : List (Nat × Nat × Nat)} {q0 : Nat × Nat × Nat} (h : RO b μ N E) (hc : Cnt μ N) (e : invT[N]? = some (r, i)) (p : parT[N]? = some q0) : RO b (newC μ r) (N + 1) (q0 :: E) := fun n q hq h0 hb hn hE => by
  obtain ⟨r', i', k'⟩ := q
  obtain ⟨g1, g2, g3, g4, g5, g6, -, -⟩ := par_at hq h0
  have m := (hc.new e).1
  by_cases c : n = N
  · subst c
    rw [hq] at p
    exact absurd (Option.some.inj p) (fun z => hE (by rw [← z]; exact List.mem_cons_self))
  · have a := h n (r', i', k') hq h0 hb (by omega) (fun z => hE (List.mem_cons_of_mem _ z))
    show mR (newC μ r) r' i' k' = _
    rw [mR_newC, if_neg (fun z => by
      have o := (inv_at e).2.2.2.2.2
      rw [m] at z
      rw [z.1, z.2, o] at g5
      omega)]
    exact a
theorem RO.put {b : Nat} {μ : Mem} {N r i k v : Nat} {E : List (Nat × Nat × Nat)} (h : RO b μ N ((r, i, k) :: E)) (hv : v = chs r i k) : RO b (rowR μ r i (up (mR μ r i) k v)) N E := fun n q hq h0 hb hn hE => by
  obtain ⟨r', i', k'⟩ := q
  show mR (rowR μ r i (up (mR μ r i) k v)) r' i' k' = chs r' i' k'
  rw [mR_rowR]
  by_cases c : r' = r ∧ i' = i
  · rw [if_pos c]
    unfold up
    by_cases d : k' = k
    · rw [if_pos d, hv, c.1, c.2, d]
    · rw [if_neg d]
      have a := h n (r', i', k') hq h0 hb hn (fun z => by
        rcases List.mem_cons.mp z with z | z
        · cases z; exact d rfl
        · exact hE z)
      rw [c.1, c.2] at a
      rw [c.1, c.2]; exact a
  · rw [if_neg c]
    exact h n (r', i', k') hq h0 hb hn (fun z => by
      rcases List.mem_cons.mp z with z | z
      · cases z; exact c ⟨rfl, rfl⟩
      · exact hE z)
theorem RO.putO {b : Nat} {μ : Mem} {N r i k v : Nat} {E : List (Nat × Nat × Nat)} (h : RO b μ N E) (hs : isS r k = 0) : RO b (rowR μ r i (up (mR μ r i) k v)) N E := fun n q hq h0 hb hn hE => by
  obtain ⟨r', i', k'⟩ := q
  obtain ⟨-, -, -, -, -, g6, -, -⟩ := par_at hq h0
  have a := h n (r', i', k') hq h0 hb hn hE
  show mR (rowR μ r i (up (mR μ r i) k v)) r' i' k' = chs r' i' k'
  rw [mR_rowR]
  by_cases c : r' = r ∧ i' = i
  · rw [if_pos c]
    unfold up
    rw [if_neg (fun d => g6 (by rw [c.1, d]; exact hs))]
    rw [c.1, c.2] at a
    rw [c.1, c.2]; exact a
  · rw [if_neg c]; exact a
theorem RO.z {b : Nat} {μ : Mem} {N : Nat} {E : List (Nat × Nat × Nat)} {i k : Nat} (h : RO b μ N ((0, i, k) :: E)) : RO b μ N E := fun n q hq h0 hb hn hE => h n q hq h0 hb hn (fun z => by
  rcases List.mem_cons.mp z with z | z
  · rw [z] at h0; exact h0 rfl
  · exact hE z)
theorem RO.I {b : Nat} {μ : Mem} {N r i : Nat} {f : Nat → Int32} {E : List (Nat × Nat × Nat)} (h : RO b μ N E) : RO b (rowI μ r i f) N E := h
/-- nothing that was there before changes but the cell of its own -/
def Kp (r i : Nat) (μ μ' : Mem) : Prop := (∀ q, mC μ q ≤ mC μ' q) ∧ ∀ r' i', i' < mC μ r' → ¬ (r' = r ∧ i' = i) → mI μ' r' i' = mI μ r' i' ∧ mL μ' r' i' = mL μ r' i' ∧ mR μ' r' i' = mR μ r' i'
theorem Kp.rf (r i : Nat) (μ : Mem) : Kp r i μ μ := ⟨fun _ => Nat.le_refl _, fun _ _ _ _ => ⟨rfl, rfl, rfl⟩⟩
theorem newC_le (μ : Mem) (a q : Nat) : mC μ q ≤ mC (newC μ a) q := by
  rw [mC_newC]
  by_cases c : q = a
  · rw [if_pos c, c]; omega
  · rw [if_neg c]
    by_cases d : q = 0
    · rw [if_pos d, d]; omega
    · rw [if_neg d]; exact Nat.le_refl _
theorem Kp.new {r i : Nat} {μ μ' : Mem} (h : Kp r i μ μ') (a : Nat) : Kp r i μ (newC μ' a) := ⟨fun q => Nat.le_trans (h.1 q) (newC_le _ _ _), fun r' i' h1 h2 => by
  have l := h.1 r'
  have n : ¬ (r' = a ∧ i' = mC μ' a) := fun z => by rw [z.1] at h1 l; omega
  rw [mI_newC, mL_newC, mR_newC, if_neg n, if_neg n, if_neg n]
  exact h.2 r' i' h1 h2⟩
theorem Kp.R {r i : Nat} {μ μ' : Mem} (h : Kp r i μ μ') (f : Nat → Nat) : Kp r i μ (rowR μ' r i f) := ⟨h.1, fun r' i' h1 h2 => by
  refine ⟨(h.2 r' i' h1 h2).1, (h.2 r' i' h1 h2).2.1, ?_⟩
  rw [mR_rowR, if_neg h2]; exact (h.2 r' i' h1 h2).2.2⟩
theorem Kp.I {r i : Nat} {μ μ' : Mem} (h : Kp r i μ μ') (f : Nat → Int32) : Kp r i μ (rowI μ' r i f) := ⟨h.1, fun r' i' h1 h2 => by
  refine ⟨?_, (h.2 r' i' h1 h2).2.1, (h.2 r' i' h1 h2).2.2⟩
  rw [mI_rowI, if_neg h2]; exact (h.2 r' i' h1 h2).1⟩
/-- a new cell's slots -/
theorem Kp.RN {r i r1 i1 : Nat} {μ μ' : Mem} (h : Kp r i μ μ') (hn : mC μ r1 ≤ i1) (f : Nat → Nat) : Kp r i μ (rowR μ' r1 i1 f) := ⟨h.1, fun r' i' h1 h2 => by
  refine ⟨(h.2 r' i' h1 h2).1, (h.2 r' i' h1 h2).2.1, ?_⟩
  rw [mR_rowR, if_neg (fun z => by rw [z.1] at h1; omega)]; exact (h.2 r' i' h1 h2).2.2⟩
theorem Kp.call {r i r1 i1 : Nat} {μ μ' μ'' : Mem} (h : Kp r i μ μ') (g : Kp r1 i1 μ' μ'') (hn : mC μ r1 ≤ i1) : Kp r i μ μ'' := ⟨fun q => Nat.le_trans (h.1 q) (g.1 q), fun r' i' h1 h2 => by
  obtain ⟨a1, a2, a3⟩ := h.2 r' i' h1 h2
  obtain ⟨b1, b2, b3⟩ := g.2 r' i' (Nat.lt_of_lt_of_le h1 (h.1 r')) (fun z => by rw [z.1] at h1; omega)
  exact ⟨b1.trans a1, b2.trans a2, b3.trans a3⟩⟩
theorem Cnt.multi {μ : Mem} {N r i r2 i2 n : Nat} (h : Cnt μ N) (e : invT[N]? = some (r, i)) (hr2 : 10 ≤ r2) (hne : r ≠ r2) (m2 : mC μ r2 = i2) (hrow : ∀ j, j < n → invT[N + 1 + j]? = some (r2, i2 + j)) : ∀ k, k ≤ n → Cnt (newN (newC μ r) r2 k) (N + 1 + k)
  | 0, _ => (h.new e).2
  | k + 1, hk => ((Cnt.multi h e hr2 hne m2 hrow k (by omega)).new (hrow k (by omega))).2
theorem RO.multi {b : Nat} {μ : Mem} {N r i r2 i2 n : Nat} {E : List (Nat × Nat × Nat)} {q0 : Nat × Nat × Nat} (h : RO b μ N E) (hc : Cnt μ N) (e : invT[N]? = some (r, i)) (p : parT[N]? = some q0) (hr2 : 10 ≤ r2) (hne : r ≠ r2) (m2 : mC μ r2 = i2) (hk2 : rkd r2 = 10 ∨ rkd r2 = 11) (hrow : ∀ j, j < n → invT[N + 1 + j]? = some (r2, i2 + j) ∧ parT[N + 1 + j]? = some (r, i, j) ∧ chs r i j = i2 + j) : Cnt (multiC μ r r2 n) (N + 1 + n) ∧ RO b (multiC μ r r2 n) (N + 1 + n) (q0 :: E) := by
  have m := (hc.new e).1
  refine ⟨hc.multi e hr2 hne m2 (fun j hj => (hrow j hj).1) n (Nat.le_refl _), fun n' q hq h0 hb hn hE => ?_⟩
  obtain ⟨r', i', k'⟩ := q
  obtain ⟨g1, g2, g3, g4, g5, g6, g7, g8⟩ := par_at hq h0
  show mR (rowR (newN (newC μ r) r2 n) r (mC μ r) (fun j => if j < n then mC μ r2 + j else nul)) r' i' k' = chs r' i' k'
  rw [mR_rowR, m, m2]
  have o := (inv_at e).2.2.2.2.2
  by_cases c0 : N < n'
  · obtain ⟨j, rfl⟩ : ∃ j, n' = N + 1 + j := ⟨n' - (N + 1), by omega⟩
    have hr := (hrow j (by omega)).2
    rw [hq] at hr
    obtain ⟨rfl, rfl, rfl⟩ : r' = r ∧ i' = i ∧ k' = j := by
      have := Option.some.inj hr.1
      exact ⟨congrArg (·.1) this, congrArg (·.2.1) this, congrArg (·.2.2) this⟩
    rw [if_pos ⟨rfl, rfl⟩, if_pos (by omega)]
    exact hr.2.symm
  · by_cases c : n' = N
    · subst c
      rw [hq] at p
      exact absurd (Option.some.inj p) (fun z => hE (by rw [← z]; exact List.mem_cons_self))
    · rw [if_neg (fun z => by rw [z.1, z.2, o] at g5; omega), (newN_row (newC μ r) (show r2 ≠ 0 by omega) r' i' n).2.2, if_neg (fun z => by rw [z.1] at g7 g8; rcases hk2 with w | w <;> omega), mR_newC, m, if_neg (fun z => by rw [z.1, z.2, o] at g5; omega)]
      exact h n' (r', i', k') hq h0 hb (by omega) (fun z => hE (List.mem_cons_of_mem _ z))
theorem Kp.multi {r i a b n : Nat} {μ μ' : Mem} (h : Kp r i μ μ') (hb : b ≠ 0) (hab : a ≠ b) : Kp r i μ (multiC μ' a b n) := by
  have le : ∀ n q, mC (newC μ' a) q ≤ mC (newN (newC μ' a) b n) q := fun n q => by
    rw [newN_C _ hb]
    by_cases c : q = b
    · rw [if_pos c, c]; omega
    · rw [if_neg c]
      by_cases d : q = 0
      · rw [if_pos d, d]; omega
      · rw [if_neg d]; exact Nat.le_refl _
  refine ⟨fun q => Nat.le_trans (h.1 q) (Nat.le_trans (newC_le μ' a q) (le n q)), fun r' i' h1 h2 => ?_⟩
  have l := h.1 r'
  obtain ⟨x1, x2, x3⟩ := (h.new a).2 r' i' h1 h2
  obtain ⟨y1, y2, y3⟩ := newN_row (newC μ' a) hb r' i' n
  have nb : mC (newC μ' a) b = mC μ' b := by rw [mC_newC, if_neg (Ne.symm hab), if_neg hb]
  have nn : ¬ (r' = b ∧ mC (newC μ' a) b ≤ i' ∧ i' < mC (newC μ' a) b + n) := fun z => by
    rw [nb] at z
    rw [z.1] at h1 l
    omega
  rw [if_neg nn] at y1 y2 y3
  refine ⟨y1.trans x1, y2.trans x2, ?_⟩
  show mR (rowR (newN (newC μ' a) b n) a (mC μ' a) _) r' i' = _
  rw [mR_rowR, if_neg (fun z => by rw [z.1] at h1 l; omega)]
  exact y3.trans x3
theorem lv0 (r j : Nat) : isS r j = 0 ∨ 0 < isS r j := Nat.eq_zero_or_pos _

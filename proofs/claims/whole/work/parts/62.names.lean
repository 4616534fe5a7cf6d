/-! names -/
def lgs (N : List (Nat × Nat)) : List Nat := N.filterMap (fun q => if q.2 < 10 then some q.1 else none)
def fds (N : List (Nat × Nat)) : List Nat := N.filterMap (fun q => if q.2 < 10 then none else some q.1)
def NOK : Nat → Nat → List (Nat × Nat) → Nat → Nat → Prop
  | i, j, [], i', j' => i = i' ∧ j = j'
  | i, j, q :: t, i', j' => (q.2 = i ∧ NOK (i + 1) j t i' j') ∨ (q.2 = 10 + j ∧ NOK i (j + 1) t i' j')
theorem NOK.le : ∀ {N : List (Nat × Nat)} {i j i' j' : Nat}, NOK i j N i' j' → i ≤ i' ∧ j ≤ j'
  | [], i, j, i', j', h => ⟨Nat.le_of_eq h.1, Nat.le_of_eq h.2⟩
  | q :: t, i, j, i', j', h => by
    rcases h with ⟨-, h⟩ | ⟨-, h⟩
    · have := NOK.le h; omega
    · have := NOK.le h; omega
theorem NOK.len : ∀ {N : List (Nat × Nat)} {i j i' j' : Nat}, NOK i j N i' j' → i' ≤ 10 → (lgs N).length + i = i' ∧ (fds N).length + j = j' ∧ N.length + i + j = i' + j'
  | [], i, j, i', j', h, _ => by
    obtain ⟨h1, h2⟩ := h
    simp [lgs, fds]
    omega
  | q :: t, i, j, i', j', h, h10 => by
    rcases h with ⟨h1, h⟩ | ⟨h1, h⟩
    · have a := NOK.len h h10
      have b := NOK.le h
      unfold lgs fds at a ⊢
      rw [List.filterMap_cons_some (b := q.1) (by rw [if_pos (by omega)]), List.filterMap_cons_none (by rw [if_pos (by omega)])]
      simp only [List.length_cons]
      omega
    · have a := NOK.len h h10
      have b := NOK.le h
      unfold lgs fds at a ⊢
      rw [List.filterMap_cons_none (by rw [if_neg (by omega)]), List.filterMap_cons_some (b := q.1) (by rw [if_neg (by omega)])]
      simp only [List.length_cons]
      omega
theorem NOK.addL : ∀ {N : List (Nat × Nat)} {i j i' j' : Nat} (v : Nat), NOK i j N i' j' → NOK i j (N ++ [(v, i')]) (i' + 1) j'
  | [], i, j, i', j', v, h => Or.inl ⟨h.1.symm, by rw [h.1], h.2⟩
  | q :: t, i, j, i', j', v, h => by
    rcases h with ⟨h1, h⟩ | ⟨h1, h⟩
    · exact Or.inl ⟨h1, NOK.addL v h⟩
    · exact Or.inr ⟨h1, NOK.addL v h⟩
theorem NOK.addF : ∀ {N : List (Nat × Nat)} {i j i' j' : Nat} (v : Nat), NOK i j N i' j' → NOK i j (N ++ [(v, 10 + j')]) i' (j' + 1)
  | [], i, j, i', j', v, h => Or.inr ⟨by rw [h.2], h.1, by rw [h.2]⟩
  | q :: t, i, j, i', j', v, h => by
    rcases h with ⟨h1, h⟩ | ⟨h1, h⟩
    · exact Or.inl ⟨h1, NOK.addF v h⟩
    · exact Or.inr ⟨h1, NOK.addF v h⟩
theorem lgs_L (N : List (Nat × Nat)) (v : Nat) {i : Nat} (h : i < 10) : lgs (N ++ [(v, i)]) = lgs N ++ [v] ∧ fds (N ++ [(v, i)]) = fds N := by
  unfold lgs fds
  rw [List.filterMap_append, List.filterMap_append]
  simp [h]
theorem lgs_F (N : List (Nat × Nat)) (v j : Nat) : lgs (N ++ [(v, 10 + j)]) = lgs N ∧ fds (N ++ [(v, 10 + j)]) = fds N ++ [v] := by
  unfold lgs fds
  rw [List.filterMap_append, List.filterMap_append]
  simp
def idxF (i v : Nat) : List Nat → Int32
  | [] => -1
  | w :: t => if w = v then nI i else idxF (i + 1) v t
theorem idxF_c : ∀ (l : List Nat) (i v : Nat), idxF i v l = -1 ∨ ∃ k, k < l.length ∧ idxF i v l = nI (i + k)
  | [], i, v => Or.inl rfl
  | w :: t, i, v => by
    unfold idxF
    by_cases c : w = v
    · rw [if_pos c]; exact Or.inr ⟨0, by simp, rfl⟩
    · rw [if_neg c]
      rcases idxF_c t (i + 1) v with h | ⟨k, h1, h2⟩
      · exact Or.inl h
      · exact Or.inr ⟨k + 1, by simpa using h1, by rw [h2]; congr 1; omega⟩
theorem lkW_L : ∀ {N : List (Nat × Nat)} {i j i' j' : Nat} (v : Nat), NOK i j N i' j' → i' ≤ 10 → lkW 0 v N = idxF i v (lgs N)
  | [], i, j, i', j', v, h, _ => rfl
  | q :: t, i, j, i', j', v, h, h10 => by
    rcases h with ⟨h1, h⟩ | ⟨h1, h⟩
    · have b := NOK.le h
      have ih := lkW_L v h h10
      obtain ⟨w, a⟩ := q
      have h1' : a = i := h1
      subst h1'
      have e : lgs ((w, a) :: t) = w :: lgs t := List.filterMap_cons_some (by rw [if_pos (show a < 10 by omega)])
      rw [e]
      unfold lkW idxF
      by_cases c : w = v
      · rw [if_pos ⟨c, by omega, by omega⟩, if_pos c]; rfl
      · rw [if_neg (fun z => c z.1), if_neg c]; exact ih
    · have ih := lkW_L v h h10
      obtain ⟨w, a⟩ := q
      have h1' : a = 10 + j := h1
      have e : lgs ((w, a) :: t) = lgs t := List.filterMap_cons_none (by rw [if_neg (show ¬ a < 10 by omega)])
      rw [e]
      unfold lkW
      rw [if_neg (fun z => by omega)]; exact ih
theorem lkW_F : ∀ {N : List (Nat × Nat)} {i j i' j' : Nat} (v : Nat), NOK i j N i' j' → i' ≤ 10 → j' ≤ 10 → lkW 10 v N = idxF j v (fds N)
  | [], i, j, i', j', v, h, _, _ => rfl
  | q :: t, i, j, i', j', v, h, h10, g10 => by
    rcases h with ⟨h1, h⟩ | ⟨h1, h⟩
    · have b := NOK.le h
      have ih := lkW_F v h h10 g10
      obtain ⟨w, a⟩ := q
      have h1' : a = i := h1
      have e : fds ((w, a) :: t) = fds t := List.filterMap_cons_none (by rw [if_pos (show a < 10 by omega)])
      rw [e]
      unfold lkW
      rw [if_neg (fun z => by omega)]; exact ih
    · have b := NOK.le h
      have ih := lkW_F v h h10 g10
      obtain ⟨w, a⟩ := q
      have h1' : a = 10 + j := h1
      subst h1'
      have e : fds ((w, 10 + j) :: t) = w :: fds t := List.filterMap_cons_some (by rw [if_neg (show ¬ 10 + j < 10 by omega)])
      rw [e]
      unfold lkW idxF
      by_cases c : w = v
      · rw [if_pos ⟨c, by omega, by omega⟩, if_pos c, show 10 + j - 10 = j by omega]
      · rw [if_neg (fun z => c z.1), if_neg c]; exact ih
theorem nI_nm1 {a : Nat} (h : a < 2147483648) : (nI a = (-1 : Int32)) = False := eq_false (fun z => by
  have : nI a < nI 0 := by rw [z]; decide
  exact nI_neg h this)
theorem inN_lk : ∀ {N : List (Nat × Nat)} {i j i' j' : Nat} (v : Nat), NOK i j N i' j' → i' ≤ 10 → j' ≤ 10 → (inN v N = true ↔ ¬ (lkW 0 v N = -1 ∧ lkW 10 v N = -1))
  | [], i, j, i', j', v, h, _, _ => by unfold inN lkW; simp
  | q :: t, i, j, i', j', v, h, h10, g10 => by
    obtain ⟨w, a⟩ := q
    have go : (∀ i j, NOK i j t i' j' → (inN v t = true ↔ ¬ (lkW 0 v t = -1 ∧ lkW 10 v t = -1))) := fun i j h => inN_lk v h h10 g10
    have ie : inN v ((w, a) :: t) = (w == v || inN v t) := rfl
    rw [ie]
    unfold lkW
    by_cases c : w = v
    · rw [beq_iff_eq.mpr c, Bool.true_or]
      refine ⟨fun _ z => ?_, fun _ => rfl⟩
      rcases h with ⟨h1, h⟩ | ⟨h1, h⟩
      · have b := NOK.le h
        have h1' : a = i := h1
        rw [if_pos ⟨c, by omega, by omega⟩, nI_nm1 (by omega)] at z
        exact z.1
      · have b := NOK.le h
        have h1' : a = 10 + j := h1
        rw [if_pos (c := w = v ∧ 10 ≤ a ∧ a < 10 + 10) ⟨c, by omega, by omega⟩, nI_nm1 (by omega)] at z
        exact z.2
    · rw [if_neg (fun z => c z.1), if_neg (fun z => c z.1), beq_false_of_ne c, Bool.false_or]
      rcases h with ⟨-, h⟩ | ⟨-, h⟩
      · exact go _ _ h
      · exact go _ _ h
/-! what the parser's state is like -/
def SgI (Z : Tks) (s : Sg) : Prop := (yC s).1 ≤ 4 ∧ (yC s).2.1 ≤ 6 ∧ (yC s).2.2 ≤ 12 ∧ NOK 0 0 (yN s) (yC s).1 (yC s).2.1 ∧ (∀ q ∈ yN s, q.1 < 1000000000000) ∧ (yL s).1 ≤ 6 ∧ ((yL s).1 ≠ 0 → ∃ j, j < yT s ∧ (yL s).2 = nI (tpl Z j)) ∧ yT s ≤ 400 ∧ yT s ≤ Z.1.length
/-- what has been told is good, if there is no later fault -/
def SgG (s : Sg) : Prop := (yL s).1 = 0 → (∀ n, n < (yC s).2.2 → (∃ l, l < (yC s).1 ∧ yA s 2 n = nI l) ∧ ((∃ l, l < (yC s).1 ∧ yA s 3 n = nI l) ∨ (∃ f, f < (yC s).2.1 ∧ yA s 3 n = nI (10 + f)) ∨ yA s 3 n = nI 20) ∧ ∃ w, w ≤ 3 ∧ yA s 4 n = nI w) ∧ (∀ f, f < (yC s).2.1 → ∃ q, q ≤ 3 ∧ yA s 6 f = nI q ∧ ((yA s 5 f = (-2 : Int32) ∧ q = 0) ∨ ∃ d, d < (yC s).1 ∧ yA s 5 f = nI d)) ∧ (∃ w, 1 ≤ w ∧ w ≤ 9 ∧ yA s 0 1 = nI w) ∧ (yL s).2 = (-1 : Int32) ∧ ∀ k, lwOK (yW s k)
theorem bG_ok {α : Type} {e : Except (Nat × Int32) α} {g : α → Rs} {s : Sg} (h : bG e g = .ok s) : ∃ a, e = .ok a ∧ g a = .ok s := by
  cases e with
  | error f => cases h
  | ok a => exact ⟨a, rfl, h⟩
theorem bE_ok {β : Type} {e : Rs} {g : Sg → Except (Nat × Int32) β} {s : β} (h : bE e g = .ok s) : ∃ a, e = .ok a ∧ g a = .ok s := by
  cases e with
  | error f => cases h
  | ok a => exact ⟨a, rfl, h⟩
theorem bV_ok {α β : Type} {e : Except (Nat × Int32) (α × Sg)} {g : α → Sg → Except (Nat × Int32) β} {s : β} (h : bV e g = .ok s) : ∃ a r, e = .ok (a, r) ∧ g a r = .ok s := by
  cases e with
  | error f => cases h
  | ok a => exact ⟨a.1, a.2, rfl, h⟩
theorem gPass_ok {Z : Tks} {s r : Sg} (h : gPass Z s = .ok r) : r = wyT s (yT s + 1) ∧ yT s ≠ 400 := by
  unfold gPass gFl at h
  split at h
  · cases h
  · rename_i c; cases h; exact ⟨rfl, c⟩
theorem gTake_ok {Z : Tks} {k : Nat} {s r : Sg} (h : gTake Z k s = .ok r) : r = wyT s (yT s + 1) ∧ yT s ≠ 400 ∧ tkd Z (yT s) = k := by
  unfold gTake at h
  split at h
  · rename_i c; exact ⟨(gPass_ok h).1, (gPass_ok h).2, c⟩
  · cases h
theorem tkd_lt {Z : Tks} {i : Nat} (h : tkd Z i ≠ 43) : i < Z.1.length := by
  by_cases c : i < Z.1.length
  · exact c
  · exact absurd (tkd_end (Z := Z) (i := i) (by omega)).1 h
theorem lat_T (Z : Tks) (c i : Nat) (s : Sg) : yT (lat Z c i s) = yT s ∧ yN (lat Z c i s) = yN s ∧ yC (lat Z c i s) = yC s ∧ yA (lat Z c i s) = yA s ∧ yW (lat Z c i s) = yW s := by
  unfold lat
  split <;> exact ⟨rfl, rfl, rfl, rfl, rfl⟩
theorem lat_nz {Z : Tks} {c i : Nat} {s : Sg} (hc : c ≠ 0) : (yL (lat Z c i s)).1 ≠ 0 := by
  unfold lat
  split
  · exact hc
  · rename_i h; exact h
theorem SgI.wyT {Z : Tks} {s : Sg} (h : SgI Z s) (h1 : yT s ≠ 400) (h2 : tkd Z (yT s) ≠ 43) : SgI Z (wyT s (yT s + 1)) := by
  obtain ⟨a1, a2, a3, a4, a5, a6, a7, a8, a9⟩ := h
  have := tkd_lt h2
  refine ⟨a1, a2, a3, a4, a5, a6, fun z => ?_, ?_, ?_⟩
  · obtain ⟨j, h1, h2⟩ := a7 z
    exact ⟨j, by show j < yT s + 1; omega, h2⟩
  · show yT s + 1 ≤ 400; omega
  · show yT s + 1 ≤ Z.1.length; omega
theorem SgI.later {Z : Tks} {s : Sg} (h : SgI Z s) {c i : Nat} (hc : c ≤ 6) (hi : i < yT s) : SgI Z (lat Z c i s) := by
  obtain ⟨a1, a2, a3, a4, a5, a6, a7, a8, a9⟩ := h
  unfold lat
  split
  · exact ⟨a1, a2, a3, a4, a5, hc, fun _ => ⟨i, hi, rfl⟩, a8, a9⟩
  · exact ⟨a1, a2, a3, a4, a5, a6, a7, a8, a9⟩
theorem gTake_I {Z : Tks} {k : Nat} {s r : Sg} (hs : SgI Z s) (hk : k ≠ 43) (h : gTake Z k s = .ok r) : SgI Z r := by
  obtain ⟨rfl, h1, h2⟩ := gTake_ok h
  exact hs.wyT h1 (by omega)
theorem gNum_ok {Z : Tks} {a b : Nat} {s r : Sg} (h : gNum Z a b s = .ok r) : yT s ≠ 400 ∧ tkd Z (yT s) = 41 ∧ (((tvl Z (yT s) < a ∨ b < tvl Z (yT s)) ∧ r = lat Z 5 (yT s) (wyT s (yT s + 1))) ∨ (a ≤ tvl Z (yT s) ∧ tvl Z (yT s) ≤ b ∧ r = wyT s (yT s + 1))) := by
  obtain ⟨q, h1, h2⟩ := bG_ok h
  obtain ⟨rfl, h3, h4⟩ := gTake_ok h1
  refine ⟨h3, h4, ?_⟩
  split at h2
  · rename_i c; cases h2; exact Or.inl ⟨c, rfl⟩
  · cases h2; exact Or.inr ⟨by omega, by omega, rfl⟩
theorem gNum_I {Z : Tks} {a b : Nat} {s r : Sg} (hs : SgI Z s) (h : gNum Z a b s = .ok r) : SgI Z r ∧ yT r = yT s + 1 ∧ yN r = yN s ∧ yC r = yC s ∧ yA r = yA s ∧ yW r = yW s ∧ ((yL r).1 = 0 → a ≤ tvl Z (yT s) ∧ tvl Z (yT s) ≤ b ∧ yL r = yL s) := by
  obtain ⟨h1, h2, ⟨h3, rfl⟩ | ⟨h3, h4, rfl⟩⟩ := gNum_ok h
  · have g := hs.wyT h1 (by omega)
    obtain ⟨b1, b2, b3, b4, b5⟩ := lat_T Z 5 (yT s) (wyT s (yT s + 1))
    exact ⟨g.later (by omega) (Nat.lt_succ_self _), b1, b2, b3, b4, b5, fun z => absurd z (lat_nz (by omega))⟩
  · exact ⟨hs.wyT h1 (by omega), rfl, rfl, rfl, rfl, rfl, fun _ => ⟨h3, h4, rfl⟩⟩

/-! expressions: what waits -/
def nOp : List Nat → Nat
  | [] => 0
  | k :: t => (if k = 37 then 0 else 1) + nOp t
def n37 : List Nat → Nat
  | [] => 0
  | k :: t => (if k = 37 then 1 else 0) + n37 t
def topR : List Nat → Nat
  | [] => 0
  | k :: _ => rkT k
def SegK : List Nat → Prop
  | [] => True
  | k :: t => (k = 37 ∨ (32 ≤ k ∧ k ≤ 35 ∧ topR t < rkT k)) ∧ SegK t
theorem rkT_le (k : Nat) : rkT k ≤ 2 := by
  unfold rkT
  split
  · omega
  · split <;> omega
theorem topR_le (st : List Nat) : topR st ≤ 2 := by
  cases st with
  | nil => exact Nat.zero_le _
  | cons k t => exact rkT_le k
theorem rkT_37 : rkT 37 = 0 := rfl
theorem rkT_op {k : Nat} (h1 : 32 ≤ k) (h2 : k ≤ 35) : 1 ≤ rkT k := by
  unfold rkT
  split
  · omega
  · split <;> omega
theorem rkT_pos {k : Nat} (h : rkT k ≠ 0) : 32 ≤ k ∧ k ≤ 35 := by
  unfold rkT at h
  split at h
  · omega
  · split at h <;> omega
theorem SegK.len : ∀ {st : List Nat}, SegK st → st.length ≤ 3 * n37 st + topR st
  | [], _ => Nat.zero_le _
  | k :: t, ⟨h, ht⟩ => by
    have ih := SegK.len ht
    have t2 := topR_le t
    unfold n37
    simp only [List.length_cons]
    show _ ≤ _ + rkT k
    rcases h with rfl | ⟨h1, h2, h3⟩
    · rw [if_pos rfl]; omega
    · rw [if_neg (by omega)]; omega
theorem popW_p {r : Nat} (hr : 1 ≤ r) : ∀ {st : List Nat} (out : Rp), SegK st → SegK (popW r st out).1 ∧ n37 (popW r st out).1 = n37 st ∧ topR (popW r st out).1 < r ∧ (popW r st out).2.length + nOp (popW r st out).1 = out.length + nOp st ∧ (rpd out 0 = some (nOp st + 1) → rpd (popW r st out).2 0 = some (nOp (popW r st out).1 + 1)) ∧ nOp (popW r st out).1 ≤ nOp st ∧ ∃ b, (popW r st out).2 = out ++ b
  | [], out, _ => ⟨trivial, rfl, by show 0 < r; omega, rfl, fun h => h, Nat.le_refl _, [], by rw [List.append_nil]; rfl⟩
  | k :: t, out, ⟨h, ht⟩ => by
    unfold popW
    by_cases c : r ≤ rkT k
    · rw [if_pos c]
      have hk : 32 ≤ k ∧ k ≤ 35 := rkT_pos (by omega)
      obtain ⟨a1, a2, a3, a4, a5, a6, b, a7⟩ := popW_p hr (out ++ [(k - 30, 0)]) ht
      have n1 : nOp (k :: t) = 1 + nOp t := by show (if k = 37 then 0 else 1) + nOp t = _; rw [if_neg (by omega)]
      have n2 : n37 (k :: t) = n37 t := by show (if k = 37 then 1 else 0) + n37 t = _; rw [if_neg (by omega), Nat.zero_add]
      refine ⟨a1, by rw [a2, n2], a3, by rw [a4, n1, List.length_append]; simp; omega, fun h0 => a5 ?_, by omega, (k - 30, 0) :: b, by rw [a7, List.append_assoc]; rfl⟩
      rw [n1] at h0
      have sn : ∀ (l : Rp) (d e : Nat), rpd l d = some e → rpd (l ++ [(k - 30, 0)]) d = rpd [(k - 30, 0)] e := by
        intro l
        induction l with
        | nil => intro d e h; rw [rpd, Option.some.injEq] at h; subst h; rfl
        | cons q l ih =>
          intro d e h
          obtain ⟨a, n⟩ := q
          match a, h with
          | 0, h =>
            simp only [rpd, List.cons_append] at h ⊢
            split at h
            · rename_i c; rw [if_pos c]; exact ih _ _ h
            · cases h
          | 1, h =>
            simp only [rpd, List.cons_append] at h ⊢
            split at h
            · rename_i c; rw [if_pos c]; exact ih _ _ h
            · cases h
          | a + 2, h =>
            simp only [rpd, List.cons_append] at h ⊢
            split at h
            · rename_i c; rw [if_pos c]; exact ih _ _ h
            · cases h
      rw [sn _ _ _ h0, show k - 30 = (k - 32) + 2 by omega]
      simp only [rpd]
      rw [if_pos (by omega)]
      congr 1
      omega
    · rw [if_neg c]
      exact ⟨⟨h, ht⟩, rfl, by show rkT k < r; omega, rfl, fun h => h, Nat.le_refl _, [], by rw [List.append_nil]⟩
theorem SegK.z : ∀ {st : List Nat}, SegK st → topR st < 1 → (st = [] ∧ n37 st = 0 ∧ nOp st = 0) ∨ ∃ t, st = 37 :: t ∧ SegK t ∧ n37 st = n37 t + 1 ∧ nOp st = nOp t
  | [], _, _ => Or.inl ⟨rfl, rfl, rfl⟩
  | k :: t, ⟨h, ht⟩, hz => by
    have hz2 : rkT k < 1 := hz
    rcases h with rfl | ⟨h1, h2, -⟩
    · refine Or.inr ⟨t, rfl, ht, ?_, ?_⟩
      · show (if (37 : Nat) = 37 then 1 else 0) + n37 t = _; rw [if_pos rfl]; omega
      · show (if (37 : Nat) = 37 then 0 else 1) + nOp t = _; rw [if_pos rfl]; omega
    · have := rkT_op h1 h2; omega
theorem rpd_sn (q : Nat × Nat) : ∀ (l : Rp) (d e : Nat), rpd l d = some e → rpd (l ++ [q]) d = rpd [q] e := by
  intro l
  induction l with
  | nil => intro d e h; rw [rpd, Option.some.injEq] at h; subst h; rfl
  | cons p l ih =>
    intro d e h
    obtain ⟨a, n⟩ := p
    match a, h with
    | 0, h =>
      simp only [rpd, List.cons_append] at h ⊢
      split at h
      · rename_i c; rw [if_pos c]; exact ih _ _ h
      · cases h
    | 1, h =>
      simp only [rpd, List.cons_append] at h ⊢
      split at h
      · rename_i c; rw [if_pos c]; exact ih _ _ h
      · cases h
    | a + 2, h =>
      simp only [rpd, List.cons_append] at h ⊢
      split at h
      · rename_i c; rw [if_pos c]; exact ih _ _ h
      · cases h
/-- what an expression leaves -/
theorem eE_ok {Z : Tks} (hz : ZOK Z) : ∀ (f : Nat) (w : Bool) (op : Nat) (st : List Nat) (out : Rp) (s : Sg) (e : Rp) (r : Sg), eE Z f w op st out s = .ok (e, r) → SegK st → n37 st = op → rpd out 0 = some (nOp st + if w = true then 0 else 1) → SgI Z s → rpOK e ∧ SgI Z r ∧ r = wyT s (yT r) ∧ yT s ≤ yT r ∧ e.length + yT s ≤ out.length + nOp st + yT r
  | 0, w, op, st, out, s, e, r, h, _, _, _, _ => by
    unfold eE at h
    cases h
  | f + 1, true, op, st, out, s, e, r, h, h1, h2, h3, hs => by
    unfold eE at h
    rw [if_pos rfl, Nat.add_zero] at h3
    by_cases c1 : tkd Z (yT s) = 37
    · rw [if_pos c1] at h
      by_cases c2 : op = 6
      · rw [if_pos c2] at h; cases h
      · rw [if_neg c2] at h
        obtain ⟨q, g1, g2⟩ := bE_ok h
        obtain ⟨rfl, g3⟩ := gPass_ok g1
        obtain ⟨b1, b2, b3, b4, b5⟩ := eE_ok hz f true (op + 1) (37 :: st) out _ e r g2 ⟨Or.inl rfl, h1⟩ (by show (if (37 : Nat) = 37 then 1 else 0) + n37 st = _; rw [if_pos rfl]; omega) (by rw [h3]; show _ = some ((if (37 : Nat) = 37 then 0 else 1) + nOp st + 0); rw [if_pos rfl]; congr 1; omega) (hs.wyT g3 (by omega))
        have n1 : nOp (37 :: st) = nOp st := by show (if (37 : Nat) = 37 then 0 else 1) + nOp st = _; rw [if_pos rfl]; omega
        have t1 : yT (wyT s (yT s + 1)) = yT s + 1 := rfl
        rw [n1] at b5
        exact ⟨b1, b2, by rw [b3]; rfl, by omega, by omega⟩
    · rw [if_neg c1] at h
      cases u : unT (tkd Z (yT s)) (tvl Z (yT s)) with
      | none => rw [u] at h; cases h
      | some q =>
        rw [u] at h
        obtain ⟨p, g1, g2⟩ := bE_ok h
        obtain ⟨rfl, g3⟩ := gPass_ok g1
        have k43 : tkd Z (yT s) ≠ 43 := fun z => by rw [z] at u; cases u
        have hq : rpd [q] (nOp st) = some (nOp st + 1) := by
          unfold unT at u
          split at u
          · rename_i c
            have := hz.2.2.2.1 _ c
            cases u
            simp only [rpd]
            rw [if_pos this]
          · split at u
            · rename_i c
              cases u
              simp only [rpd]
              rw [if_pos (by omega)]
            · cases u
        obtain ⟨b1, b2, b3, b4, b5⟩ := eE_ok hz f false op st (out ++ [q]) _ e r g2 h1 h2 (by rw [rpd_sn q _ _ _ h3, hq]; rfl) (hs.wyT g3 k43)
        have t1 : yT (wyT s (yT s + 1)) = yT s + 1 := rfl
        rw [List.length_append, List.length_singleton] at b5
        exact ⟨b1, b2, by rw [b3]; rfl, by omega, by omega⟩
  | f + 1, false, op, st, out, s, e, r, h, h1, h2, h3, hs => by
    unfold eE at h
    rw [if_neg (by decide)] at h3
    by_cases c1 : rkT (tkd Z (yT s)) = 0
    · rw [if_pos c1] at h
      obtain ⟨p1, p2, p3, p4, p5, p6, -⟩ := popW_p (r := 1) (Nat.le_refl _) out h1
      have p5 := p5 h3
      by_cases c2 : tkd Z (yT s) = 38 ∧ 0 < op
      · rw [if_pos c2] at h
        obtain ⟨q, g1, g2⟩ := bE_ok h
        obtain ⟨rfl, g3⟩ := gPass_ok g1
        rcases p1.z p3 with ⟨z1, z2, z3⟩ | ⟨t, z1, z2, z3, z4⟩
        · omega
        · rw [z1] at g2 p4 p5 p6
          rw [List.tail_cons] at g2
          have nt : nOp (37 :: t) = nOp t := by show (if (37 : Nat) = 37 then 0 else 1) + nOp t = _; rw [if_pos rfl]; omega
          obtain ⟨b1, b2, b3, b4, b5⟩ := eE_ok hz f false (op - 1) t _ _ e r g2 z2 (by omega) (by rw [p5, nt]; rfl) (hs.wyT g3 (by omega))
          have t1 : yT (wyT s (yT s + 1)) = yT s + 1 := rfl
          rw [nt] at p4
          exact ⟨b1, b2, by rw [b3]; rfl, by omega, by omega⟩
      · rw [if_neg c2] at h
        by_cases c3 : op = 0
        · rw [if_pos c3] at h
          cases h
          rcases p1.z p3 with ⟨z1, z2, z3⟩ | ⟨t, z1, z2, z3, z4⟩
          · rw [z3] at p5 p4
            exact ⟨p5, hs, rfl, Nat.le_refl _, by omega⟩
          · omega
        · rw [if_neg c3] at h; cases h
    · rw [if_neg c1] at h
      obtain ⟨q, g1, g2⟩ := bE_ok h
      obtain ⟨rfl, g3⟩ := gPass_ok g1
      have hk := rkT_pos c1
      obtain ⟨p1, p2, p3, p4, p5, p6, -⟩ := popW_p (r := rkT (tkd Z (yT s))) (by omega) out h1
      have p5 := p5 h3
      have nt : nOp (tkd Z (yT s) :: (popW (rkT (tkd Z (yT s))) st out).1) = 1 + nOp (popW (rkT (tkd Z (yT s))) st out).1 := by show (if _ = 37 then 0 else 1) + _ = _; rw [if_neg (by omega)]
      have mt : n37 (tkd Z (yT s) :: (popW (rkT (tkd Z (yT s))) st out).1) = n37 (popW (rkT (tkd Z (yT s))) st out).1 := by show (if _ = 37 then 1 else 0) + _ = _; rw [if_neg (by omega), Nat.zero_add]
      obtain ⟨b1, b2, b3, b4, b5⟩ := eE_ok hz f true op _ _ _ e r g2 ⟨Or.inr ⟨hk.1, hk.2, p3⟩, p1⟩ (by rw [mt, p2, h2]) (by rw [p5, nt, if_pos rfl]; congr 1; omega) (hs.wyT g3 (by omega))
      have t1 : yT (wyT s (yT s + 1)) = yT s + 1 := rfl
      rw [nt] at b5
      exact ⟨b1, b2, by rw [b3]; rfl, by omega, by omega⟩
theorem gE_ok {Z : Tks} (hz : ZOK Z) {s r : Sg} {e : Rp} (hs : SgI Z s) (h : gE Z s = .ok (e, r)) : rpOK e ∧ SgI Z r ∧ r = wyT s (yT r) ∧ yT s ≤ yT r ∧ e.length + yT s ≤ yT r := by
  have := eE_ok hz (401 - yT s) true 0 [] [] s e r h trivial rfl rfl hs
  simpa [nOp] using this

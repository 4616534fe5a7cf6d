/-! read: the reference -/
theorem Sb_l (T U : List At) : Sb T (T ++ U) := fun r i k h => by
  unfold inT at h ⊢
  rw [List.any_append, h, Bool.true_or]
theorem Sb_r (T U : List At) : Sb U (T ++ U) := fun r i k h => by
  unfold inT at h ⊢
  rw [List.any_append, h, Bool.or_true]
theorem brI.sd {D C b d lv : Nat} {μ μ' : Mem} {q : Rp × Rp × Rp} (h : brI μ D C b q) (g : Sd d μ μ') (hd : d = 1 - lv) (hl : lv < 2) (b1 : 130 * lv ≤ b) (b2 : b < 130 * lv + 130) (h1 : 420 * lv ≤ D) (h2 : C ≤ 420 * lv + 420) : brI μ' D C b q := by
  obtain ⟨a1, s, a2, a3, a4, a5, a6, a7, a8, a9, w⟩ := h
  have k : ∀ r, 78 ≤ r → r ≤ 82 → mI μ' r 0 b = mI μ r 0 b := fun r z1 z2 => g r b (by omega) (by omega) (by
    have e : szr r = 130 := by
      have c' : r = 78 ∨ r = 79 ∨ r = 80 ∨ r = 81 ∨ r = 82 := by omega
      rcases c' with rfl | rfl | rfl | rfl | rfl <;> rfl
    rw [e]; omega)
  have c : ∀ {x : Nat} {l : Rp}, D ≤ x → x + l.length ≤ C → isR μ x l → isR μ' x l := fun {x l} z1 z2 hl i hi => ⟨(g 83 _ (by omega) (by omega) (by show ¬ (420 * d ≤ _ ∧ _ < 420 * d + 420); omega)).trans (hl i hi).1, (g 84 _ (by omega) (by omega) (by show ¬ (420 * d ≤ _ ∧ _ < 420 * d + 420); omega)).trans (hl i hi).2⟩
  exact ⟨(k 78 (by omega) (by omega)).trans a1, s, a2, (k 79 (by omega) (by omega)).trans a3, (k 80 (by omega) (by omega)).trans a4, (k 81 (by omega) (by omega)).trans a5, (k 82 (by omega) (by omega)).trans a6, c a2 (by omega) a7, c (by omega) (by omega) a8, c (by omega) (by omega) a9, w⟩
theorem brE.sd {D C b d lv : Nat} {μ μ' : Mem} {e : Rp} (h : brE μ D C b e) (g : Sd d μ μ') (hd : d = 1 - lv) (hl : lv < 2) (b1 : 130 * lv ≤ b) (b2 : b < 130 * lv + 130) (h1 : 420 * lv ≤ D) (h2 : C ≤ 420 * lv + 420) : brE μ' D C b e := by
  obtain ⟨a1, s, a2, a3, a4, a5, w⟩ := h
  have k : ∀ r, 78 ≤ r → r ≤ 82 → mI μ' r 0 b = mI μ r 0 b := fun r z1 z2 => g r b (by omega) (by omega) (by
    have e : szr r = 130 := by
      have c' : r = 78 ∨ r = 79 ∨ r = 80 ∨ r = 81 ∨ r = 82 := by omega
      rcases c' with rfl | rfl | rfl | rfl | rfl <;> rfl
    rw [e]; omega)
  exact ⟨(k 78 (by omega) (by omega)).trans a1, s, a2, (k 81 (by omega) (by omega)).trans a3, (k 82 (by omega) (by omega)).trans a4, fun i hi => ⟨(g 83 _ (by omega) (by omega) (by show ¬ (420 * d ≤ _ ∧ _ < 420 * d + 420); omega)).trans (a5 i hi).1, (g 84 _ (by omega) (by omega) (by show ¬ (420 * d ≤ _ ∧ _ < 420 * d + 420); omega)).trans (a5 i hi).2⟩, w⟩
theorem LaS.sd {lv d : Nat} {μ μ' : Mem} {P : Pl} (h : LaS lv μ P) (g : Sd d μ μ') (hd : d = 1 - lv) (hl : lv < 2) : LaS lv μ' P := by
  obtain ⟨br, cs, h1, h2, h3⟩ := h
  refine ⟨br, cs, h1, h2, fun k hk => ?_⟩
  obtain ⟨a, a1, a2⟩ := h3 k hk
  have e : ∀ r, r = 76 ∨ r = 77 → mI μ' r 0 (4 * lv + k) = mI μ r 0 (4 * lv + k) := fun r hr => g r _ (by omega) (by omega) (by
    have e : szr r = 4 := by rcases hr with rfl | rfl <;> rfl
    rw [e]; omega)
  refine ⟨a, (e 76 (Or.inl rfl)).trans a1, ?_⟩
  rcases a2 with ⟨a2, a3, a4⟩ | ⟨a2, a3, a4, a5, a6⟩
  · exact Or.inl ⟨a2, (e 77 (Or.inr rfl)).trans a3, a4⟩
  · refine Or.inr ⟨a2, (e 77 (Or.inr rfl)).trans a3, a4, fun i q hq => ?_, a6.sd g hd hl (by omega) (by omega) (Nat.le_refl _) (by omega)⟩
    have hi : i < (pLaw P k).1.length := by
      rcases Nat.lt_or_ge i (pLaw P k).1.length with c | c
      · exact c
      · rw [List.getElem?_eq_none c] at hq; cases hq
    exact (a5 i q hq).sd g hd hl (by omega) (by omega) (Nat.le_refl _) (by omega)
theorem LaS.fr {lv : Nat} {μ μ' : Mem} {P : Pl} {T : List At} (h : LaS lv μ P) (g : Fr T μ μ') (o : offR [76, 77, 78, 79, 80, 81, 82, 83, 84] T = true) : LaS lv μ' P := by
  obtain ⟨br, cs, h1, h2, h3⟩ := h
  exact ⟨br, cs, h1, h2, h3.fr g o⟩
theorem LaS.la {lv : Nat} {μ : Mem} {P : Pl} (h : LaS lv μ P) (hl : lv < 2) : LaM μ lv P := fun k hk => by
  obtain ⟨br, cs, h1, h2, h3⟩ := h
  obtain ⟨a, a1, a2⟩ := h3 k hk
  rcases a2 with ⟨a2, a3, a4⟩ | ⟨a2, a3, a4, a5, a6⟩
  · subst a2
    exact ⟨0, a1, by omega, Or.inl ⟨a3, a4⟩⟩
  · exact ⟨a, a1, by omega, Or.inr ⟨a3, by omega, brL_M (by omega) (by omega) a5 a6⟩⟩
theorem PlM.sds {lv d : Nat} {μ μ' : Mem} {P : Pl} (hk : PlOK P) (h : PlM μ lv P) (g : Sd d μ μ') (hd : d = 1 - lv) (e18 : mI μ' 55 0 18 = mI μ 55 0 18) : PlM μ' lv P := by
  obtain ⟨a1, a2, a3, a4, a5, a6, a7, a8, a9⟩ := h
  obtain ⟨-, k2, k3, -⟩ := hk
  refine ⟨a1, e18.trans a2, (g 65 _ (by omega) (by omega) (by show ¬ (1 * d ≤ _ ∧ _ < 1 * d + 1); omega)).trans a3, (g 66 _ (by omega) (by omega) (by show ¬ (1 * d ≤ _ ∧ _ < 1 * d + 1); omega)).trans a4, (g 70 _ (by omega) (by omega) (by show ¬ (1 * d ≤ _ ∧ _ < 1 * d + 1); omega)).trans a5, (g 75 _ (by omega) (by omega) (by show ¬ (1 * d ≤ _ ∧ _ < 1 * d + 1); omega)).trans a6, fun f hf => (g 67 _ (by omega) (by omega) (by show ¬ (6 * d ≤ _ ∧ _ < 6 * d + 6); omega)).trans (a7 f hf), fun n hn => (g 71 _ (by omega) (by omega) (by show ¬ (12 * d ≤ _ ∧ _ < 12 * d + 12); omega)).trans (a8 n hn), fun n hn => (g 72 _ (by omega) (by omega) (by show ¬ (12 * d ≤ _ ∧ _ < 12 * d + 12); omega)).trans (a9 n hn)⟩
theorem rd_copy {μ : Mem} {m : Nat} {X : Nat → Int32} {K : Mem → Option (Int32 × Mem)} (hm : m ≤ 2000) (h4 : mI μ 55 0 4 = nI m) (hx : ∀ k, k < m → mI μ 56 0 k = X k) (hb : ∀ k, k < m → byOK (X k)) : ∃ ν, m_read_L10 K (nI 0) μ = K ν ∧ (∀ k, k < m → mI ν 57 0 k = X k) ∧ Fr [(57, none, none)] μ ν := by
  unfold m_read_L10
  refine fixN_up (fun i (self : Int32 → Mem → Option (Int32 × Mem)) => ∀ ν, (∀ k, k < i → mI ν 57 0 k = X k) → Fr [(57, none, none)] μ ν → ∃ ν', self (nI i) ν = K ν' ∧ (∀ k, k < m → mI ν' 57 0 k = X k) ∧ Fr [(57, none, none)] μ ν') m ?_ ?_ 60000 0 (by omega) (by omega) μ (fun k hk => absurd hk (Nat.not_lt_zero _)) (Fr.rf _ _)
  · intro i self hi ih ν hq g
    have f4 : mI ν 55 0 4 = nI m := (g.I rfl).trans h4
    have fx : mI ν 56 0 i = X i := (g.I rfl).trans (hx i hi)
    unfold m_read_B10
    rw [f4, if_neg (nI_ge hi (by omega)), if_pos (inB_nI (by omega) (by omega)), cl_nI (by omega), fx, byOK_id (hb i hi), mb_e, nI_add]
    refine ih _ (fun k hk => ?_) (Fr.stI g (iT 0 rfl inA_nn))
    rw [mI_stI]
    by_cases e : k = i
    · subst e; rw [if_pos ⟨rfl, rfl, rfl⟩]
    · rw [if_neg (fun z => e z.2.2)]; exact hq k (by omega)
  · intro self ν hq g
    have f4 : mI ν 55 0 4 = nI m := (g.I rfl).trans h4
    unfold m_read_B10
    rw [f4, if_pos (Int32.le_refl _)]
    exact ⟨ν, rfl, hq, g⟩
theorem m_plain_e {μ : Mem} {d : Nat} (d2 : d < 2) : ∃ μ', m_plain (nI d) μ = some ((), μ') ∧ mI μ' 65 0 d = nI 0 ∧ mI μ' 66 0 d = nI 0 ∧ mI μ' 70 0 d = nI 0 ∧ mI μ' 74 0 d = nI 8 ∧ mI μ' 75 0 d = nI 0 ∧ (∀ k, k < 4 → mI μ' 76 0 (4 * d + k) = nI 0 ∧ mI μ' 77 0 (4 * d + k) = nI 0) ∧ Sd d μ μ' := by
  unfold m_plain
  rw [if_pos (inB_nI d2 (by omega)), cl_nI (by omega), mb_e, mb_e]
  generalize hM : stI (stI (stI (stI (stI μ 65 0 d (nI 0)) 66 0 d (nI 0)) 70 0 d (nI 0)) 74 0 d (nI 8)) 75 0 d (nI 0) = M
  have S0 : Sd d μ M := by
    rw [← hM]
    refine (((((Sd.rf d μ).st ?_).st ?_).st ?_).st ?_).st ?_
    · show 1 * d ≤ d ∧ d < 1 * d + 1; omega
    · show 1 * d ≤ d ∧ d < 1 * d + 1; omega
    · show 1 * d ≤ d ∧ d < 1 * d + 1; omega
    · show 1 * d ≤ d ∧ d < 1 * d + 1; omega
    · show 1 * d ≤ d ∧ d < 1 * d + 1; omega
  have a1 : mI M 65 0 d = nI 0 := by rw [← hM, mI_stI, if_neg (by omega), mI_stI, if_neg (by omega), mI_stI, if_neg (by omega), mI_stI, if_neg (by omega), mI_stI, if_pos ⟨rfl, rfl, rfl⟩]
  have a2 : mI M 66 0 d = nI 0 := by rw [← hM, mI_stI, if_neg (by omega), mI_stI, if_neg (by omega), mI_stI, if_neg (by omega), mI_stI, if_pos ⟨rfl, rfl, rfl⟩]
  have a3 : mI M 70 0 d = nI 0 := by rw [← hM, mI_stI, if_neg (by omega), mI_stI, if_neg (by omega), mI_stI, if_pos ⟨rfl, rfl, rfl⟩]
  have a4 : mI M 74 0 d = nI 8 := by rw [← hM, mI_stI, if_neg (by omega), mI_stI, if_pos ⟨rfl, rfl, rfl⟩]
  have a5 : mI M 75 0 d = nI 0 := by rw [← hM, mI_stI, if_pos ⟨rfl, rfl, rfl⟩]
  have main : ∃ μ', m_plain_L38 (nI d) (nI 0) M = some ((), μ') ∧ (∀ k, k < 4 → mI μ' 76 0 (4 * d + k) = nI 0 ∧ mI μ' 77 0 (4 * d + k) = nI 0) ∧ Sd d μ μ' := by
    unfold m_plain_L38
    refine fixN_up (fun i (self : Int32 → Mem → Option (Unit × Mem)) => ∀ ν, (∀ k, k < i → mI ν 76 0 (4 * d + k) = nI 0 ∧ mI ν 77 0 (4 * d + k) = nI 0) → Sd d μ ν → ∃ μ', self (nI i) ν = some ((), μ') ∧ (∀ k, k < 4 → mI μ' 76 0 (4 * d + k) = nI 0 ∧ mI μ' 77 0 (4 * d + k) = nI 0) ∧ Sd d μ μ') 4 ?_ ?_ 60000 0 (by omega) (by omega) M (fun k hk => absurd hk (Nat.not_lt_zero _)) S0
    · intro i self hi ih ν hq S
      unfold m_plain_B38
      rw [if_neg (nI_ge hi (by omega)), pk_mul, nI_add, if_pos (inB_nI (by omega) (by omega)), cl_nI (by omega), mb_e, mb_e, nI_add]
      refine ih _ (fun k hk => ?_) ((S.st ?_).st ?_)
      · rw [mI_stI, if_neg (by omega), mI_stI, mI_stI]
        by_cases e : k = i
        · subst e; rw [if_pos ⟨rfl, rfl, rfl⟩, if_pos ⟨rfl, rfl, rfl⟩]; exact ⟨rfl, rfl⟩
        · rw [if_neg (by omega), if_neg (by omega), mI_stI, if_neg (by omega)]; exact hq k (by omega)
      · show 4 * d ≤ _ ∧ _ < 4 * d + 4; omega
      · show 4 * d ≤ _ ∧ _ < 4 * d + 4; omega
    · intro self ν hq S
      unfold m_plain_B38
      rw [if_pos (Int32.le_refl _)]
      exact ⟨ν, rfl, hq, S⟩
  obtain ⟨μ', e, q, S⟩ := main
  have g : Fr T_m_plain_L38 M μ' := f_m_plain_L38 (T := T_m_plain_L38) (μ0 := M) e (Fr.rf _ _) (fun _ _ _ z => z)
  exact ⟨μ', e, (g.I rfl).trans a1, (g.I rfl).trans a2, (g.I rfl).trans a3, (g.I rfl).trans a4, (g.I rfl).trans a5, q, S⟩
/-- what a plan begins with, as far as it is put together -/
def stP (s : Sg) (i j : Nat) : Nat → Int32 := fun k => if k < 6 then (if k < i then yA s 5 k else nI 0) else if k < 12 then (if k - 6 < i then yA s 6 (k - 6) else nI 0) else if k < 18 then nI 0 else if k < 30 then (if k - 18 < j then yA s 4 (k - 18) else nI 0) else nI 0
theorem beg2_e {K : Mem → Option (Unit × Mem)} (μ : Mem) : ∃ ν, m_begins_L2 K (nI 0) μ = K ν ∧ (∀ k, k < 33 → mI ν 89 0 k = nI 0) ∧ Fr [(89, none, none)] μ ν := by
  unfold m_begins_L2
  refine fixN_up (fun i (self : Int32 → Mem → Option (Unit × Mem)) => ∀ ν, (∀ k, k < i → mI ν 89 0 k = nI 0) → Fr [(89, none, none)] μ ν → ∃ ν', self (nI i) ν = K ν' ∧ (∀ k, k < 33 → mI ν' 89 0 k = nI 0) ∧ Fr [(89, none, none)] μ ν') 33 ?_ ?_ 60000 0 (by omega) (by omega) μ (fun k hk => absurd hk (Nat.not_lt_zero _)) (Fr.rf _ _)
  · intro i self hi ih ν hq g
    unfold m_begins_B2
    rw [if_neg (nI_ge hi (by omega)), if_pos (inB_nI (by omega) (by omega)), cl_nI (by omega), nI_add]
    refine ih _ (fun k hk => ?_) (Fr.stI g (iT 0 rfl inA_nn))
    rw [mI_stI]
    by_cases e : k = i
    · subst e; rw [if_pos ⟨rfl, rfl, rfl⟩]
    · rw [if_neg (fun z => e z.2.2)]; exact hq k (by omega)
  · intro self ν hq g
    unfold m_begins_B2
    rw [if_pos (Int32.le_refl _)]
    exact ⟨ν, rfl, hq, g⟩
theorem beg23_e {Z : Tks} {d : Nat} {s : Sg} {K : Mem → Option (Unit × Mem)} {μ : Mem} (h18 : mI μ 55 0 18 = nI d) (pk : PkM d μ (yC s) (yA s)) (hs : SgI Z s) (h0 : ∀ k, k < 33 → mI μ 89 0 k = nI 0) : ∃ ν, m_begins_L23 K (nI 0) μ = K ν ∧ (∀ k, k < 33 → mI ν 89 0 k = stP s (yC s).2.1 0 k) ∧ Fr [(89, none, none)] μ ν := by
  have d2 := pk.1
  have s1 := hs.2.1
  unfold m_begins_L23
  refine fixN_up (fun i (self : Int32 → Mem → Option (Unit × Mem)) => ∀ ν, (∀ k, k < 33 → mI ν 89 0 k = stP s i 0 k) → Fr [(89, none, none)] μ ν → ∃ ν', self (nI i) ν = K ν' ∧ (∀ k, k < 33 → mI ν' 89 0 k = stP s (yC s).2.1 0 k) ∧ Fr [(89, none, none)] μ ν') (yC s).2.1 ?_ ?_ 60000 0 (by omega) (by omega) μ (fun k hk => ?_) (Fr.rf _ _)
  · intro i self hi ih ν hq g
    have pk2 := pk.fr g rfl rfl
    have f18 : mI ν 55 0 18 = nI d := (g.I rfl).trans h18
    obtain ⟨-, q2, q3⟩ := pk2.2.2.2.2.2.2.2.1 i hi
    have g18 : ∀ a v, mI (stI ν 89 0 a v) 55 0 18 = nI d := fun a v => by rw [mI_stI, if_neg (by omega)]; exact f18
    have g69 : ∀ a v, mI (stI ν 89 0 a v) 69 0 (6 * d + i) = yA s 6 i := fun a v => by rw [mI_stI, if_neg (by omega)]; exact q3
    unfold m_begins_B23
    rw [f18, if_pos (inB_nI d2 (by omega)), cl_nI (show d < 2147483648 by omega), pk2.2.2.2.1, if_neg (nI_ge hi (by omega)), pk_mul, nI_add, if_pos (inB_nI (by omega) (by omega)), if_pos (inB_nI (by omega) (by omega)), cl_nI (by omega), cl_nI (by omega), q2, mb_e, g18, pk_mul, nI_add, if_pos (inB_nI (by omega) (by omega)), nI_add, if_pos (inB_nI (by omega) (by omega)), cl_nI (by omega), cl_nI (by omega), g69, mb_e, nI_add]
    refine ih _ (fun k hk => ?_) (Fr.stI (Fr.stI g (iT 0 rfl inA_nn)) (iT 0 rfl inA_nn))
    rw [mI_stI, mI_stI]
    unfold stP at hq ⊢
    by_cases e : k = 6 + i
    · rw [if_pos ⟨rfl, rfl, e⟩, if_neg (by omega), if_pos (by omega), if_pos (by omega), show k - 6 = i by omega]
    · by_cases e2 : k = i
      · rw [if_neg (by omega), if_pos ⟨rfl, rfl, e2⟩, if_pos (by omega), if_pos (by omega), e2]
      · rw [if_neg (by omega), if_neg (by omega), hq k hk]
        by_cases c1 : k < 6
        · rw [if_pos c1, if_pos c1]
          by_cases c2 : k < i
          · rw [if_pos c2, if_pos (by omega)]
          · rw [if_neg c2, if_neg (by omega)]
        · rw [if_neg c1, if_neg c1]
          by_cases c3 : k < 12
          · rw [if_pos c3, if_pos c3]
            by_cases c2 : k - 6 < i
            · rw [if_pos c2, if_pos (by omega)]
            · rw [if_neg c2, if_neg (by omega)]
          · rw [if_neg c3, if_neg c3]
  · intro self ν hq g
    have pk2 := pk.fr g rfl rfl
    have f18 : mI ν 55 0 18 = nI d := (g.I rfl).trans h18
    unfold m_begins_B23
    rw [f18, if_pos (inB_nI d2 (by omega)), cl_nI (show d < 2147483648 by omega), pk2.2.2.2.1, if_pos (Int32.le_refl _)]
    exact ⟨ν, rfl, hq, g⟩
  · rw [h0 k hk]
    unfold stP
    simp only [Nat.not_lt_zero, ↓reduceIte, ite_self]
theorem beg87_e {Z : Tks} {d : Nat} {s : Sg} {K : Mem → Option (Unit × Mem)} {μ : Mem} (h18 : mI μ 55 0 18 = nI d) (pk : PkM d μ (yC s) (yA s)) (hs : SgI Z s) (h0 : ∀ k, k < 33 → mI μ 89 0 k = stP s (yC s).2.1 0 k) : ∃ ν, m_begins_L87 K (nI 0) μ = K ν ∧ (∀ k, k < 33 → mI ν 89 0 k = stP s (yC s).2.1 (yC s).2.2 k) ∧ Fr [(89, none, none)] μ ν := by
  have d2 := pk.1
  have s1 := hs.2.1
  have s2 := hs.2.2.1
  unfold m_begins_L87
  refine fixN_up (fun i (self : Int32 → Mem → Option (Unit × Mem)) => ∀ ν, (∀ k, k < 33 → mI ν 89 0 k = stP s (yC s).2.1 i k) → Fr [(89, none, none)] μ ν → ∃ ν', self (nI i) ν = K ν' ∧ (∀ k, k < 33 → mI ν' 89 0 k = stP s (yC s).2.1 (yC s).2.2 k) ∧ Fr [(89, none, none)] μ ν') (yC s).2.2 ?_ ?_ 60000 0 (by omega) (by omega) μ h0 (Fr.rf _ _)
  · intro i self hi ih ν hq g
    have pk2 := pk.fr g rfl rfl
    have f18 : mI ν 55 0 18 = nI d := (g.I rfl).trans h18
    obtain ⟨-, -, q3⟩ := pk2.2.2.2.2.2.2.2.2 i hi
    unfold m_begins_B87
    rw [f18, if_pos (inB_nI d2 (by omega)), cl_nI (show d < 2147483648 by omega), pk2.2.2.2.2.1, if_neg (nI_ge hi (by omega)), pk_mul, nI_add, if_pos (inB_nI (by omega) (by omega)), nI_add, if_pos (inB_nI (by omega) (by omega)), cl_nI (by omega), cl_nI (by omega), q3, mb_e, nI_add]
    refine ih _ (fun k hk => ?_) (Fr.stI g (iT 0 rfl inA_nn))
    rw [mI_stI]
    by_cases e : k = 18 + i
    · unfold stP
      rw [if_pos ⟨rfl, rfl, e⟩, if_neg (by omega), if_neg (by omega), if_neg (by omega), if_pos (by omega), if_pos (by omega), show k - 18 = i by omega]
    · rw [if_neg (by omega), hq k hk]
      unfold stP
      by_cases c1 : k < 6
      · rw [if_pos c1, if_pos c1]
      · rw [if_neg c1, if_neg c1]
        by_cases c3 : k < 12
        · rw [if_pos c3, if_pos c3]
        · rw [if_neg c3, if_neg c3]
          by_cases c4 : k < 18
          · rw [if_pos c4, if_pos c4]
          · rw [if_neg c4, if_neg c4]
            by_cases c5 : k < 30
            · rw [if_pos c5, if_pos c5]
              by_cases c2 : k - 18 < i
              · rw [if_pos c2, if_pos (by omega)]
              · rw [if_neg c2, if_neg (by omega)]
            · rw [if_neg c5, if_neg c5]
  · intro self ν hq g
    have pk2 := pk.fr g rfl rfl
    have f18 : mI ν 55 0 18 = nI d := (g.I rfl).trans h18
    unfold m_begins_B87
    rw [f18, if_pos (inB_nI d2 (by omega)), cl_nI (show d < 2147483648 by omega), pk2.2.2.2.2.1, if_pos (Int32.le_refl _)]
    exact ⟨ν, rfl, hq, g⟩
theorem PkM.pl {Z : Tks} {d : Nat} {μ : Mem} {s : Sg} (h : PkM d μ (yC s) (yA s)) (h18 : mI μ 55 0 18 = nI d) (hs : SgI Z s) (hg : SgG s) (h0 : (yL s).1 = 0) : PlM μ d (plG s) := by
  obtain ⟨a1, a2, a3, a4, a5, a6, a7, a8, a9⟩ := h
  obtain ⟨s1, s2, s3, -⟩ := hs
  obtain ⟨g1, g2, -⟩ := hg h0
  refine ⟨a1, h18, a3, a4, a5, a6, fun f hf => (a8 f hf).1, fun n hn => ?_, fun n hn => ?_⟩
  · obtain ⟨⟨l, h1, h2⟩, -⟩ := g1 n hn
    rw [(a9 n hn).1]
    show _ = nI (cl (yA s 2 n))
    rw [h2, cl_nI (by omega)]
  · obtain ⟨-, h3, -⟩ := g1 n hn
    rw [(a9 n hn).2.1]
    show _ = nI (cl (yA s 3 n))
    rcases h3 with ⟨l, h1, h2⟩ | ⟨f, h1, h2⟩ | h2
    · rw [h2, cl_nI (by omega)]
    · rw [h2, cl_nI (by omega)]
    · rw [h2, cl_nI (by omega)]
theorem m_begins_e {Z : Tks} {d : Nat} {s : Sg} {μ : Mem} (h18 : mI μ 55 0 18 = nI d) (pk : PkM d μ (yC s) (yA s)) (hs : SgI Z s) (hg : SgG s) (hz : (yL s).1 = 0) : ∃ μ', m_begins μ = some ((), μ') ∧ RwM μ' (stG s) := by
  obtain ⟨hk, hS⟩ := plG_ok hs hg hz
  have d2 := pk.1
  unfold m_begins
  obtain ⟨ν1, e1, q1, g1⟩ := beg2_e (K := fun (μ6 : Mem) =>
m_begins_L23 (fun (μ27 : Mem) =>
m_begins_L87 (fun (μ42 : Mem) =>
if inB (mI μ42 55 0 18) 2 = true then
mb (stI μ42 89 0 30 (mI μ42 74 0 (cl (mI μ42 55 0 18)))) fun μ48 =>
if inB (mI μ48 55 0 18) 2 = true then
mb (stI μ48 55 0 52 (mI μ48 75 0 (cl (mI μ48 55 0 18)))) fun μ52 =>
ob (m_parts (stI μ52 55 0 53 (nI 0))) fun _ μ54 =>
some ((), μ54) else none else none) (nI 0) μ27) (nI 0) μ6) μ
  rw [e1]
  have pk1 := pk.fr g1 rfl rfl
  have h181 : mI ν1 55 0 18 = nI d := (g1.I rfl).trans h18
  obtain ⟨ν2, e2, q2, g2⟩ := beg23_e (K := fun (μ27 : Mem) =>
m_begins_L87 (fun (μ42 : Mem) =>
if inB (mI μ42 55 0 18) 2 = true then
mb (stI μ42 89 0 30 (mI μ42 74 0 (cl (mI μ42 55 0 18)))) fun μ48 =>
if inB (mI μ48 55 0 18) 2 = true then
mb (stI μ48 55 0 52 (mI μ48 75 0 (cl (mI μ48 55 0 18)))) fun μ52 =>
ob (m_parts (stI μ52 55 0 53 (nI 0))) fun _ μ54 =>
some ((), μ54) else none else none) (nI 0) μ27) h181 pk1 hs q1
  try dsimp only
  rw [e2]
  have pk2 := pk1.fr g2 rfl rfl
  have h182 : mI ν2 55 0 18 = nI d := (g2.I rfl).trans h181
  obtain ⟨ν3, e3, q3, g3⟩ := beg87_e (K := fun (μ42 : Mem) =>
if inB (mI μ42 55 0 18) 2 = true then
mb (stI μ42 89 0 30 (mI μ42 74 0 (cl (mI μ42 55 0 18)))) fun μ48 =>
if inB (mI μ48 55 0 18) 2 = true then
mb (stI μ48 55 0 52 (mI μ48 75 0 (cl (mI μ48 55 0 18)))) fun μ52 =>
ob (m_parts (stI μ52 55 0 53 (nI 0))) fun _ μ54 =>
some ((), μ54) else none else none) h182 pk2 hs q2
  try dsimp only
  rw [e3]
  try dsimp only
  have pk3 := pk2.fr g3 rfl rfl
  have h183 : mI ν3 55 0 18 = nI d := (g3.I rfl).trans h182
  have f74 : mI ν3 74 0 d = yA s 0 1 := pk3.2.2.2.2.2.2.1
  generalize hM : stI ν3 89 0 30 (yA s 0 1) = M
  have gM : Fr [(89, none, none)] ν3 M := by rw [← hM]; exact Fr.stI (Fr.rf _ _) (iT 0 rfl inA_nn)
  have pkM := pk3.fr gM rfl rfl
  have h18M : mI M 55 0 18 = nI d := (gM.I rfl).trans h183
  generalize hN : stI (stI M 55 0 52 (mI M 75 0 d)) 55 0 53 (nI 0) = N
  have gN : Fr [(55, none, some 52), (55, none, some 53)] M N := by rw [← hN]; exact Fr.stI (Fr.stI (Fr.rf _ _) (iT 0 rfl inA_ns)) (iT 1 rfl inA_ns)
  have pkN := pkM.fr gN rfl rfl
  have h18N : mI N 55 0 18 = nI d := (gN.I rfl).trans h18M
  have rN : RwM N (stG s) := fun k hk => by
    rw [gN.I rfl, ← hM, mI_stI]
    by_cases e : k = 30
    · rw [if_pos ⟨rfl, rfl, e⟩, e]
      exact (stG_s s).1.symm
    · rw [if_neg (by omega), q3 k hk]
      unfold stP stG
      by_cases c1 : k < 6
      · rw [if_pos c1, if_pos c1]
      · rw [if_neg c1, if_neg c1]
        by_cases c3 : k < 12
        · rw [if_pos c3, if_pos c3]
        · rw [if_neg c3, if_neg c3]
          by_cases c4 : k < 18
          · rw [if_pos c4, if_pos c4]
          · rw [if_neg c4, if_neg c4]
            by_cases c5 : k < 30
            · rw [if_pos c5, if_pos c5]
            · rw [if_neg c5, if_neg c5, if_neg e]
  obtain ⟨μ', e4, w4⟩ := m_parts_e hk hS (pkN.pl h18N hs hg hz) rN
  have g4 := f_m_parts e4
  rw [h183, if_pos (inB_nI d2 (by omega)), cl_nI (by omega), f74, mb_e, hM, h18M, if_pos (inB_nI d2 (by omega)), cl_nI (by omega), mb_e, hN, ob_eq e4]
  exact ⟨μ', rfl, fun k hk => (g4.I rfl).trans (rN k hk)⟩

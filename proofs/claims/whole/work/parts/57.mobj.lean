/-! the reference's side of what changes -/
def vlW (l : List Nat) : Nat := l.foldl (fun v c => 27 * v + c) 0
/-- the words, in the reference's order, a letter a number (a is 1) -/
def wdR : List (List Nat) := [[12,15,7], [6,9,5,12,4], [14,15,20,3,8], [4,18,1,9,14], [19,16,18,9,14,7], [18,9,22,5,18], [14,5,5,4,19], [23,15,18,20,8], [3,15,19,20,19], [19,9,12,20,19], [19,5,5,4], [9,6], [20,8,5,14], [5,12,19,5], [6,12,15,23], [1,18,5,1], [23,9,4,5], [7,18,15,23,14], [4,1,25], [23,8,9,3,8], [19,20,15,18,5], [12,15,7,19], [6,9,5,12,4,19]]
def KeyM (μ : Mem) : Prop := ∀ k, k < 23 → mL μ 62 0 k = oL (vlW (wdR.getD k []))
def PastM (μ : Mem) (n : Nat) (H : Nat → Nat → Int32) : Prop := mI μ 55 0 61 = nI n ∧ ∀ j k, j < n → k < 33 → mI μ 95 0 (33 * (n - 1 - j) + k) = H j k
def SlotM (μ : Mem) (b : Nat → Bool) (V : Nat → Nat → Int32) : Prop := ∀ k, k < 3 → mI μ 102 0 k = b01I (b k) ∧ (b k = true → ∀ i, i < 33 → mI μ 103 0 (33 * k + i) = V k i)
def TapM (μ : Mem) (m : Nat) (X : Nat → Int32) : Prop := mI μ 55 0 2 = nI m ∧ ∀ k, k < m → mI μ 56 0 k = X k
def Re4M (μ : Mem) (o : Ob) : Prop := SlotM μ (zB o) (zV o) ∧ TkM μ (zT o) ∧ TapM μ (zM o) (zX o) ∧ mI μ 55 0 17 = zE o ∧ KeyM μ
def InvM (μ : Mem) (lv : Nat) (o : Ob) : Prop := MCore μ lv (zP o) (zS o) ∧ PastM μ (zN o) (zH o) ∧ Re4M μ o
theorem InvM.co {μ : Mem} {lv : Nat} {o : Ob} (h : InvM μ lv o) : MCore μ lv (zP o) (zS o) := h.1
theorem InvM.pa {μ : Mem} {lv : Nat} {o : Ob} (h : InvM μ lv o) : PastM μ (zN o) (zH o) := h.2.1
theorem InvM.sl {μ : Mem} {lv : Nat} {o : Ob} (h : InvM μ lv o) : SlotM μ (zB o) (zV o) := h.2.2.1
theorem InvM.tk {μ : Mem} {lv : Nat} {o : Ob} (h : InvM μ lv o) : TkM μ (zT o) := h.2.2.2.1
theorem InvM.ta {μ : Mem} {lv : Nat} {o : Ob} (h : InvM μ lv o) : TapM μ (zM o) (zX o) := h.2.2.2.2.1
theorem InvM.pl {μ : Mem} {lv : Nat} {o : Ob} (h : InvM μ lv o) : mI μ 55 0 17 = zE o := h.2.2.2.2.2.1
theorem InvM.ke {μ : Mem} {lv : Nat} {o : Ob} (h : InvM μ lv o) : KeyM μ := h.2.2.2.2.2.2
def Nd4 (r k : Nat) : Prop := r = 102 ∨ r = 103 ∨ (98 ≤ r ∧ r ≤ 100) ∨ r = 56 ∨ r = 62 ∨ (r = 55 ∧ (k = 67 ∨ k = 2 ∨ k = 17))
theorem Re4M.fn {μ μ' : Mem} {o : Ob} (h : Re4M μ o) (f : ∀ r i k, Nd4 r k → mI μ' r i k = mI μ r i k ∧ mL μ' r i k = mL μ r i k) : Re4M μ' o := by
  unfold Nd4 at f
  obtain ⟨a, b, c, d, e⟩ := h
  exact ⟨fun k hk => ⟨(f _ _ _ (by omega)).1.trans (a k hk).1, fun hb i hi => (f _ _ _ (by omega)).1.trans ((a k hk).2 hb i hi)⟩, ⟨(f _ _ _ (by omega)).1.trans b.1, fun i hi => ⟨(f _ _ _ (by omega)).1.trans (b.2 i hi).1, (f _ _ _ (by omega)).1.trans (b.2 i hi).2.1, (f _ _ _ (by omega)).1.trans (b.2 i hi).2.2⟩⟩, ⟨(f _ _ _ (by omega)).1.trans c.1, fun k hk => (f _ _ _ (by omega)).1.trans (c.2 k hk)⟩, (f _ _ _ (by omega)).1.trans d, fun k hk => (f _ _ _ (by omega)).2.trans (e k hk)⟩
theorem okM_g {T : List At} {μ μ' : Mem} (g : Fr T μ μ') (o : okM T = true) {r i k : Nat} (h1 : ¬ (86 ≤ r ∧ r ≤ 87)) (h2 : ¬ (89 ≤ r ∧ r ≤ 94)) (h3 : r ≠ 96) (h4 : r ≠ 97) (h5 : r ≠ 101) (h6 : r = 55 → k ≠ 49 ∧ k ≠ 52 ∧ k ≠ 53 ∧ k ≠ 56 ∧ k ≠ 57 ∧ k ≠ 64 ∧ k ≠ 65) : mI μ' r i k = mI μ r i k ∧ mL μ' r i k = mL μ r i k := ⟨g.I (okM_f o h1 h2 h3 h4 h5 h6), g.L (okM_f o h1 h2 h3 h4 h5 h6)⟩
theorem InvM.fr {μ μ' : Mem} {lv : Nat} {o : Ob} {T : List At} (h : InvM μ lv o) (g : Fr T μ μ') (ok : okM T = true) : InvM μ' lv o :=
  ⟨h.1.fr g ok, ⟨(okM_g g ok (by omega) (by omega) (by omega) (by omega) (by omega) (by omega)).1.trans h.2.1.1, fun j k hj hk => (okM_g g ok (by omega) (by omega) (by omega) (by omega) (by omega) (by omega)).1.trans (h.2.1.2 j k hj hk)⟩, h.2.2.fn (fun r i k hh => okM_g g ok (by unfold Nd4 at hh; omega) (by unfold Nd4 at hh; omega) (by unfold Nd4 at hh; omega) (by unfold Nd4 at hh; omega) (by unfold Nd4 at hh; omega) (by unfold Nd4 at hh; omega))⟩
/-- plan and laws where only these places are written -/
theorem MCore.pln {μ μ' : Mem} {lv : Nat} {P : Pl} {S S' : Nat → Int32} {T : List At} (h : MCore μ lv P S) (g : Fr T μ μ') (o : offR [65, 66, 67, 70, 71, 72, 75, 76, 77, 78, 79, 80, 81, 82, 83, 84] T = true) (o55 : inT T 55 0 18 = false) (n : ∀ k, k < 33 → mI μ' 88 0 k = S' k) : MCore μ' lv P S' := ⟨h.pl.fr g (offR_s o rfl) o55, h.la.fo g (offR_s o rfl), n⟩
/-! records -/
theorem m_keepsRow_e {μ : Mem} {S : Nat → Int32} (hr : RwM μ S) : ∃ μ', m_keepsRow μ = some ((), μ') ∧ ∀ k, k < 33 → mI μ' 88 0 k = S k := by
  refine fixN_up (fun i (self : Int32 → Mem → Option (Unit × Mem)) => ∀ μ, RwM μ S → (∀ k, k < i → mI μ 88 0 k = S k) → ∃ μ', self (nI i) μ = some ((), μ') ∧ ∀ k, k < 33 → mI μ' 88 0 k = S k) 33 ?_ ?_ 60000 0 (by omega) (by omega) μ hr (fun k hk => by omega)
  · intro i self hi ih μ hr hq
    unfold m_keepsRow_B2
    simp (disch := omega) only [nI_leF, inB_nI, cl_nI, hr i hi, nI_add, ↓reduceIte]
    refine ih _ hr (fun k hk => ?_)
    rw [mI_stI]
    by_cases e : k = i
    · subst e; rw [if_pos ⟨rfl, rfl, rfl⟩]
    · rw [if_neg (fun z => e z.2.2)]; exact hq k (by omega)
  · intro self μ hr hq
    unfold m_keepsRow_B2
    simp (disch := omega) only [nI_leT, ↓reduceIte]
    exact ⟨μ, rfl, hq⟩
theorem m_rec51_e {n : Nat} (hn : n < 40) {S S' : Nat → Int32} {h0 : Nat → Int32} {K : Mem → Option (Unit × Mem)} {Q : Mem → Prop} (hK : ∀ μ, mI μ 55 0 61 = nI n → RwM μ S' → (∀ k, k < 33 → mI μ 95 0 (33 * n + k) = S k) → (∀ k, k < 33 * n → mI μ 95 0 k = h0 k) → ∃ ν, K μ = some ((), ν) ∧ Q ν) {μ : Mem} (h61 : mI μ 55 0 61 = nI n) (hr : RwM μ S') (h88 : ∀ k, k < 33 → mI μ 88 0 k = S k) (h95 : ∀ k, k < 33 * n → mI μ 95 0 k = h0 k) : ∃ ν, m_records_L51 K (nI 0) μ = some ((), ν) ∧ Q ν := by
  refine fixN_up (fun i (self : Int32 → Mem → Option (Unit × Mem)) => ∀ μ, mI μ 55 0 61 = nI n → RwM μ S' → (∀ k, k < 33 → mI μ 88 0 k = S k) → (∀ k, k < 33 * n → mI μ 95 0 k = h0 k) → (∀ k, k < i → mI μ 95 0 (33 * n + k) = S k) → ∃ ν, self (nI i) μ = some ((), ν) ∧ Q ν) 33 ?_ ?_ 60000 0 (by omega) (by omega) μ h61 hr h88 h95 (fun k hk => by omega)
  · intro i self hi ih μ h61 hr h88 h95 hq
    unfold m_records_B51
    simp (disch := omega) only [nI_leF, inB_nI, cl_nI, h61, pk_mul, nI_add, h88 i hi, ↓mb_e, ↓reduceIte]
    refine ih _ h61 hr h88 (fun k hk => ?_) (fun k hk => ?_)
    · rw [mI_stI, if_neg (by omega)]; exact h95 k hk
    · rw [mI_stI]
      by_cases e : k = i
      · subst e; rw [if_pos ⟨rfl, rfl, rfl⟩]
      · rw [if_neg (by omega)]; exact hq k (by omega)
  · intro self μ h61 hr h88 h95 hq
    unfold m_records_B51
    simp (disch := omega) only [nI_leT, ↓reduceIte]
    exact hK μ h61 hr hq h95
theorem m_rec_e {μ : Mem} {lv : Nat} {o : Ob} {S' : Nat → Int32} (hN : zN o ≤ 40) (h : InvM μ lv o) (hr : RwM μ S') : ∃ μ', m_records μ = some ((), μ') ∧ InvM μ' lv (psh o S') := by
  have main : ∃ μ', m_records μ = some ((), μ') ∧ PastM μ' (min40 (zN o)) (cons1 (zS o) (zH o)) ∧ ∀ k, k < 33 → mI μ' 88 0 k = S' k := by
    have tail : ∀ n, n < 40 → n = min40 (zN o) - 1 → ∀ (h0 : Nat → Int32), (∀ j k, 1 ≤ j → j < n + 1 → k < 33 → h0 (33 * (n - j) + k) = zH o (j - 1) k) → ∀ μ, mI μ 55 0 61 = nI n → RwM μ S' → (∀ k, k < 33 → mI μ 95 0 (33 * n + k) = zS o k) → (∀ k, k < 33 * n → mI μ 95 0 k = h0 k) → ∃ ν, (mb (stI μ 55 0 61 ((mI μ 55 0 61) + (nI 1))) fun μ17 => ob (m_keepsRow μ17) fun _ μ19 => some ((), μ19)) = some ((), ν) ∧ PastM ν (min40 (zN o)) (cons1 (zS o) (zH o)) ∧ ∀ k, k < 33 → mI ν 88 0 k = S' k := by
      intro n hn hn2 h0 hh μ h61 hr h95 hlow
      have hm : min40 (zN o) = n + 1 := by unfold min40 at hn2 ⊢; split at hn2 <;> (split <;> omega)
      have hr2 : RwM (stI μ 55 0 61 (nI (n + 1))) S' := hr
      obtain ⟨ν, e, q⟩ := m_keepsRow_e hr2
      have g := f_m_keepsRow e
      refine ⟨ν, ?_, ⟨?_, fun j k hj hk => ?_⟩, q⟩
      · rw [h61, nI_add, mb_e]
        simp only [↓ob_eq e]
      · rw [g.I rfl, mI_stI, if_pos ⟨rfl, rfl, rfl⟩, hm]
      · rw [hm] at hj ⊢
        rw [g.I rfl, mI_stI, if_neg (by omega), show n + 1 - 1 - j = n - j by omega]
        unfold cons1
        by_cases e0 : j = 0
        · subst e0; rw [if_pos rfl, Nat.sub_zero]; exact h95 k hk
        · rw [if_neg e0, hlow _ (by
            have : n - j + 1 ≤ n := by omega
            have := Nat.mul_le_mul_left 33 this
            omega), hh j k (by omega) hj hk]
    unfold m_records
    by_cases c : zN o = 40
    · rw [h.pa.1, c, if_pos rfl]
      have h9 : ∀ j k, j < 40 → k < 33 → mI μ 95 0 (33 * (39 - j) + k) = zH o j k := fun j k hj hk => by
        have := h.pa.2 j k (by omega) hk
        rw [c, show 40 - 1 - j = 39 - j by omega] at this
        exact this
      obtain ⟨h0, hh0⟩ : ∃ h0 : Nat → Int32, ∀ k, mI μ 95 0 k = h0 k := ⟨_, fun k => rfl⟩
      refine fixN_up (fun i (self : Int32 → Mem → Option (Unit × Mem)) => ∀ μ, mI μ 55 0 61 = nI 40 → RwM μ S' → (∀ k, k < 33 → mI μ 88 0 k = zS o k) → (∀ k, k < 1320 → mI μ 95 0 k = if k < i then h0 (k + 33) else h0 k) → ∃ ν, self (nI i) μ = some ((), ν) ∧ PastM ν (min40 40) (cons1 (zS o) (zH o)) ∧ ∀ k, k < 33 → mI ν 88 0 k = S' k) 1287 ?_ ?_ 60000 0 (by omega) (by omega) μ (by rw [h.pa.1, c]) hr h.co.nw (fun k hk => by rw [if_neg (by omega)]; exact hh0 k)
      · intro i self hi ih μ h61 hr h88 hq
        have q1 := hq (i + 33) (by omega)
        rw [if_neg (by omega)] at q1
        unfold m_records_B11
        simp (disch := omega) only [nI_leF, nI_add, inB_nI, cl_nI, q1, ↓mb_e, ↓reduceIte]
        refine ih _ h61 hr h88 (fun k hk => ?_)
        rw [mI_stI]
        by_cases e : k = i
        · subst e; rw [if_pos ⟨rfl, rfl, rfl⟩, if_pos (by omega)]
        · rw [if_neg (by omega), hq k hk]
          by_cases e2 : k < i
          · rw [if_pos e2, if_pos (by omega)]
          · rw [if_neg e2, if_neg (by omega)]
      · intro self μ h61 hr h88 hq
        unfold m_records_B11
        rw [if_pos (by rw [nI_leT (by omega) (by omega)]; trivial)]
        dsimp only
        rw [mb_e, h61, nI_sub1 (by omega)]
        have tl := tail 39 (by omega) (by rw [c]; decide) (fun k => h0 (k + 33)) (fun j k h1 h2 hk => by
          show h0 (33 * (39 - j) + k + 33) = _
          rw [← hh0, show 33 * (39 - j) + k + 33 = 33 * (39 - (j - 1)) + k by omega]
          exact h9 (j - 1) k (by omega) hk)
        rw [c] at tl
        exact m_rec51_e (n := 39) (μ := stI μ 55 0 61 (nI 39)) (by omega) (S := zS o) (S' := S') (h0 := fun k => h0 (k + 33)) tl (by rw [mI_stI, if_pos ⟨rfl, rfl, rfl⟩]) hr h88 (fun k hk => by rw [mI_stI, if_neg (by omega), hq k (by omega), if_pos (by omega)])
    · have c40 : zN o < 40 := by omega
      rw [h.pa.1, if_neg (by rw [nI_eqF (by omega) (by omega) (by omega)]; exact id)]
      have hm : min40 (zN o) = zN o + 1 := by unfold min40; rw [if_pos c40]
      obtain ⟨h0, hh0⟩ : ∃ h0 : Nat → Int32, ∀ k, mI μ 95 0 k = h0 k := ⟨_, fun k => rfl⟩
      refine m_rec51_e c40 (S := zS o) (S' := S') (h0 := h0) (tail (zN o) c40 (by omega) h0 (fun j k h1 h2 hk => ?_)) h.pa.1 hr h.co.nw (fun k _ => hh0 k)
      rw [← hh0, show zN o - j = zN o - 1 - (j - 1) by omega]
      exact h.pa.2 (j - 1) k (by omega) hk
  obtain ⟨μ', e, a, b⟩ := main
  have g := f_m_records e
  exact ⟨μ', e, h.co.pln g rfl rfl b, a, h.2.2.fn (fun r i k hh => by
    have o : inT T_m_records r i k = false := by
      cases e : inT T_m_records r i k with
      | false => rfl
      | true =>
        exfalso
        obtain ⟨q, ha, hb⟩ := List.any_eq_true.mp e
        unfold T_m_records at ha
        unfold inA at hb
        unfold Nd4 at hh
        simp only [List.mem_cons, List.not_mem_nil, or_false] at ha
        rcases ha with rfl | rfl | rfl <;> (simp only [Bool.and_eq_true, beq_iff_eq] at hb; omega)
    exact ⟨g.I o, g.L o⟩)⟩
/-! step, drain, spring, days -/
theorem m_step_e {μ : Mem} {lv : Nat} {o : Ob} (ok : OkO o) (h : InvM μ lv o) (x y : Int32) : ∃ μ', m_step x y μ = some (rStep o x y, μ') ∧ InvM μ' lv (nStep o x y) := by
  obtain ⟨hk, hS, hN, -⟩ := ok
  have k3 := hk.2.2.1
  obtain ⟨μ1, e1, A1, W1, -, -, H1⟩ := m_copies_e hk hS h.co
  have I1 := h.fr (f_m_copies e1) rfl
  have e0 := m_isNotch_e hk A1.pl x
  unfold m_step rStep nStep
  rcases inB_cases x (show pNo (zP o) < 2147483648 by omega) with ⟨a, n, hn, e⟩ | ⟨a, -⟩
  · subst e
    rw [a] at e0
    rw [if_pos a, if_pos a, cl_nI (by omega)]
    have e2 := fun μ => m_stepOf_e (show n < 12 by omega) y μ
    generalize hs : (if y = nI 0 then 2 * n else 2 * n + 1) = s at e2 ⊢
    have hs2 : s < 1000 := by rw [← hs]; split <;> omega
    have e3 := m_canStep_e hk hS A1.pl A1.rw hs2
    cases c : canS (zP o) (zS o) s with
    | false =>
      rw [c] at e3
      refine ⟨μ1, ?_, I1⟩
      simp only [↓ob_eq e1, ↓ob_eq e0, ↓ob_eq (e2 μ1), ↓ob_eq e3, b01I, nI_10, Bool.false_eq_true, ↓reduceIte]
    | true =>
      rw [c] at e3
      rw [if_pos rfl, if_pos rfl]
      obtain ⟨μ2, e4⟩ := m_costsOf_e hk A1 hn
      have g2 := f_m_costsOf e4
      have A2 := A1.fo g2 rfl rfl
      have I2 := I1.fr g2 rfl
      obtain ⟨μ3, e6, A3⟩ := m_steps_e hk hS A2 c
      have g3 := f_m_steps e6
      have I3 := I2.fr g3 rfl
      have h32 : mI μ3 89 0 32 = zS o 32 := by
        rw [A3.rw 32 (by omega)]
        exact up_n _ _ (by have := (canS_t c).1; omega)
      have R4 := A3.rw.up 32 (zS o 32 + costs (zP o) (zS o) n)
      have g4 : Fr [(89, none, none)] μ3 (stI μ3 89 0 32 (zS o 32 + costs (zP o) (zS o) n)) := Fr.stI (Fr.rf _ _) (iT 0 rfl inA_nn)
      obtain ⟨μ5, e7, I5⟩ := m_rec_e hN (I3.fr g4 rfl) R4
      refine ⟨μ5, ?_, I5⟩
      simp only [↓ob_eq e1, ↓ob_eq e0, ↓ob_eq (e2 μ1), ↓ob_eq e3, b01I, nI_10, ↓ob_eq e4, ↓ob_eq (e2 μ2), ↓ob_eq e6, h32, ↓mb_e, ↓ob_eq e7, ↓reduceIte]
  · rw [a] at e0
    rw [if_neg (by rw [a]; decide), if_neg (by rw [a]; decide)]
    exact ⟨μ1, by simp only [↓ob_eq e1, ↓ob_eq e0, b01I, Bool.false_eq_true, ↓reduceIte], I1⟩
theorem m_drain_e {μ : Mem} {lv : Nat} {o : Ob} (ok : OkO o) (h : InvM μ lv o) (x y z : Int32) : ∃ μ', m_drain x y z μ = some (rDrain o x y z, μ') ∧ InvM μ' lv (nDrain o x y z) := by
  have h0 := h
  obtain ⟨hk, hS, hN, -⟩ := ok
  have k1 := hk.1
  have k2 := hk.2.1
  have e0 := m_isField_e hk h.co.pl x
  have e1 := m_isLog_e hk h.co.pl y
  have e2 := m_in_r z (nI 0) (nI 3) μ
  have no : cDr o x y z = false → ∀ {v : Int32} {μ' : Mem}, v = nI 0 → μ' = μ → some (v, μ') = some (rDrain o x y z, μ) := fun c v μ' e e' => by unfold rDrain; rw [c, e, e']; rfl
  have nn : cDr o x y z = false → InvM μ lv (nDrain o x y z) := fun c => by unfold nDrain; rw [c]; exact h0
  unfold m_drain
  rcases inB_cases x (show pFd (zP o) < 2147483648 by omega) with ⟨a, f, hf, e⟩ | ⟨a, -⟩
  · subst e
    rw [a] at e0
    rcases inB_cases y (show pLg (zP o) < 2147483648 by omega) with ⟨b, d, hd, e⟩ | ⟨b, -⟩
    · subst e
      rw [b] at e1
      cases c : inR z (nI 0) (nI 3) with
      | false =>
        rw [c] at e2
        have cf : cDr o (nI f) (nI d) z = false := by unfold cDr; rw [c]; simp
        refine ⟨μ, ?_, nn cf⟩
        simp only [↓ob_eq e0, ↓ob_eq e1, ↓ob_eq e2, b01I, nI_10, Bool.false_eq_true, ↓reduceIte]
        exact no cf rfl rfl
      | true =>
        rw [c] at e2
        obtain ⟨q, -, hq, rfl⟩ := inR_t (by omega) (by omega) c
        have d1 := h.co.nw f (by omega)
        have d2 := h.co.nw (6 + f) (by omega)
        have ce : cDr o (nI f) (nI d) (nI q) = !(decide (zS o f = nI d) && decide (zS o (6 + f) = nI q)) := by unfold cDr; rw [a, b, c, cl_nI (by omega)]; rfl
        have go : cDr o (nI f) (nI d) (nI q) = true → ∃ μ1 μ2, m_copies μ = some ((), μ1) ∧ m_records (stI (stI μ1 89 0 f (nI d)) 89 0 (6 + f) (nI q)) = some ((), μ2) ∧ InvM μ2 lv (nDrain o (nI f) (nI d) (nI q)) := fun ct => by
          obtain ⟨μ1, e4, A1, W1, -, -, H1⟩ := m_copies_e hk hS h.co
          have I1 := h.fr (f_m_copies e4) rfl
          have R2 := (A1.rw.up f (nI d)).up (6 + f) (nI q)
          have g : Fr [(89, none, none)] μ1 (stI (stI μ1 89 0 f (nI d)) 89 0 (6 + f) (nI q)) := Fr.stI (Fr.stI (Fr.rf _ _) (iT 0 rfl inA_nn)) (iT 0 rfl inA_nn)
          obtain ⟨μ2, e5, I5⟩ := m_rec_e hN (I1.fr g rfl) R2
          refine ⟨μ1, μ2, e4, e5, ?_⟩
          unfold nDrain
          rw [if_pos ct, cl_nI (by omega), cl_nI (by omega), cl_nI (by omega)]
          exact I5
        by_cases c1 : zS o f = nI d
        · by_cases c2 : zS o (6 + f) = nI q
          · have cf : cDr o (nI f) (nI d) (nI q) = false := by rw [ce, decide_eq_true c1, decide_eq_true c2]; rfl
            refine ⟨μ, ?_, nn cf⟩
            simp (disch := omega) only [↓ob_eq e0, ↓ob_eq e1, ↓ob_eq e2, b01I, nI_10, inB_nI, cl_nI, nI_add, d1, d2, c1, c2, ↓reduceIte]
            exact no cf rfl rfl
          · have ct : cDr o (nI f) (nI d) (nI q) = true := by rw [ce, decide_eq_false c2, Bool.and_false]; rfl
            obtain ⟨μ1, μ2, e4, e5, i2⟩ := go ct
            refine ⟨μ2, ?_, i2⟩
            simp (disch := omega) only [↓ob_eq e0, ↓ob_eq e1, ↓ob_eq e2, b01I, nI_10, inB_nI, cl_nI, nI_add, d1, d2, c1, c2, ↓ob_eq e4, ↓mb_e, ↓ob_eq e5, ↓reduceIte]
            unfold rDrain
            rw [ct]
            rfl
        · have ct : cDr o (nI f) (nI d) (nI q) = true := by rw [ce, decide_eq_false c1, Bool.false_and]; rfl
          obtain ⟨μ1, μ2, e4, e5, i2⟩ := go ct
          refine ⟨μ2, ?_, i2⟩
          simp (disch := omega) only [↓ob_eq e0, ↓ob_eq e1, ↓ob_eq e2, b01I, nI_10, inB_nI, cl_nI, nI_add, d1, d2, c1, ↓ob_eq e4, ↓mb_e, ↓ob_eq e5, ↓reduceIte]
          unfold rDrain
          rw [ct]
          rfl
    · rw [b] at e1
      have cf : cDr o (nI f) y z = false := by unfold cDr; rw [b]; simp
      refine ⟨μ, ?_, nn cf⟩
      simp only [↓ob_eq e0, ↓ob_eq e1, b01I, nI_10, Bool.false_eq_true, ↓reduceIte]
      exact no cf rfl rfl
  · rw [a] at e0
    have cf : cDr o x y z = false := by unfold cDr; rw [a]; rfl
    refine ⟨μ, ?_, nn cf⟩
    simp only [↓ob_eq e0, b01I, Bool.false_eq_true, ↓reduceIte]
    exact no cf rfl rfl
theorem m_spring_e {μ : Mem} {lv : Nat} {o : Ob} (ok : OkO o) (h : InvM μ lv o) (x : Int32) : ∃ μ', m_spring x μ = some (b01I (cSp o x), μ') ∧ InvM μ' lv (nSpring o x) := by
  have h0 := h
  obtain ⟨hk, hS, hN, -⟩ := ok
  have e1 := m_in_r x (nI 1) (nI 9) μ
  unfold m_spring nSpring
  cases c : inR x (nI 1) (nI 9) with
  | false =>
    rw [c] at e1
    have cf : cSp o x = false := by unfold cSp; rw [c]; rfl
    rw [cf]
    refine ⟨μ, ?_, h0⟩
    simp only [↓ob_eq e1, b01I, Bool.false_eq_true, ↓reduceIte]
  | true =>
    rw [c] at e1
    have sp := h.co.nw 30 (by omega)
    by_cases c1 : zS o 30 = x
    · have cf : cSp o x = false := by unfold cSp; rw [c, decide_eq_true c1]; rfl
      rw [cf]
      refine ⟨μ, ?_, h0⟩
      simp only [↓ob_eq e1, b01I, nI_10, sp, c1, Bool.false_eq_true, ↓reduceIte]
    · have ct : cSp o x = true := by unfold cSp; rw [c, decide_eq_false c1]; rfl
      rw [ct]
      obtain ⟨μ1, e4, A1, W1, -, -, H1⟩ := m_copies_e hk hS h.co
      have I1 := h.fr (f_m_copies e4) rfl
      have R2 := A1.rw.up 30 x
      have g : Fr [(89, none, none)] μ1 (stI μ1 89 0 30 x) := Fr.stI (Fr.rf _ _) (iT 0 rfl inA_nn)
      obtain ⟨μ2, e5, I5⟩ := m_rec_e hN (I1.fr g rfl) R2
      refine ⟨μ2, ?_, I5⟩
      simp only [↓ob_eq e1, b01I, nI_10, sp, c1, ↓ob_eq e4, ↓ob_eq e5, ↓reduceIte]
theorem m_days_e {μ : Mem} {lv : Nat} {o : Ob} (ok : OkO o) (h : InvM μ lv o) (x : Int32) : ∃ μ', m_days x μ = some (rDays o x, μ') ∧ InvM μ' lv (nDays o x) := by
  have h0 := h
  obtain ⟨hk, hS, hN, -⟩ := ok
  have e1 : m_isLong x μ = some (b01I (inR x (nI 0) (nI 60)), μ) := by
    unfold m_isLong
    simp only [↓ob_eq (m_in_r x (nI 0) (nI 60) μ), b01I_or, ↓reduceIte]
  unfold m_days rDays nDays
  cases c : inR x (nI 0) (nI 60) with
  | false =>
    rw [c] at e1
    refine ⟨μ, ?_, h0⟩
    simp only [↓ob_eq e1, b01I, Bool.false_eq_true, ↓reduceIte]
  | true =>
    rw [c] at e1
    obtain ⟨n, -, h60, rfl⟩ := inR_t (by omega) (by omega) c
    by_cases c1 : n = 0
    · subst c1
      refine ⟨μ, ?_, h0⟩
      simp (disch := omega) only [↓ob_eq e1, b01I, nI_10, h.co.nw 31 (by omega), ↓reduceIte]
    · obtain ⟨μ1, μ2, e4, e5, H2, A2, W2⟩ := m_days_try hk hS h.co (show n < 1000 by omega)
      have I2 := (h.fr (f_m_copies e4) rfl).fr (f_m_goes e5) rfl
      obtain ⟨μ3, e6, I3⟩ := m_rec_e hN I2 A2.rw
      have hne : ¬ nI n = nI 0 := by rw [nI_eqF (by omega) (by omega) (by omega)]; exact id
      rw [if_pos rfl, if_neg hne, if_pos rfl, if_neg hne, cl_nI (by omega)]
      refine ⟨μ3, ?_, I3⟩
      have d := I3.co.nw 31 (by omega)
      simp (disch := omega) only [↓ob_eq e1, b01I, nI_10, hne, ↓ob_eq e4, ↓ob_eq e5, ↓ob_eq e6, d, ↓reduceIte]
      rfl

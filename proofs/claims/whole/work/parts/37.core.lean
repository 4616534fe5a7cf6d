/-! what stays of both sides while they answer -/
def okA (a : At) : Bool := (decide (36 ≤ a.1) && decide (a.1 ≤ 43)) || ((decide (52 ≤ a.1) && decide (a.1 ≤ 54)) || (((decide (26 ≤ a.1) && decide (a.1 ≤ 30)) && a.2.1 == some 3) || ((decide (32 ≤ a.1) && decide (a.1 ≤ 35)) && a.2.1 == some 1)))
def okQ (T : List At) : Bool := T.all okA
theorem okQ_f {T : List At} (h : okQ T = true) {r i k : Nat} (hr : ¬ (36 ≤ r ∧ r ≤ 43)) (h2 : ¬ (52 ≤ r ∧ r ≤ 54)) (h3 : ¬ ((26 ≤ r ∧ r ≤ 30) ∧ i = 3)) (h4 : ¬ ((32 ≤ r ∧ r ≤ 35) ∧ i = 1)) : inT T r i k = false := by
  cases e : inT T r i k with
  | false => rfl
  | true =>
    exfalso
    obtain ⟨a, ha, hb⟩ := List.any_eq_true.mp e
    have h1 := List.all_eq_true.mp h a ha
    unfold inA at hb
    rw [Bool.and_eq_true, beq_iff_eq] at hb
    obtain ⟨hb1, hb2⟩ := hb
    unfold okA at h1
    rw [hb1] at h1
    simp only [Bool.or_eq_true, Bool.and_eq_true, decide_eq_true_eq, beq_iff_eq] at h1
    rcases h1 with h1 | h1 | h1 | h1
    · exact hr h1
    · exact h2 h1
    · rw [h1.2] at hb2
      simp only [Bool.and_eq_true, beq_iff_eq] at hb2
      exact h3 ⟨h1.1, hb2.1.symm⟩
    · rw [h1.2] at hb2
      simp only [Bool.and_eq_true, beq_iff_eq] at hb2
      exact h4 ⟨h1.1, hb2.1.symm⟩
def CCore (μ : Mem) (p : Nat) (P : Pl) (S : Nat → Int32) : Prop := mR μ 10 0 3 = p ∧ mR μ 10 0 4 = 1 - p ∧ mR μ 31 1 0 = p ∧ WoC μ 0 p P S ∧ WaC μ 0 P S
theorem CCore.wo {μ : Mem} {p : Nat} {P : Pl} {S : Nat → Int32} (h : CCore μ p P S) : WoC μ 0 p P S := h.2.2.2.1
theorem CCore.wa {μ : Mem} {p : Nat} {P : Pl} {S : Nat → Int32} (h : CCore μ p P S) : WaC μ 0 P S := h.2.2.2.2
theorem CCore.pn {μ : Mem} {p : Nat} {P : Pl} {S : Nat → Int32} (h : CCore μ p P S) : mR μ 10 0 3 = p := h.1
theorem CCore.p2 {μ : Mem} {p : Nat} {P : Pl} {S : Nat → Int32} (h : CCore μ p P S) : p < 2 := h.wo.p2
theorem LaC.fr2 {μ μ' : Mem} {p : Nat} {P : Pl} {T : List At} (h : LaC μ p P) (g : Fr T μ μ') (o : ∀ r k, (r = 18 ∨ r = 24 ∨ r = 25) → inT T r p k = false) : LaC μ' p P := by
  obtain ⟨cs, h1, h2, h3⟩ := h
  refine ⟨cs, h1, by rw [g.I (o _ _ (Or.inl rfl))]; exact h2, fun k hk => ?_⟩
  obtain ⟨s, a, b, c⟩ := h3 k hk
  exact ⟨s, by rw [g.I (o _ _ (Or.inr (Or.inl rfl)))]; exact a, b, fun i hi => by rw [g.I (o _ _ (Or.inr (Or.inr rfl)))]; exact c i hi⟩
theorem CCore.fr {μ μ' : Mem} {p : Nat} {P : Pl} {S : Nat → Int32} {T : List At} (h : CCore μ p P S) (g : Fr T μ μ') (o : okQ T = true) : CCore μ' p P S := by
  have z : ∀ {r i k : Nat}, ¬ (36 ≤ r ∧ r ≤ 43) → ¬ (52 ≤ r ∧ r ≤ 54) → ¬ ((26 ≤ r ∧ r ≤ 30) ∧ i = 3) → ¬ ((32 ≤ r ∧ r ≤ 35) ∧ i = 1) → inT T r i k = false := fun a b c d => okQ_f o a b c d
  refine ⟨(g.R (z (by omega) (by omega) (by omega) (by omega))).trans h.1, (g.R (z (by omega) (by omega) (by omega) (by omega))).trans h.2.1, (g.R (z (by omega) (by omega) (by omega) (by omega))).trans h.2.2.1, ⟨h.p2, (g.R (z (by omega) (by omega) (by omega) (by omega))).trans h.wo.r, h.wo.pl.fr g (fun _ _ => z (by omega) (by omega) (by omega) (by omega)) (fun _ => z (by omega) (by omega) (by omega) (by omega)) (fun _ => z (by omega) (by omega) (by omega) (by omega)) (fun _ => z (by omega) (by omega) (by omega) (by omega)), h.wo.la.fr2 g (fun r k hr => z (by omega) (by omega) (by omega) (by omega)), h.wo.st.fr g (fun _ _ _ => z (by omega) (by omega) (by omega) (by omega)) (fun _ => z (by omega) (by omega) (by omega) (by omega)) (fun _ => z (by omega) (by omega) (by omega) (by omega)) (fun _ => z (by omega) (by omega) (by omega) (by omega)) (fun _ => z (by omega) (by omega) (by omega) (by omega))⟩, h.wa.eq (fun r k h1 h2 => ⟨g.I (z (by omega) (by omega) (by omega) (by omega)), g.L (z (by omega) (by omega) (by omega) (by omega))⟩)⟩
def okB (a : At) : Bool := (decide (86 ≤ a.1) && decide (a.1 ≤ 87)) || ((decide (89 ≤ a.1) && decide (a.1 ≤ 94)) || (a.1 == 96 || (a.1 == 97 || (a.1 == 101 || (a.1 == 55 && (a.2.2 == some 49 || (a.2.2 == some 52 || (a.2.2 == some 53 || (a.2.2 == some 56 || (a.2.2 == some 57 || (a.2.2 == some 64 || a.2.2 == some 65)))))))))))
def okM (T : List At) : Bool := T.all okB
theorem okM_f {T : List At} (h : okM T = true) {r i k : Nat} (h1 : ¬ (86 ≤ r ∧ r ≤ 87)) (h2 : ¬ (89 ≤ r ∧ r ≤ 94)) (h3 : r ≠ 96) (h4 : r ≠ 97) (h5 : r ≠ 101) (h6 : r = 55 → k ≠ 49 ∧ k ≠ 52 ∧ k ≠ 53 ∧ k ≠ 56 ∧ k ≠ 57 ∧ k ≠ 64 ∧ k ≠ 65) : inT T r i k = false := by
  cases e : inT T r i k with
  | false => rfl
  | true =>
    exfalso
    obtain ⟨a, ha, hb⟩ := List.any_eq_true.mp e
    have q := List.all_eq_true.mp h a ha
    unfold inA at hb
    rw [Bool.and_eq_true, beq_iff_eq, Bool.and_eq_true] at hb
    obtain ⟨hb1, hb2, hb3⟩ := hb
    unfold okB at q
    rw [hb1] at q
    simp only [Bool.or_eq_true, Bool.and_eq_true, decide_eq_true_eq, beq_iff_eq] at q
    rcases q with q | q | q | q | q | ⟨q, q2⟩
    · exact h1 q
    · exact h2 q
    · exact h3 q
    · exact h4 q
    · exact h5 q
    · have := h6 q
      rcases q2 with q2 | q2 | q2 | q2 | q2 | q2 | q2 <;> (rw [q2] at hb3; simp only [beq_iff_eq] at hb3; omega)
def MCore (μ : Mem) (lv : Nat) (P : Pl) (S : Nat → Int32) : Prop := PlM μ lv P ∧ LaM μ lv P ∧ ∀ k, k < 33 → mI μ 88 0 k = S k
theorem MCore.pl {μ : Mem} {lv : Nat} {P : Pl} {S : Nat → Int32} (h : MCore μ lv P S) : PlM μ lv P := h.1
theorem MCore.la {μ : Mem} {lv : Nat} {P : Pl} {S : Nat → Int32} (h : MCore μ lv P S) : LaM μ lv P := h.2.1
theorem MCore.nw {μ : Mem} {lv : Nat} {P : Pl} {S : Nat → Int32} (h : MCore μ lv P S) : ∀ k, k < 33 → mI μ 88 0 k = S k := h.2.2
theorem okM_off {T : List At} (o : okM T = true) {R : List Nat} (hR : R.all (fun r => !(decide (86 ≤ r) && decide (r ≤ 87)) && (!(decide (89 ≤ r) && decide (r ≤ 94)) && (r != 96 && (r != 97 && (r != 101 && r != 55))))) = true) : offR R T = true := by
  unfold offR
  rw [List.all_eq_true]
  intro a ha
  cases e : R.contains a.1 with
  | false => rfl
  | true =>
    exfalso
    have h1 := List.all_eq_true.mp hR a.1 (by simpa using e)
    have h2 := List.all_eq_true.mp o a ha
    simp only [Bool.and_eq_true, Bool.not_eq_true', Bool.and_eq_false_iff, decide_eq_false_iff_not, bne_iff_ne, ne_eq] at h1
    unfold okB at h2
    simp only [Bool.or_eq_true, Bool.and_eq_true, decide_eq_true_eq, beq_iff_eq] at h2
    omega
theorem MCore.fr {μ μ' : Mem} {lv : Nat} {P : Pl} {S : Nat → Int32} {T : List At} (h : MCore μ lv P S) (g : Fr T μ μ') (o : okM T = true) : MCore μ' lv P S := ⟨h.pl.fr g (okM_off o rfl) (okM_f o (by omega) (by omega) (by omega) (by omega) (by omega) (fun _ => by omega)), h.la.fo g (okM_off o rfl), fun k hk => (g.I (okM_f o (by omega) (by omega) (by omega) (by omega) (by omega) (by omega))).trans (h.nw k hk)⟩
/-- the reference begins with a copy of what is now -/
theorem m_copies_e {μ : Mem} {lv : Nat} {P : Pl} {S : Nat → Int32} (hk : PlOK P) (hS : StOK P S) (h : MCore μ lv P S) : ∃ μ', m_copies μ = some ((), μ') ∧ MoW μ' lv P S ∧ WaM μ' P S ∧ mI μ' 55 0 52 = pSeed P ∧ mI μ' 55 0 53 = nI 0 ∧ MCore μ' lv P S := by
  have main : ∃ μ', m_copies μ = some ((), μ') ∧ MoW μ' lv P S ∧ WaM μ' P S ∧ mI μ' 55 0 52 = pSeed P ∧ mI μ' 55 0 53 = nI 0 := by
    unfold m_copies
    refine fixN_up (fun i (self : Int32 → Mem → Option (Unit × Mem)) => ∀ μ, MCore μ lv P S → (∀ k, k < i → mI μ 89 0 k = S k) → ∃ μ', self (nI i) μ = some ((), μ') ∧ MoW μ' lv P S ∧ WaM μ' P S ∧ mI μ' 55 0 52 = pSeed P ∧ mI μ' 55 0 53 = nI 0) 33 ?_ ?_ 60000 0 (by omega) (by omega) μ h (fun k hk => by omega)
    · intro i self hi ih μ h hq
      unfold m_copies_B2
      simp (disch := omega) only [nI_leF, inB_nI, cl_nI, h.nw i hi, nI_add, ↓reduceIte]
      refine ih _ ⟨h.pl, h.la.st89 _ _, h.nw⟩ (fun k hk => ?_)
      rw [mI_stI]
      by_cases e : k = i
      · subst e; rw [if_pos ⟨rfl, rfl, rfl⟩]
      · rw [if_neg (fun z => e z.2.2)]; exact hq k (by omega)
    · intro self μ h hq
      have hl2 := h.pl.l2
      unfold m_copies_B2
      have P1 : PlM (stI (stI μ 55 0 52 (pSeed P)) 55 0 53 (nI 0)) lv P := h.pl
      have R1 : RwM (stI (stI μ 55 0 52 (pSeed P)) 55 0 53 (nI 0)) S := hq
      have L1 : LaM (stI (stI μ 55 0 52 (pSeed P)) 55 0 53 (nI 0)) lv P := h.la.fo (T := [(55, none, some 52), (55, none, some 53)]) (Fr.stI (Fr.stI (Fr.rf _ _) (iT 0 rfl inA_ns)) (iT 1 rfl inA_ns)) rfl
      obtain ⟨μ2, e2, A2⟩ := m_parts_e hk hS P1 R1
      have g2 := f_m_parts e2
      simp (disch := omega) only [nI_leT, h.pl.lv, inB_nI, cl_nI, h.pl.sd, ↓mb_e, ↓ob_eq e2, ↓reduceIte]
      exact ⟨μ2, rfl, MoW.fo ⟨P1, L1, R1⟩ g2 rfl rfl, A2, (g2.I rfl).trans (by simp [mI_stI]), (g2.I rfl).trans (by simp [mI_stI])⟩
  obtain ⟨μ', e, a, b, c, d⟩ := main
  exact ⟨μ', e, a, b, c, d, h.fr (f_m_copies e) rfl⟩
/-! numbers that the calls are given -/
def inR (x a b : Int32) : Bool := if x < a then false else if b < x then false else true
theorem m_in_r (x a b : Int32) (μ : Mem) : m_in x a b μ = some (b01I (inR x a b), μ) := by
  unfold m_in inR b01I
  split
  · rfl
  · split <;> rfl
theorem s_isFrom_r (x a b : Int32) (μ : Mem) : s_isFrom a x b μ = some (b01I (inR x a b), μ) := by
  unfold s_isFrom inR b01I
  split
  · rfl
  · split <;> rfl
theorem inR_t {x : Int32} {a b : Nat} (hb : b < 2147483648) (ha : a ≤ b) (h : inR x (nI a) (nI b) = true) : ∃ j, a ≤ j ∧ j ≤ b ∧ x = nI j := by
  unfold inR at h
  split at h
  · cases h
  · rename_i h1
    split at h
    · cases h
    · rename_i h2
      have h3 := Int32.not_lt.mp h1
      have h4 := Int32.not_lt.mp h2
      have h5 : ¬ x < 0 := Int32.not_lt.mpr (Int32.le_trans (show nI 0 ≤ nI a from nI_le (Nat.zero_le _) (by omega)) h3)
      obtain ⟨j, hj, e⟩ := nI_of2 (M := nI b) (n := b) (nI_toInt (by omega)) h5 h4
      subst e
      rw [nI_leI (by omega) (by omega)] at h3
      exact ⟨j, h3, hj, rfl⟩
theorem s_isField_e {μ : Mem} {p : Nat} {P : Pl} {S : Nat → Int32} (hk : PlOK P) (h : CCore μ p P S) (x : Int32) : s_isField x μ = some (b01I (inB x (pFd P)), μ) := by
  have k2 := hk.2.1
  have hp2 := h.p2
  unfold s_isField b01I
  rcases inB_cases x (show pFd P < 2147483648 by omega) with ⟨a, j, hj, e⟩ | ⟨a, b⟩
  · subst e
    simp (disch := omega) only [nI_ltF, h.pn, hp2, h.wo.pl.fd, nI_leF, a, ↓reduceIte]
  · rw [a]
    by_cases c : x < nI 0
    · rw [if_pos c]; rfl
    · have b2 : nI (pFd P) ≤ x := b.resolve_left c
      simp only [c, h.pn, hp2, h.wo.pl.fd, b2, Bool.false_eq_true, ↓reduceIte]
theorem s_isLog_e {μ : Mem} {p : Nat} {P : Pl} {S : Nat → Int32} (hk : PlOK P) (h : CCore μ p P S) (x : Int32) : s_isLog x μ = some (b01I (inB x (pLg P)), μ) := by
  have k1 := hk.1
  have hp2 := h.p2
  unfold s_isLog b01I
  rcases inB_cases x (show pLg P < 2147483648 by omega) with ⟨a, j, hj, e⟩ | ⟨a, b⟩
  · subst e
    simp (disch := omega) only [nI_ltF, h.pn, hp2, h.wo.pl.lg, nI_leF, a, ↓reduceIte]
  · rw [a]
    by_cases c : x < nI 0
    · rw [if_pos c]; rfl
    · have b2 : nI (pLg P) ≤ x := b.resolve_left c
      simp only [c, h.pn, hp2, h.wo.pl.lg, b2, Bool.false_eq_true, ↓reduceIte]
theorem s_isNotch_e {μ : Mem} {p : Nat} {P : Pl} {S : Nat → Int32} (hk : PlOK P) (h : CCore μ p P S) (x : Int32) : s_isNotch x μ = some (b01I (inB x (pNo P)), μ) := by
  have k3 := hk.2.2.1
  have hp2 := h.p2
  unfold s_isNotch b01I
  rcases inB_cases x (show pNo P < 2147483648 by omega) with ⟨a, j, hj, e⟩ | ⟨a, b⟩
  · subst e
    simp (disch := omega) only [nI_ltF, h.pn, hp2, h.wo.pl.no, nI_leF, a, ↓reduceIte]
  · rw [a]
    by_cases c : x < nI 0
    · rw [if_pos c]; rfl
    · have b2 : nI (pNo P) ≤ x := b.resolve_left c
      simp only [c, h.pn, hp2, h.wo.pl.no, b2, Bool.false_eq_true, ↓reduceIte]
theorem st_become_e {μ : Mem} {i j : Nat} {P : Pl} {S : Nat → Int32} (hk : PlOK P) (h : StC μ j P S) (hij : i ≠ j) : ∃ μ', st_become i j μ = some ((), μ') ∧ StC μ' i P S := by
  have k2 := hk.2.1
  have k3 := hk.2.2.1
  unfold st_become
  simp only [↓mb_e]
  refine ⟨_, rfl, fun n hn => ?_, fun f hf => ⟨?_, ?_, ?_⟩, ?_, ?_, ?_⟩
  · simp only [mI_stI, mI_cpI, Nat.reduceEqDiff, false_and, and_self, ↓reduceIte]
    rw [if_pos ⟨Nat.zero_le _, by omega⟩]
    simpa using h.wi hn
  · simp only [mI_stI, mI_cpI, Nat.reduceEqDiff, false_and, and_self, ↓reduceIte]
    rw [if_pos ⟨Nat.zero_le _, by omega⟩]
    simpa using h.dr hf
  · simp only [mI_stI, mI_cpI, Nat.reduceEqDiff, false_and, and_self, ↓reduceIte]
    rw [if_pos ⟨Nat.zero_le _, by omega⟩]
    simpa using h.qu hf
  · simp only [mI_stI, mI_cpI, Nat.reduceEqDiff, false_and, and_self, ↓reduceIte]
    rw [if_pos ⟨Nat.zero_le _, by omega⟩]
    simpa using h.gr hf
  · simp only [mI_stI, mI_cpI, Nat.reduceEqDiff, false_and, and_false, and_self, ↓reduceIte]
    exact h.sp
  · simp only [mI_stI, mI_cpI, Nat.reduceEqDiff, false_and, and_false, and_self, ↓reduceIte, Ne.symm hij]
    exact h.da
  · simp only [mI_stI, mI_cpI, Nat.reduceEqDiff, false_and, and_false, and_self, ↓reduceIte, Ne.symm hij]
    exact h.pd

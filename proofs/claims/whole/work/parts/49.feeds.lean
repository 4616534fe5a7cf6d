/-! feeds -/
def cF (P : Pl) (S : Nat → Int32) (n : Nat) (p : Nat → Bool) : Bool := decide (0 < sW S n) && (p (pLog P n) && (decide (10 ≤ pTo P n) && decide (pTo P n < 20)))
theorem cF_e (P : Pl) (S : Nat → Int32) (n : Nat) (p : Nat → Bool) : cF P S n p = (decide (0 < sW S n) && (p (pLog P n) && (decide (10 ≤ pTo P n) && decide (pTo P n < 20)))) := rfl
def fww (P : Pl) (S : Nat → Int32) (Q : Nat → Nat → Bool) (fs : Nat → Bool) : Nat → Nat → Bool
  | 0 => fs
  | k + 1 => if cF P S k (Q k) = true then ad1 (fww P S Q fs k) (pTo P k - 10) else fww P S Q fs k
theorem fww_iff {P : Pl} {S : Nat → Int32} {Q : Nat → Nat → Bool} {fs : Nat → Bool} {g : Nat} : ∀ k, fww P S Q fs k g = true ↔ fs g = true ∨ ∃ n, n < k ∧ cF P S n (Q n) = true ∧ g = pTo P n - 10
  | 0 => ⟨Or.inl, fun h => h.elim id (fun ⟨n, a, _⟩ => by omega)⟩
  | k + 1 => by
    have ih := fww_iff (P := P) (S := S) (Q := Q) (fs := fs) (g := g) k
    simp only [fww]
    split
    · rename_i hc
      unfold ad1
      rw [Bool.or_eq_true, ih, beq_iff_eq]
      constructor
      · rintro ((a | ⟨n, a, b⟩) | a)
        · exact Or.inl a
        · exact Or.inr ⟨n, by omega, b⟩
        · exact Or.inr ⟨k, by omega, hc, a⟩
      · rintro (a | ⟨n, a, b⟩)
        · exact Or.inl (Or.inl a)
        · by_cases e : n = k
          · subst e; exact Or.inr b.2
          · exact Or.inl (Or.inr ⟨n, by omega, b⟩)
    · rename_i hc
      rw [ih]
      constructor
      · rintro (a | ⟨n, a, b⟩)
        · exact Or.inl a
        · exact Or.inr ⟨n, by omega, b⟩
      · rintro (a | ⟨n, a, b⟩)
        · exact Or.inl a
        · by_cases e : n = k
          · subst e; exact absurd b.1 hc
          · exact Or.inr ⟨n, by omega, b⟩
theorem or4z (p : Nat → Bool) : bitI 4 p ||| nI 0 = bitI 4 p := by rw [show (nI 0 : Int32) = 0 from rfl]; exact Int32.or_zero
theorem s_feeds_in {μ : Mem} {p : Nat} {P : Pl} {S : Nat → Int32} (hk : PlOK P) (hS : StOK P S) (h : CCore μ p P S) (x : Int32) (K : Int32 → Int32 → Mem → Option (Int32 × Mem)) (q fs : Nat → Bool) : s_feeds_L39 x K (bitI 4 q) (bitI 6 fs) (nI 0) μ = K (bitI 4 (gs (cR P S) (gR P S) q (pNo P))) (bitI 6 (fww P S (gs (cR P S) (gR P S) q) fs (pNo P))) μ := by
  have hk0 := hk
  obtain ⟨k1, k2, k3, k4, k5, -⟩ := hk
  have hp2 := h.p2
  refine fixN_up (fun i (self : Int32 → Int32 → Int32 → Mem → Option (Int32 × Mem)) => self (bitI 4 (gs (cR P S) (gR P S) q i)) (bitI 6 (fww P S (gs (cR P S) (gR P S) q) fs i)) (nI i) μ = K (bitI 4 (gs (cR P S) (gR P S) q (pNo P))) (bitI 6 (fww P S (gs (cR P S) (gR P S) q) fs (pNo P))) μ) (pNo P) ?_ ?_ 60000 0 (by omega) (by omega)
  · intro i self hi ih
    have h4 := k4 i hi
    have h5 := k5 i hi
    obtain ⟨w1, w2⟩ := hS.1 i hi
    have g0 : cR P S i (gs (cR P S) (gR P S) q i) = false → gs (cR P S) (gR P S) q (i + 1) = gs (cR P S) (gR P S) q i := fun z => by simp only [gs, z]; rfl
    have g1 : cR P S i (gs (cR P S) (gR P S) q i) = true → gs (cR P S) (gR P S) q (i + 1) = ad1 (gs (cR P S) (gR P S) q i) (gR P S i) := fun z => by simp only [gs, z, if_true]
    have f0 : cF P S i (gs (cR P S) (gR P S) q i) = false → fww P S (gs (cR P S) (gR P S) q) fs (i + 1) = fww P S (gs (cR P S) (gR P S) q) fs i := fun z => by simp only [fww, z]; rfl
    have f1 : cF P S i (gs (cR P S) (gR P S) q i) = true → fww P S (gs (cR P S) (gR P S) q) fs (i + 1) = ad1 (fww P S (gs (cR P S) (gR P S) q) fs i) (pTo P i - 10) := fun z => by simp only [fww, z, if_true]
    have eR := cR_e P S i (gs (cR P S) (gR P S) q i)
    have eF := cF_e P S i (gs (cR P S) (gR P S) q i)
    unfold s_feeds_B39
    generalize hq : gs (cR P S) (gR P S) q i = qi at *
    generalize hf : fww P S (gs (cR P S) (gR P S) q) fs i = fi at *
    by_cases c1 : sW S i = 0
    · rw [c1] at w1 eR eF
      rw [g0 eR, f0 eF] at ih
      simp (disch := omega) only [h.pn, hp2, h.wo.pl.no, nI_leF, inB_nI, cl_nI, h.wo.st.wi hi, w1, nI_add, ↓reduceIte]
      exact ih
    · rw [decide_eq_true (show 0 < sW S i by omega), Bool.true_and] at eR eF
      have t4 := tst4z qi (show pLog P i < 4 by omega)
      cases c2 : qi (pLog P i) with
      | false =>
        rw [c2, Bool.false_and] at eR eF
        rw [g0 eR, f0 eF] at ih
        rw [c2] at t4
        simp (disch := omega) only [h.pn, hp2, h.wo.pl.no, nI_leF, inB_nI, cl_nI, h.wo.st.wi hi, w1, nI_eqF, h.wo.pl.lo hi, t4, nI_add, ↓reduceIte]
        exact ih
      | true =>
        rw [c2, Bool.true_and] at eR eF
        rw [c2] at t4
        have e1 := s_isLog_e hk0 h (nI (pTo P i))
        rcases h5 with h5 | ⟨h5, h6⟩ | h5
        · have hn := nx_1 S (show pTo P i < 10 by omega)
          rw [hn] at eR
          have hg : gR P S i = pTo P i := by unfold gR; rw [hn]; rfl
          rw [g1 eR, f0 (by rw [eF, decide_eq_false (show ¬ 10 ≤ pTo P i by omega)]; rfl), hg] at ih
          rw [inB_nI h5 (by omega)] at e1
          have eo := or4 qi (show pTo P i < 4 by omega)
          simp (disch := omega) only [h.pn, hp2, h.wo.pl.no, nI_leF, inB_nI, cl_nI, h.wo.st.wi hi, w1, nI_eqF, h.wo.pl.lo hi, h.wo.pl.to hi, t4, ↓ob_eq e1, b01I, nI_10, eo, ↓vb_e, nI_add, Bool.true_eq_false, ↓reduceIte]
          exact ih
        · rw [inB_nIF (by omega) (by omega)] at e1
          have e2 := s_isField_e hk0 h (nI (pTo P i - 10))
          rw [inB_nI (by omega) (by omega)] at e2
          have e3 := wo_drainTarget_e hk0 hS h.wo (show pTo P i - 10 < pFd P by omega)
          have eo := orN fi (n := 6) (t := pTo P i - 10) (by omega) (by omega)
          rw [f1 (by rw [eF, decide_eq_true (show 10 ≤ pTo P i by omega), decide_eq_true (show pTo P i < 20 by omega)]; rfl)] at ih
          by_cases c3 : sQ S (pTo P i - 10) = 0
          · rw [if_pos c3] at e3
            have hn := nx_2 (P := P) (S := S) (n := i) h5 (by omega) c3
            rw [hn] at eR
            rw [g0 eR] at ih
            simp (disch := omega) only [h.pn, hp2, h.wo.pl.no, nI_leF, inB_nI, cl_nI, h.wo.st.wi hi, w1, nI_eqF, h.wo.pl.lo hi, h.wo.pl.to hi, t4, ↓ob_eq e1, b01I, nI_10, pk_sub, ↓ob_eq e2, ↓ob_eq e3, eo, or4z, ↓vb_e, nI_add, Bool.true_eq_false, Bool.false_eq_true, ↓reduceIte]
            exact ih
          · rw [if_neg c3] at e3
            have hn := nx_3 (P := P) (S := S) (n := i) h5 (by omega) c3
            have hlt := nx_lt hk0 hS hi hn
            rw [hn] at eR
            have hg : gR P S i = sD S (pTo P i - 10) := by unfold gR; rw [hn]; rfl
            rw [g1 eR, hg] at ih
            have eo2 := or4 qi (show sD S (pTo P i - 10) < 4 by omega)
            simp (disch := omega) only [h.pn, hp2, h.wo.pl.no, nI_leF, inB_nI, cl_nI, h.wo.st.wi hi, w1, nI_eqF, h.wo.pl.lo hi, h.wo.pl.to hi, t4, ↓ob_eq e1, b01I, nI_10, pk_sub, ↓ob_eq e2, ↓ob_eq e3, eo, eo2, ↓vb_e, nI_add, Bool.true_eq_false, Bool.false_eq_true, ↓reduceIte]
            exact ih
        · rw [h5] at e1
          rw [inB_nIF (by omega) (by omega)] at e1
          have e2 := s_isField_e hk0 h (nI 10)
          rw [inB_nIF (by omega) (by omega)] at e2
          have hn : nx P S i = none := by unfold nx; rw [if_neg (by omega), if_pos h5]
          rw [hn] at eR
          rw [g0 eR, f0 (by rw [eF, decide_eq_false (show ¬ pTo P i < 20 by omega), Bool.and_false])] at ih
          simp (disch := omega) only [h.pn, hp2, h.wo.pl.no, nI_leF, inB_nI, cl_nI, h.wo.st.wi hi, w1, nI_eqF, h.wo.pl.lo hi, h.wo.pl.to hi, h5, t4, ↓ob_eq e1, b01I, nI_10, pk_sub, Nat.reduceSub, ↓ob_eq e2, nI_add, Bool.true_eq_false, Bool.false_eq_true, ↓reduceIte]
          exact ih
  · intro self
    unfold s_feeds_B39
    simp (disch := omega) only [h.pn, hp2, h.wo.pl.no, nI_leT, ↓reduceIte]
/-- what a field's drain feeds -/
def FeP (P : Pl) (S : Nat → Int32) (f g : Nat) : Prop := ¬ sQ S f = 0 ∧ ∃ n, n < pNo P ∧ 0 < sW S n ∧ Cl P S (fun m => m = sD S f) (pLog P n) ∧ 10 ≤ pTo P n ∧ pTo P n < 20 ∧ g = pTo P n - 10
noncomputable def qFeeds (P : Pl) (S : Nat → Int32) (x : Int32) : Int32 := if inB x (pFd P) = true then bitI 6 (fun g => ifP (FeP P S (cl x) g) true false) else -1
theorem ifP_iff {p : Prop} : ifP p true false = true ↔ p := by
  by_cases c : p
  · rw [ifP_t c]; exact ⟨fun _ => c, fun _ => rfl⟩
  · rw [ifP_f c]; exact ⟨fun z => (by cases z), fun z => absurd z c⟩
theorem bool_iff {a b : Bool} (h : a = true ↔ b = true) : a = b := by
  cases a <;> cases b <;> first | rfl | (have := h.mp rfl; cases this) | (have := h.mpr rfl; cases this)
theorem fe_bits {P : Pl} {S : Nat → Int32} {f : Nat} {q : Nat → Bool} (h : ∀ g, q g = true ↔ FeP P S f g) : bitI 6 q = bitI 6 (fun g => ifP (FeP P S f g) true false) := bitI_c (fun g _ => bool_iff ((h g).trans ifP_iff.symm))
/-- the fields, walk by walk -/
def fk (P : Pl) (S : Nat → Int32) (q : Nat → Bool) : Nat → Nat → Bool
  | 0 => fun _ => false
  | k + 1 => fww P S (gs (cR P S) (gR P S) (rs (cR P S) (gR P S) (pNo P) q k)) (fk P S q k) (pNo P)
def q0 (S : Nat → Int32) (f : Nat) : Nat → Bool := fun i => !decide (sQ S f = 0) && i == sD S f
theorem q0_t {S : Nat → Int32} {f i : Nat} : q0 S f i = true ↔ ¬ sQ S f = 0 ∧ i = sD S f := by
  unfold q0
  rw [Bool.and_eq_true, beq_iff_eq, Bool.not_eq_true', decide_eq_false_iff_not]
theorem cR_cl {P : Pl} {S : Nat → Int32} (hk : PlOK P) (hS : StOK P S) {A : Nat → Prop} (n : Nat) (q : Nat → Bool) (hn : n < pNo P) (hq : ∀ i, q i = true → Cl P S A i) (hc : cR P S n q = true) : Cl P S A (gR P S n) := by
  unfold cR at hc
  rw [Bool.and_eq_true, Bool.and_eq_true, decide_eq_true_eq] at hc
  unfold gR
  match hnx : nx P S n, hc.2.2 with
  | some t, _ => exact (hq _ hc.2.1).nx ((lead_nx hk hS).mpr ⟨n, hn, rfl, hc.1, hnx⟩)
theorem fk_s {P : Pl} {S : Nat → Int32} (hk : PlOK P) (hS : StOK P S) {f : Nat} : ∀ k g, fk P S (q0 S f) k g = true → FeP P S f g
  | 0, g, h => by cases h
  | k + 1, g, h => by
    have hq : ∀ k i, rs (cR P S) (gR P S) (pNo P) (q0 S f) k i = true → ¬ sQ S f = 0 ∧ Cl P S (fun m => m = sD S f) i := fun k i hi => by
      refine ⟨?_, rs_s (Cl P S (fun m => m = sD S f)) (fun i hi => Cl.in (q0_t.mp hi).2) (fun n q hn => cR_cl hk hS n q hn) k i hi⟩
      refine rs_s (fun _ => ¬ sQ S f = 0) (fun i hi => (q0_t.mp hi).1) (fun n q hn hq hc => ?_) k i hi
      unfold cR at hc
      rw [Bool.and_eq_true, Bool.and_eq_true] at hc
      exact hq _ hc.2.1
    rcases (fww_iff (pNo P)).mp h with h | ⟨n, hn, hc, e⟩
    · exact fk_s hk hS k g h
    · rw [cF_e, Bool.and_eq_true, Bool.and_eq_true, Bool.and_eq_true, decide_eq_true_eq, decide_eq_true_eq, decide_eq_true_eq] at hc
      have hb := gs_s (c := cR P S) (g := gR P S) (p := rs (cR P S) (gR P S) (pNo P) (q0 S f) k) (fun i => ¬ sQ S f = 0 ∧ Cl P S (fun m => m = sD S f) i) (hq k) n (fun m q hm hq hc => ⟨by
        unfold cR at hc
        rw [Bool.and_eq_true, Bool.and_eq_true] at hc
        exact (hq _ hc.2.1).1, cR_cl hk hS m q (by omega) (fun i hi => (hq i hi).2) hc⟩) _ hc.2.1
      exact ⟨hb.1, n, hn, hc.1, hb.2, hc.2.2.1, hc.2.2.2, e⟩
theorem fk_e {P : Pl} {S : Nat → Int32} (hk : PlOK P) (hS : StOK P S) {f : Nat} (hf : f < pFd P) (g : Nat) : fk P S (q0 S f) (pLg P) g = true ↔ FeP P S f g := by
  refine ⟨fk_s hk hS _ g, fun ⟨c, n, hn, hw, hcl, t1, t2, e⟩ => ?_⟩
  obtain ⟨q1, q2, q3, -⟩ := hS.2.1 f hf
  have hd : sD S f < pLg P := q3.elim (fun z => absurd z.2 c) (fun z => z.2)
  obtain ⟨m, hm⟩ : ∃ m, pLg P = m + 1 := ⟨pLg P - 1, by omega⟩
  have hg : ∀ n (q : Nat → Bool), n < pNo P → cR P S n q = true → gR P S n < pLg P := fun n q hn hc => by
    unfold cR at hc
    rw [Bool.and_eq_true, Bool.and_eq_true] at hc
    unfold gR
    match hnx : nx P S n, hc.2.2 with
    | some t, _ => exact nx_lt hk hS hn hnx
  have hgrow := rs_grow (c := cR P S) (g := gR P S) (N := pNo P) (M := pLg P) (p := q0 S f) (fun i hi => by rw [(q0_t.mp hi).2]; exact hd) hg m
  have hcd : closed (cR P S) (gR P S) (pNo P) (rs (cR P S) (gR P S) (pNo P) (q0 S f) m) := by
    rcases hgrow.2 with z | z
    · exact z
    · have h2 : 1 ≤ cardB (pLg P) (q0 S f) := by
        have := cardB_lt (M := pLg P) (p := fun _ => false) (q := q0 S f) (fun i hi => by cases hi) hd rfl (q0_t.mpr ⟨c, rfl⟩)
        omega
      have hfull := cardB_full (M := pLg P) (p := rs (cR P S) (gR P S) (pNo P) (q0 S f) m) (by omega)
      exact fun n hn hc => hfull _ (hg n _ hn hc)
  have hin : rs (cR P S) (gR P S) (pNo P) (q0 S f) m (pLog P n) = true := by
    refine hcl (fun l => rs (cR P S) (gR P S) (pNo P) (q0 S f) m l = true) (fun l hl => rs_m (q0_t.mpr ⟨c, hl⟩) _) (fun l t hl hlt => ?_)
    obtain ⟨n, hn, hlg, hw, hnx⟩ := (lead_nx hk hS).mp hlt
    have := hcd n hn (by rw [cR_e, hlg, hl, hnx]; simp [hw])
    unfold gR at this
    rw [hnx] at this
    exact this
  rw [hm]
  refine (fww_iff (pNo P)).mpr (Or.inr ⟨n, hn, ?_, e⟩)
  rw [closed_gs hcd n (by omega), cF_e, hin, decide_eq_true hw, decide_eq_true t1, decide_eq_true t2]
  rfl
theorem q0_bits {P : Pl} {S : Nat → Int32} (hk : PlOK P) (hS : StOK P S) {f : Nat} (hf : f < pFd P) : (if sQ S f = 0 then nI 0 else nI 1 <<< (nI (sD S f) &&& 31)) = bitI 4 (q0 S f) := by
  have k1 := hk.1
  obtain ⟨q1, q2, q3, -⟩ := hS.2.1 f hf
  by_cases c : sQ S f = 0
  · rw [if_pos c]
    exact (bitI_z (by omega) (fun i _ => by unfold q0; rw [decide_eq_true c]; rfl)).symm
  · rw [if_neg c]
    have hd : sD S f < pLg P := q3.elim (fun z => absurd z.2 c) (fun z => z.2)
    rw [one4 (show sD S f < 4 by omega)]
    exact bitI_c (fun i _ => by unfold q0; rw [decide_eq_false c]; rfl)
theorem s_feeds_e {μ : Mem} {p : Nat} {P : Pl} {S : Nat → Int32} (hk : PlOK P) (hS : StOK P S) (h : CCore μ p P S) (x : Int32) : s_feeds x μ = some (qFeeds P S x, μ) := by
  have k1 := hk.1
  have k2 := hk.2.1
  have hp2 := h.p2
  have e0 := s_isField_e hk h x
  unfold s_feeds qFeeds
  rcases inB_cases x (show pFd P < 2147483648 by omega) with ⟨a, f, hf, e⟩ | ⟨a, -⟩
  · subst e
    rw [a] at e0
    have e1 := wo_drainTarget_e hk hS h.wo hf
    rw [q0_bits hk hS hf] at e1
    rw [if_pos a, cl_nI (by omega)]
    simp (disch := omega) only [↓ob_eq e0, b01I, nI_10, ↓ob_eq e1, ↓reduceIte]
    rw [← fe_bits (q := fk P S (q0 S f) (pLg P)) (fk_e hk hS hf)]
    refine fixN_up (fun i (self : Int32 → Int32 → Int32 → Mem → Option (Int32 × Mem)) => self (bitI 4 (rs (cR P S) (gR P S) (pNo P) (q0 S f) i)) (bitI 6 (fk P S (q0 S f) i)) (nI i) μ = some (bitI 6 (fk P S (q0 S f) (pLg P)), μ)) (pLg P) ?_ ?_ 60000 0 (by omega) (by omega)
    · intro i self hi ih
      unfold s_feeds_B24
      simp (disch := omega) only [h.pn, hp2, h.wo.pl.lg, nI_leF, ↓reduceIte]
      rw [s_feeds_in hk hS h, nI_add]
      exact ih
    · intro self
      unfold s_feeds_B24
      simp (disch := omega) only [h.pn, hp2, h.wo.pl.lg, nI_leT, ↓reduceIte]
  · rw [a] at e0
    simp only [↓ob_eq e0, a, b01I, Bool.false_eq_true, ↓reduceIte]
theorem m_feeds_in {μ : Mem} {lv : Nat} {P : Pl} {S : Nat → Int32} (hk : PlOK P) (hS : StOK P S) (h : PlM μ lv P) (hr : RwM μ S) (r : Nat → Bool) : m_feeds_L59 (bitI 4 r) (nI 0) (nI 0) μ = some (bitI 6 (fww P S (fun _ => r) (fun _ => false) (pNo P)), μ) := by
  have hk0 := hk
  obtain ⟨k1, k2, k3, k4, k5, -⟩ := hk
  have hl2 := h.l2
  refine fixN_up (fun i (self : Int32 → Int32 → Mem → Option (Int32 × Mem)) => self (bitI 6 (fww P S (fun _ => r) (fun _ => false) i)) (nI i) μ = some (bitI 6 (fww P S (fun _ => r) (fun _ => false) (pNo P)), μ)) (pNo P) ?_ ?_ 60000 0 (by omega) (by omega)
  · intro i self hi ih
    have h4 := k4 i hi
    have h5 := k5 i hi
    obtain ⟨w1, w2⟩ := hS.1 i hi
    have e1 := m_fromLog_e hk0 h hi
    have e2 := m_toWhere_e hk0 h hi
    have e3 := m_wideAt_e hr (show i < 12 by omega)
    rw [w1] at e3
    have f0 : cF P S i r = false → fww P S (fun _ => r) (fun _ => false) (i + 1) = fww P S (fun _ => r) (fun _ => false) i := fun z => by simp only [fww, z]; rfl
    have f1 : cF P S i r = true → fww P S (fun _ => r) (fun _ => false) (i + 1) = ad1 (fww P S (fun _ => r) (fun _ => false) i) (pTo P i - 10) := fun z => by simp only [fww, z, if_true]
    have eF := cF_e P S i r
    have t4 := tst4 r (show pLog P i < 4 by omega)
    unfold m_feeds_B59
    cases c2 : r (pLog P i) with
    | false =>
      rw [c2, Bool.false_and, Bool.and_false] at eF
      rw [f0 eF] at ih
      rw [c2] at t4
      simp (disch := omega) only [h.lv, h.no, inB_nI, cl_nI, nI_leF, ↓ob_eq e1, t4, nI_add, Bool.false_eq_true, ↓reduceIte]
      exact ih
    | true =>
      rw [c2, Bool.true_and] at eF
      rw [c2] at t4
      by_cases c1 : sW S i = 0
      · rw [c1] at e3 eF
        rw [f0 eF] at ih
        simp (disch := omega) only [h.lv, h.no, inB_nI, cl_nI, nI_leF, nI_leT, ↓ob_eq e1, ↓ob_eq e3, t4, nI_add, ↓reduceIte]
        exact ih
      · rw [decide_eq_true (show 0 < sW S i by omega), Bool.true_and] at eF
        rcases h5 with h5 | ⟨h5, h6⟩ | h5
        · rw [f0 (by rw [eF, decide_eq_false (show ¬ 10 ≤ pTo P i by omega)]; rfl)] at ih
          simp (disch := omega) only [h.lv, h.no, inB_nI, cl_nI, nI_leF, nI_ltT, ↓ob_eq e1, ↓ob_eq e2, ↓ob_eq e3, t4, nI_add, ↓reduceIte]
          exact ih
        · rw [f1 (by rw [eF, decide_eq_true (show 10 ≤ pTo P i by omega), decide_eq_true (show pTo P i < 20 by omega)]; rfl)] at ih
          have eo := orN (fww P S (fun _ => r) (fun _ => false) i) (n := 6) (t := pTo P i - 10) (by omega) (by omega)
          simp (disch := omega) only [h.lv, h.no, inB_nI, cl_nI, nI_leF, nI_ltF, ↓ob_eq e1, ↓ob_eq e2, ↓ob_eq e3, t4, pk_sub, eo, ↓vb_e, nI_add, ↓reduceIte]
          exact ih
        · rw [f0 (by rw [eF, decide_eq_false (show ¬ pTo P i < 20 by omega), Bool.and_false])] at ih
          simp (disch := omega) only [h.lv, h.no, inB_nI, cl_nI, nI_leF, nI_leT, nI_ltF, ↓ob_eq e1, ↓ob_eq e2, ↓ob_eq e3, t4, nI_add, ↓reduceIte]
          exact ih
  · intro self
    unfold m_feeds_B59
    simp (disch := omega) only [h.lv, h.no, inB_nI, cl_nI, nI_leT, ↓reduceIte]
theorem m_feeds_e {μ : Mem} {lv : Nat} {P : Pl} {S : Nat → Int32} (hk : PlOK P) (hS : StOK P S) (h : MCore μ lv P S) (x : Int32) : ∃ μ', m_feeds x μ = some (qFeeds P S x, μ') := by
  have k1 := hk.1
  have k2 := hk.2.1
  have e0 := m_isField_e hk h.pl x
  unfold m_feeds qFeeds
  rcases inB_cases x (show pFd P < 2147483648 by omega) with ⟨a, f, hf, e⟩ | ⟨a, -⟩
  · subst e
    rw [a] at e0
    rw [if_pos a, cl_nI (by omega)]
    obtain ⟨q1, q2, q3, -⟩ := hS.2.1 f hf
    obtain ⟨μ1, e1, A1, W1, -⟩ := m_copies_e hk hS h
    obtain ⟨μ2, e2, B2, C2⟩ := m_fillsLeads_e hk hS A1.pl A1.rw
    have g2 := f_m_fillsLeads e2
    have A2 : MoW μ2 lv P S := A1.fo g2 rfl rfl
    have r1 := A1.rw f (by omega)
    have r2 := (A1.rw (6 + f) (by omega)).trans q1
    by_cases c : sQ S f = 0
    · have hz : bitI 6 (fun g => ifP (FeP P S f g) true false) = nI 0 := bitI_z (by omega) (fun g _ => ifP_f (fun z => z.1 c))
      rw [hz]
      refine ⟨μ1, ?_⟩
      rw [c] at r2
      rcases q3 with ⟨q3, -⟩ | ⟨q3, q4⟩
      · have hneg : ((-2 : Int32) < nI 0) = True := eq_true (by decide)
        simp (disch := omega) only [↓ob_eq e0, b01I, nI_10, ↓ob_eq e1, inB_nI, cl_nI, r1, q3, hneg, ↓reduceIte]
      · simp (disch := omega) only [↓ob_eq e0, b01I, nI_10, ↓ob_eq e1, inB_nI, cl_nI, r1, q3, nI_ltF, nI_add, r2, ↓reduceIte]
    · obtain ⟨q3, q4⟩ := q3.resolve_left (fun z => c z.2)
      obtain ⟨r, e3, hr⟩ := m_comesBy_e hk hS (μ := μ2) C2 (show sD S f < 4 by omega)
      have r3 := (A2.rw f (by omega)).trans q3
      have e4 := m_feeds_in hk hS A2.pl A2.rw r
      have hb := fe_bits (P := P) (S := S) (f := f) (q := fww P S (fun _ => r) (fun _ => false) (pNo P)) (fun g => by
        rw [fww_iff]
        constructor
        · rintro (z | ⟨n, hn, hc, e⟩)
          · cases z
          · rw [cF_e, Bool.and_eq_true, Bool.and_eq_true, Bool.and_eq_true, decide_eq_true_eq, decide_eq_true_eq, decide_eq_true_eq] at hc
            have h4 := hk.2.2.2.1 n hn
            exact ⟨c, n, hn, hc.1, (hr _ (by omega)).mp hc.2.1, hc.2.2.1, hc.2.2.2, e⟩
        · rintro ⟨-, n, hn, hw, hcl, t1, t2, e⟩
          have h4 := hk.2.2.2.1 n hn
          refine Or.inr ⟨n, hn, ?_, e⟩
          rw [cF_e, (hr _ (by omega)).mpr hcl, decide_eq_true hw, decide_eq_true t1, decide_eq_true t2]
          rfl)
      rw [← hb]
      rw [← one4 (show sD S f < 4 by omega)] at e3
      refine ⟨μ2, ?_⟩
      simp (disch := omega) only [↓ob_eq e0, b01I, nI_10, ↓ob_eq e1, inB_nI, cl_nI, r1, q3, nI_ltF, nI_add, r2, nI_eqF, ↓ob_eq e2, r3, ↓ob_eq e3, e4, ↓reduceIte]
  · rw [a] at e0
    refine ⟨μ, ?_⟩
    simp only [↓ob_eq e0, a, b01I, Bool.false_eq_true, ↓reduceIte]

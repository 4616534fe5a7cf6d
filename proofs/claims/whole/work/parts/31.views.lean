/-! what a state tells: views, laws, lacking, days -/
def held (m x : Int32) : Int32 := if nI 0 ≤ x then (if x ≤ m then x else m) else nI 0
noncomputable def fV (P : Pl) (S : Nat → Int32) (f : Nat) : Nat → Int32 := fun j => match j with
  | 0 => flow P S f
  | 1 => pArea P f
  | 2 => wTo P S f
  | 3 => S (12 + f)
  | 4 => S 31
  | 5 => nI f
  | 6 => S (6 + f)
  | 7 => nI (pLg P)
  | _ => nI (pFd P)
def nV (P : Pl) (S : Nat → Int32) (n : Nat) : Nat → Int32 := fun j => match j with
  | 2 => S (18 + n)
  | 4 => S 31
  | 5 => nI n
  | 7 => nI (pLg P)
  | 8 => nI (pFd P)
  | _ => nI 0
noncomputable def needs (P : Pl) (S : Nat → Int32) (f : Nat) : Int32 := held (nI 9999) (lawV (pLaw P 0) (fV P S f))
noncomputable def worth (P : Pl) (S : Nat → Int32) (f : Nat) : Int32 := held (nI 99) (lawV (pLaw P 1) (fV P S f))
def costs (P : Pl) (S : Nat → Int32) (n : Nat) : Int32 := held (nI 99) (lawV (pLaw P 2) (nV P S n))
def silts (P : Pl) (S : Nat → Int32) (n : Nat) : Int32 := held (nI 100) (lawV (pLaw P 3) (nV P S n))
noncomputable def lack (P : Pl) (S : Nat → Int32) (f : Nat) : Bool := decide (flow P S f < needs P S f)
def grAll (P : Pl) (S : Nat → Int32) : Int32 := sumI (pFd P) (fun f => S (12 + f))
theorem held_bd {m : Nat} (hm : m < 2147483648) (x : Int32) : ∃ k : Nat, k ≤ m ∧ held (nI m) x = nI k := by
  unfold held
  by_cases h1 : nI 0 ≤ x
  · rw [if_pos h1]
    by_cases h2 : x ≤ nI m
    · rw [if_pos h2]
      obtain ⟨j, hj, e⟩ := nI_of2 (M := nI m) (n := m) (nI_toInt (by omega)) (Int32.not_lt.mpr h1) h2
      exact ⟨j, hj, e⟩
    · rw [if_neg h2]; exact ⟨m, Nat.le_refl _, rfl⟩
  · rw [if_neg h1]; exact ⟨0, Nat.zero_le _, rfl⟩
theorem i32_anti {a b : Int32} (h : ¬ a ≤ b) : b < a := Int32.not_le.mp h
theorem wo_heldTo_e {m : Nat} (hm : m < 2147483648) (x : Int32) (μ : Mem) : wo_heldTo (nI m) x μ = some (held (nI m) x, μ) := by
  unfold wo_heldTo
  rw [j_min_e, ob_some, j_max_e, ob_some]
  congr 2
  unfold held
  have hm0 : nI 0 ≤ nI m := nI_le (Nat.zero_le m) (by omega)
  by_cases h1 : nI 0 ≤ x
  · rw [if_pos h1]
    by_cases h2 : x ≤ nI m
    · rw [if_pos h2]
      have e1 : (if x < nI m then x else nI m) = x := by
        by_cases z : x < nI m
        · rw [if_pos z]
        · rw [if_neg z]; exact Int32.le_antisymm (Int32.not_lt.mp z) h2
      rw [e1]
      by_cases z : nI 0 < x
      · rw [if_pos z]
      · rw [if_neg z]; exact Int32.le_antisymm h1 (Int32.not_lt.mp z)
    · rw [if_neg h2, if_neg (Int32.lt_asymm (Int32.not_le.mp h2))]
      by_cases z : nI 0 < nI m
      · rw [if_pos z]
      · rw [if_neg z]; exact Int32.le_antisymm hm0 (Int32.not_lt.mp z)
  · rw [if_neg h1]
    have hx : x < nI m := Int32.lt_of_lt_of_le (Int32.not_le.mp h1) hm0
    rw [if_pos hx, if_neg (Int32.lt_asymm (Int32.not_le.mp h1))]
theorem wo_lookAround_e {μ : Mem} {w p : Nat} {P : Pl} {S : Nat → Int32} (h : WoC μ w p P S) (x : Int32) : ∃ μ', wo_lookAround w x μ = some ((), μ') ∧ mI μ' 42 w 4 = S 31 ∧ mI μ' 42 w 5 = x ∧ mI μ' 42 w 7 = nI (pLg P) ∧ mI μ' 42 w 8 = nI (pFd P) ∧ ∀ j, (j < 4 ∨ j = 6) → mI μ' 42 w j = mI μ 42 w j := by
  have hp2 := h.p2
  have r := h.r
  unfold wo_lookAround
  simp (disch := omega) only [↓mb_e, mR_stI, r, hp2, h.st.da, ↓reduceIte]
  refine ⟨_, rfl, ?_, ?_, ?_, ?_, fun j hj => ?_⟩
  · simp [mI_stI]
  · simp [mI_stI]
  · simp [mI_stI, h.pl.lg]
  · simp [mI_stI, h.pl.fd]
  · rw [mI_stI, if_neg (by omega), mI_stI, if_neg (by omega), mI_stI, if_neg (by omega), mI_stI, if_neg (by omega)]
theorem wo_lookAtField_e {μ : Mem} {w p : Nat} {P : Pl} {S : Nat → Int32} (hk : PlOK P) (h : WoC μ w p P S) (hw : WaC μ w P S) {f : Nat} (hf : f < pFd P) : ∃ μ', wo_lookAtField w (nI f) μ = some ((), μ') ∧ ∀ j, j < 9 → mI μ' 42 w j = fV P S f j := by
  have hp2 := h.p2
  have r := h.r
  have k2 := hk.2.1
  unfold wo_lookAtField
  have a1 := hw.fw hf
  have a2 := h.pl.ar hf
  generalize hμ : stI (stI μ 42 w 0 (flow P S f)) 42 w 1 (pArea P f) = μ1
  have W1 : WoC μ1 w p P S := by rw [← hμ]; exact h
  have e1 := wo_widthsTo_e W1.r hp2 hk W1.pl W1.st (show f < 6 by omega)
  have a3 := W1.st.gr hf
  generalize hμ2 : stI (stI (stI μ1 42 w 2 (wTo P S f)) 42 w 3 (S (12 + f))) 42 w 6 (S (6 + f)) = μ2
  have W2 : WoC μ2 w p P S := by rw [← hμ2]; exact W1
  obtain ⟨μ3, e2, b4, b5, b7, b8, bo⟩ := wo_lookAround_e W2 (nI f)
  have c2 : mI (stI μ1 42 w 2 (wTo P S f)) 30 (w + 2) f = S (12 + f) := a3
  have c3 : mI (stI (stI μ1 42 w 2 (wTo P S f)) 42 w 3 (S (12 + f))) 29 (w + 2) f = S (6 + f) := W1.st.qu hf
  have c1 : mI (stI μ 42 w 0 (flow P S f)) 21 p f = pArea P f := a2
  refine ⟨μ3, ?_, fun j hj => ?_⟩
  · simp (disch := omega) only [inB_nI, cl_nI, ↓mb_e, mR_stI, r, hp2, a1, c1, hμ, ↓ob_eq e1, c2, c3, hμ2, ↓ob_eq e2, ↓reduceIte]
  · rcases (show j = 0 ∨ j = 1 ∨ j = 2 ∨ j = 3 ∨ j = 4 ∨ j = 5 ∨ j = 6 ∨ j = 7 ∨ j = 8 by omega) with rfl | rfl | rfl | rfl | rfl | rfl | rfl | rfl | rfl
    · rw [bo 0 (by decide), ← hμ2, ← hμ]; simp [mI_stI, fV]
    · rw [bo 1 (by decide), ← hμ2, ← hμ]; simp [mI_stI, fV]
    · rw [bo 2 (by decide), ← hμ2]; simp [mI_stI, fV]
    · rw [bo 3 (by decide), ← hμ2]; simp [mI_stI, fV]
    · exact b4
    · exact b5
    · rw [bo 6 (by decide), ← hμ2]; simp [mI_stI, fV]
    · exact b7
    · exact b8
theorem wo_lookAtNotch_e {μ : Mem} {w p : Nat} {P : Pl} {S : Nat → Int32} (hk : PlOK P) (h : WoC μ w p P S) {n : Nat} (hn : n < pNo P) : ∃ μ', wo_lookAtNotch w (nI n) μ = some ((), μ') ∧ ∀ j, j < 9 → mI μ' 42 w j = nV P S n j := by
  have k3 := hk.2.2.1
  unfold wo_lookAtNotch
  have c1 : mI (stI (stI μ 42 w 0 (nI 0)) 42 w 1 (nI 0)) 27 (w + 2) n = S (18 + n) := h.st.wi hn
  generalize hμ2 : stI (stI (stI (stI (stI μ 42 w 0 (nI 0)) 42 w 1 (nI 0)) 42 w 2 (S (18 + n))) 42 w 3 (nI 0)) 42 w 6 (nI 0) = μ2
  have W2 : WoC μ2 w p P S := by rw [← hμ2]; exact h
  obtain ⟨μ3, e2, b4, b5, b7, b8, bo⟩ := wo_lookAround_e W2 (nI n)
  refine ⟨μ3, ?_, fun j hj => ?_⟩
  · simp (disch := omega) only [inB_nI, cl_nI, ↓mb_e, c1, hμ2, ↓ob_eq e2, ↓reduceIte]
  · rcases (show j = 0 ∨ j = 1 ∨ j = 2 ∨ j = 3 ∨ j = 4 ∨ j = 5 ∨ j = 6 ∨ j = 7 ∨ j = 8 by omega) with rfl | rfl | rfl | rfl | rfl | rfl | rfl | rfl | rfl
    · rw [bo 0 (by decide), ← hμ2]; simp [mI_stI, nV]
    · rw [bo 1 (by decide), ← hμ2]; simp [mI_stI, nV]
    · rw [bo 2 (by decide), ← hμ2]; simp [mI_stI, nV]
    · rw [bo 3 (by decide), ← hμ2]; simp [mI_stI, nV]
    · exact b4
    · exact b5
    · rw [bo 6 (by decide), ← hμ2]; simp [mI_stI, nV]
    · exact b7
    · exact b8
theorem wo_needsOf_e {μ : Mem} {w p : Nat} {P : Pl} {S : Nat → Int32} (hk : PlOK P) (h : WoC μ w p P S) (hw : WaC μ w P S) {f : Nat} (hf : f < pFd P) : ∃ μ', wo_needsOf w (nI f) μ = some (needs P S f, μ') := by
  obtain ⟨μ1, e1, v1⟩ := wo_lookAtField_e hk h hw hf
  have W1 := h.fo (f_wo_lookAtField e1) rfl
  obtain ⟨μ2, e2⟩ := wo_valueOf_e (k := 0) W1.r W1.p2 hk W1.la (by decide)
  rw [lawV_v v1 (hk.2.2.2.2.2 0)] at e2
  exact ⟨μ2, by unfold wo_needsOf; simp only [↓ob_eq e1, ↓ob_eq e2, ↓ob_eq (wo_heldTo_e (show 9999 < 2147483648 by decide) _ μ2)]; rfl⟩
theorem wo_worthOf_e {μ : Mem} {w p : Nat} {P : Pl} {S : Nat → Int32} (hk : PlOK P) (h : WoC μ w p P S) (hw : WaC μ w P S) {f : Nat} (hf : f < pFd P) : ∃ μ', wo_worthOf w (nI f) μ = some (worth P S f, μ') := by
  obtain ⟨μ1, e1, v1⟩ := wo_lookAtField_e hk h hw hf
  have W1 := h.fo (f_wo_lookAtField e1) rfl
  obtain ⟨μ2, e2⟩ := wo_valueOf_e (k := 1) W1.r W1.p2 hk W1.la (by decide)
  rw [lawV_v v1 (hk.2.2.2.2.2 1)] at e2
  exact ⟨μ2, by unfold wo_worthOf; simp only [↓ob_eq e1, ↓ob_eq e2, ↓ob_eq (wo_heldTo_e (show 99 < 2147483648 by decide) _ μ2)]; rfl⟩
theorem wo_costsOf_e {μ : Mem} {w p : Nat} {P : Pl} {S : Nat → Int32} (hk : PlOK P) (h : WoC μ w p P S) {n : Nat} (hn : n < pNo P) : ∃ μ', wo_costsOf w (nI n) μ = some (costs P S n, μ') := by
  obtain ⟨μ1, e1, v1⟩ := wo_lookAtNotch_e hk h hn
  have W1 := h.fo (f_wo_lookAtNotch e1) rfl
  obtain ⟨μ2, e2⟩ := wo_valueOf_e (k := 2) W1.r W1.p2 hk W1.la (by decide)
  rw [lawV_v v1 (hk.2.2.2.2.2 2)] at e2
  exact ⟨μ2, by unfold wo_costsOf; simp only [↓ob_eq e1, ↓ob_eq e2, ↓ob_eq (wo_heldTo_e (show 99 < 2147483648 by decide) _ μ2)]; rfl⟩
theorem wo_siltsOf_e {μ : Mem} {w p : Nat} {P : Pl} {S : Nat → Int32} (hk : PlOK P) (h : WoC μ w p P S) {n : Nat} (hn : n < pNo P) : ∃ μ', wo_siltsOf w (nI n) μ = some (silts P S n, μ') := by
  obtain ⟨μ1, e1, v1⟩ := wo_lookAtNotch_e hk h hn
  have W1 := h.fo (f_wo_lookAtNotch e1) rfl
  obtain ⟨μ2, e2⟩ := wo_valueOf_e (k := 3) W1.r W1.p2 hk W1.la (by decide)
  rw [lawV_v v1 (hk.2.2.2.2.2 3)] at e2
  exact ⟨μ2, by unfold wo_siltsOf; simp only [↓ob_eq e1, ↓ob_eq e2, ↓ob_eq (wo_heldTo_e (show 100 < 2147483648 by decide) _ μ2)]; rfl⟩
def b01I (b : Bool) : Int32 := if b = true then nI 1 else nI 0
theorem b01I_t {b : Bool} (h : b = true) : b01I b = nI 1 := if_pos h
theorem b01I_f {b : Bool} (h : ¬ b = true) : b01I b = nI 0 := if_neg h
theorem wo_lacks_e {μ : Mem} {w p : Nat} {P : Pl} {S : Nat → Int32} (hk : PlOK P) (h : WoC μ w p P S) (hw : WaC μ w P S) {f : Nat} (hf : f < pFd P) : ∃ μ', wo_lacks w (nI f) μ = some (b01I (lack P S f), μ') := by
  have k2 := hk.2.1
  obtain ⟨μ1, e1⟩ := wo_needsOf_e hk h hw hf
  refine ⟨μ1, ?_⟩
  unfold wo_lacks
  simp (disch := omega) only [inB_nI, cl_nI, ↓ob_eq e1, hw.fw hf, ↓reduceIte]
  unfold lack b01I
  by_cases c : flow P S f < needs P S f
  · rw [decide_eq_true c, if_neg (Int32.not_le.mpr c)]; rfl
  · rw [decide_eq_false c, if_pos (Int32.not_lt.mp c)]; rfl
theorem wo_lackingFields_e {μ : Mem} {w p : Nat} {P : Pl} {S : Nat → Int32} (hk : PlOK P) (h : WoC μ w p P S) (hw : WaC μ w P S) : ∃ μ', wo_lackingFields w μ = some (bitI (pFd P) (lack P S), μ') := by
  have k2 := hk.2.1
  refine fixN_up (fun i (self : Int32 → Int32 → Mem → Option (Int32 × Mem)) => ∀ μ, WoC μ w p P S → WaC μ w P S → ∃ μ', self (bitI i (lack P S)) (nI i) μ = some (bitI (pFd P) (lack P S), μ')) (pFd P) ?_ ?_ 60000 0 (by omega) (by omega) μ h hw
  · intro i self hi ih μ h hw
    have hp2 := h.p2
    obtain ⟨μ1, e1⟩ := wo_lacks_e hk h hw hi
    have W1 := h.fo (f_wo_lacks e1) rfl
    have A1 := hw.fr (f_wo_lacks e1) rfl
    have ih1 := ih μ1 W1 A1
    rw [bitI_s] at ih1
    unfold wo_lackingFields_B4
    by_cases c : lack P S i = true
    · rw [b01I_t c] at e1
      rw [if_pos c] at ih1
      simp (disch := omega) only [h.r, hp2, h.pl.fd, nI_leF, ↓ob_eq e1, nI_10, nI_add, ↓reduceIte]
      exact ih1
    · rw [b01I_f c] at e1
      rw [if_neg c] at ih1
      simp (disch := omega) only [h.r, hp2, h.pl.fd, nI_leF, ↓ob_eq e1, nI_add, ↓reduceIte]
      exact ih1
  · intro self μ h hw
    have hp2 := h.p2
    unfold wo_lackingFields_B4
    simp (disch := omega) only [h.r, hp2, h.pl.fd, nI_leT, ↓reduceIte]
    exact ⟨μ, rfl⟩
theorem wo_lacksSomewhere_e {μ : Mem} {w p : Nat} {P : Pl} {S : Nat → Int32} (hk : PlOK P) (h : WoC μ w p P S) (hw : WaC μ w P S) : ∃ (b : Bool) (μ' : Mem), wo_lacksSomewhere w μ = some (b01I b, μ') ∧ (b = true ↔ ∃ f, f < pFd P ∧ lack P S f = true) := by
  have k2 := hk.2.1
  have key : ∃ (b : Bool) (μ' : Mem), wo_lacksSomewhere w μ = some (b01I b, μ') ∧ (b = true ↔ ∃ f, 0 ≤ f ∧ f < pFd P ∧ lack P S f = true) := by
    refine fixN_up (fun i (self : Int32 → Mem → Option (Int32 × Mem)) => ∀ μ, WoC μ w p P S → WaC μ w P S → ∃ (b : Bool) (μ' : Mem), self (nI i) μ = some (b01I b, μ') ∧ (b = true ↔ ∃ f, i ≤ f ∧ f < pFd P ∧ lack P S f = true)) (pFd P) ?_ ?_ 60000 0 (by omega) (by omega) μ h hw
    · intro i self hi ih μ h hw
      have hp2 := h.p2
      obtain ⟨μ1, e1⟩ := wo_needsOf_e hk h hw hi
      have W1 := h.fo (f_wo_needsOf e1) rfl
      have A1 := hw.fr (f_wo_needsOf e1) rfl
      have a35 := A1.fw hi
      have a35' := hw.fw hi
      unfold wo_lacksSomewhere_B2
      by_cases c : flow P S i < needs P S i
      · have c2 : (needs P S i ≤ flow P S i) = False := eq_false (Int32.not_le.mpr c)
        simp (disch := omega) only [h.r, hp2, h.pl.fd, nI_leF, inB_nI, cl_nI, ↓ob_eq e1, a35, a35', c2, ↓reduceIte]
        exact ⟨true, μ1, rfl, ⟨fun _ => ⟨i, Nat.le_refl _, hi, decide_eq_true c⟩, fun _ => rfl⟩⟩
      · have c2 : (needs P S i ≤ flow P S i) = True := eq_true (Int32.not_lt.mp c)
        obtain ⟨b, μ', q1, q2⟩ := ih μ1 W1 A1
        simp (disch := omega) only [h.r, hp2, h.pl.fd, nI_leF, inB_nI, cl_nI, ↓ob_eq e1, a35, a35', c2, nI_add, ↓reduceIte]
        refine ⟨b, μ', q1, q2.trans ⟨fun ⟨f, a, z⟩ => ⟨f, by omega, z⟩, fun ⟨f, a, z⟩ => ⟨f, ?_, z⟩⟩⟩
        by_cases e : f = i
        · subst e; exact absurd (of_decide_eq_true z.2) c
        · omega
    · intro self μ h hw
      have hp2 := h.p2
      unfold wo_lacksSomewhere_B2
      simp (disch := omega) only [h.r, hp2, h.pl.fd, nI_leT, ↓reduceIte]
      exact ⟨false, μ, rfl, ⟨fun z => (by cases z), fun ⟨n, a, b, _⟩ => by omega⟩⟩
  obtain ⟨b, μ', q1, q2⟩ := key
  exact ⟨b, μ', q1, q2.trans ⟨fun ⟨l, _, z⟩ => ⟨l, z⟩, fun ⟨l, z⟩ => ⟨l, Nat.zero_le _, z⟩⟩⟩
theorem wo_grownOfAll_e {μ : Mem} {w p : Nat} {P : Pl} {S : Nat → Int32} (hk : PlOK P) (h : WoC μ w p P S) : wo_grownOfAll w μ = some (grAll P S, μ) := by
  have k2 := hk.2.1
  have hp2 := h.p2
  refine fixN_up (fun i (self : Int32 → Int32 → Mem → Option (Int32 × Mem)) => self (sumI i (fun f => S (12 + f))) (nI i) μ = some (grAll P S, μ)) (pFd P) ?_ ?_ 60000 0 (by omega) (by omega)
  · intro i self hi ih
    unfold wo_grownOfAll_B4
    simp (disch := omega) only [h.r, hp2, h.pl.fd, nI_leF, inB_nI, cl_nI, h.st.gr hi, nI_add, ↓reduceIte]
    exact ih
  · intro self
    unfold wo_grownOfAll_B4
    simp (disch := omega) only [h.r, hp2, h.pl.fd, nI_leT, ↓reduceIte]
    rfl
theorem wo_widthsOf_e {μ : Mem} {w p : Nat} {P : Pl} {S : Nat → Int32} (hk : PlOK P) (h : WoC μ w p P S) {l : Nat} (hl : l < 4) : wo_widthsOf w (nI l) μ = some (wBy P S l, μ) := by
  have hp2 := h.p2
  obtain ⟨k1, k2, k3, k4, k5, -⟩ := hk
  refine fixN_up (fun i (self : Int32 → Int32 → Mem → Option (Int32 × Mem)) => self (sumI i (fun n => if pLog P n = l then S (18 + n) else nI 0)) (nI i) μ = some (wBy P S l, μ)) (pNo P) ?_ ?_ 60000 0 (by omega) (by omega)
  · intro i self hi ih
    have h4 := k4 i hi
    rw [sumI_s] at ih
    unfold wo_widthsOf_B4
    by_cases e : pLog P i = l
    · rw [if_pos e] at ih
      simp (disch := omega) only [h.r, hp2, h.pl.no, nI_leF, inB_nI, cl_nI, h.pl.lo hi, e, h.st.wi hi, nI_add, ↓reduceIte]
      exact ih
    · rw [if_neg e, add_z] at ih
      simp (disch := omega) only [h.r, hp2, h.pl.no, nI_leF, inB_nI, cl_nI, h.pl.lo hi, nI_eqF, nI_add, ↓reduceIte]
      exact ih
  · intro self
    unfold wo_widthsOf_B4
    simp (disch := omega) only [h.r, hp2, h.pl.no, nI_leT, ↓reduceIte]
    rfl
/-- steps: twice the notch's number, and 1 more if it is cut -/
def canS (P : Pl) (S : Nat → Int32) (s : Nat) : Bool := decide (s < 2 * pNo P) && (if s % 2 = 1 then decide (sW S (s / 2) < 3) else decide (0 < sW S (s / 2)))
def stS (S : Nat → Int32) (s : Nat) : Nat → Int32 := up S (18 + s / 2) (nI (if s % 2 = 1 then sW S (s / 2) + 1 else sW S (s / 2) - 1))
theorem wo_canStep_e {μ : Mem} {w p : Nat} {P : Pl} {S : Nat → Int32} (hk : PlOK P) (hS : StOK P S) (h : WoC μ w p P S) {s : Nat} (hs : s < 1000) : wo_canStep w (nI s) μ = some (b01I (canS P S s), μ) := by
  have hp2 := h.p2
  have k3 := hk.2.2.1
  have hneg : (nI s < nI 0) = False := nI_ltF (Nat.zero_le _) (by omega)
  unfold wo_canStep canS b01I
  by_cases c : s < 2 * pNo P
  · obtain ⟨w1, w2⟩ := hS.1 (s / 2) (by omega)
    have hwi := (h.st.wi (show s / 2 < pNo P by omega)).trans w1
    by_cases c2 : s % 2 = 1
    · by_cases c3 : sW S (s / 2) < 3
      · simp (disch := omega) only [hneg, h.r, hp2, h.pl.no, pk_mul, nI_ltT, nI_div2, nI_rem2, inB_nI, cl_nI, c2, hwi, nI_leF, decide_eq_true c, decide_eq_true c3, Bool.and_self, ↓reduceIte]
      · simp (disch := omega) only [hneg, h.r, hp2, h.pl.no, pk_mul, nI_ltT, nI_div2, nI_rem2, inB_nI, cl_nI, c2, hwi, nI_leT, decide_eq_true c, decide_eq_false c3, Bool.and_false, Bool.false_eq_true, ↓reduceIte]
    · by_cases c3 : 0 < sW S (s / 2)
      · simp (disch := omega) only [hneg, h.r, hp2, h.pl.no, pk_mul, nI_ltT, nI_div2, nI_rem2, inB_nI, cl_nI, c2, nI_eqF, hwi, nI_leF, decide_eq_true c, decide_eq_true c3, Bool.and_self, ↓reduceIte]
      · simp (disch := omega) only [hneg, h.r, hp2, h.pl.no, pk_mul, nI_ltT, nI_div2, nI_rem2, inB_nI, cl_nI, c2, nI_eqF, hwi, nI_leT, decide_eq_true c, decide_eq_false c3, Bool.and_false, Bool.false_eq_true, ↓reduceIte]
  · simp (disch := omega) only [hneg, h.r, hp2, h.pl.no, pk_mul, nI_ltF, decide_eq_false c, Bool.false_and, Bool.false_eq_true, ↓reduceIte]
theorem canS_t {P : Pl} {S : Nat → Int32} {s : Nat} (h : canS P S s = true) : s < 2 * pNo P ∧ (s % 2 = 1 → sW S (s / 2) < 3) ∧ (¬ s % 2 = 1 → 0 < sW S (s / 2)) := by
  unfold canS at h
  rw [Bool.and_eq_true, decide_eq_true_eq] at h
  refine ⟨h.1, fun z => ?_, fun z => ?_⟩
  · have := h.2; rw [if_pos z] at this; exact of_decide_eq_true this
  · have := h.2; rw [if_neg z] at this; exact of_decide_eq_true this
theorem up_s {α : Type} (f : Nat → α) (k : Nat) (x : α) : up f k x k = x := if_pos rfl
theorem up_n {α : Type} (f : Nat → α) {k j : Nat} (x : α) (h : j ≠ k) : up f k x j = f j := if_neg h
theorem stS_ok {P : Pl} {S : Nat → Int32} (hk : PlOK P) (hS : StOK P S) {s : Nat} (h : canS P S s = true) : StOK P (stS S s) := by
  have k2 := hk.2.1
  have k3 := hk.2.2.1
  obtain ⟨c1, c2, c3⟩ := canS_t h
  have o : ∀ k, k ≠ 18 + s / 2 → stS S s k = S k := fun k hk => up_n _ _ hk
  refine ⟨fun n hn => ?_, fun f hf => ?_, ?_⟩
  · by_cases e : n = s / 2
    · subst e
      have e2 : stS S s (18 + s / 2) = nI (if s % 2 = 1 then sW S (s / 2) + 1 else sW S (s / 2) - 1) := up_s _ _ _
      have hw := (hS.1 (s / 2) hn).2
      unfold sW
      rw [e2]
      by_cases z : s % 2 = 1
      · have := c2 z
        rw [if_pos z, cl_nI (by omega)]
        exact ⟨rfl, by omega⟩
      · rw [if_neg z, cl_nI (by omega)]
        exact ⟨rfl, by omega⟩
    · have := hS.1 n hn
      unfold sW at this ⊢
      rw [o _ (by omega)]; exact this
  · have := hS.2.1 f hf
    unfold sQ sD sG at this ⊢
    rw [o (6 + f) (by omega), o f (by omega), o (12 + f) (by omega)]; exact this
  · have := hS.2.2
    unfold sS at this ⊢
    rw [o 30 (by omega)]; exact this
theorem wo_doStep_e {μ : Mem} {w p : Nat} {P : Pl} {S : Nat → Int32} (hk : PlOK P) (hS : StOK P S) (h : WoC μ w p P S) {s : Nat} (hc : canS P S s = true) : ∃ μ', wo_doStep w (nI s) μ = some ((), μ') ∧ WoC μ' w p P (stS S s) := by
  have k2 := hk.2.1
  have k3 := hk.2.2.1
  obtain ⟨c1, c2, c3⟩ := canS_t hc
  obtain ⟨w1, w2⟩ := hS.1 (s / 2) (by omega)
  have hwi := (h.st.wi (show s / 2 < pNo P by omega)).trans w1
  have o : ∀ k, k ≠ 18 + s / 2 → stS S s k = S k := fun k hk => up_n _ _ hk
  have fin : ∀ (v : Nat), v = (if s % 2 = 1 then sW S (s / 2) + 1 else sW S (s / 2) - 1) → WoC (stI μ 27 (w + 2) (s / 2) (nI v)) w p P (stS S s) := fun v hv => by
    refine ⟨h.p2, h.r, h.pl, h.la, fun n hn => ?_, fun f hf => ⟨?_, ?_, ?_⟩, ?_, ?_, ?_⟩
    · rw [mI_stI]
      by_cases e : n = s / 2
      · subst e
        rw [if_pos ⟨rfl, rfl, rfl⟩, hv]; exact (up_s _ _ _).symm
      · rw [if_neg (fun z => e z.2.2), o _ (by omega)]; exact h.st.wi hn
    · rw [o _ (by omega)]; exact h.st.dr hf
    · rw [o _ (by omega)]; exact h.st.qu hf
    · rw [o _ (by omega)]; exact h.st.gr hf
    · rw [o _ (by omega)]; exact h.st.sp
    · rw [o _ (by omega)]; exact h.st.da
    · rw [o _ (by omega)]; exact h.st.pd
  unfold wo_doStep
  by_cases z : s % 2 = 1
  · simp (disch := omega) only [nI_div2, nI_rem2, inB_nI, cl_nI, z, hwi, nI_add, ↓mb_e, ↓reduceIte]
    exact ⟨_, rfl, fin _ (by rw [if_pos z])⟩
  · have := c3 z
    simp (disch := omega) only [nI_div2, nI_rem2, inB_nI, cl_nI, z, nI_eqF, hwi, nI_m1, ↓mb_e, ↓reduceIte]
    exact ⟨_, rfl, fin _ (by rw [if_neg z])⟩
theorem wo_drainTarget_e {μ : Mem} {w p : Nat} {P : Pl} {S : Nat → Int32} (hk : PlOK P) (hS : StOK P S) (h : WoC μ w p P S) {f : Nat} (hf : f < pFd P) : wo_drainTarget w (nI f) μ = some (if sQ S f = 0 then nI 0 else nI 1 <<< (nI (sD S f) &&& 31), μ) := by
  have k2 := hk.2.1
  obtain ⟨q1, q2, q3, -⟩ := hS.2.1 f hf
  have hq := (h.st.qu hf).trans q1
  unfold wo_drainTarget
  by_cases c : sQ S f = 0
  · rw [c] at hq
    simp (disch := omega) only [inB_nI, cl_nI, hq, nI_leT, c, ↓reduceIte]
  · rcases q3 with ⟨q3, q4⟩ | ⟨q3, q4⟩
    · exact absurd q4 c
    · simp (disch := omega) only [inB_nI, cl_nI, hq, nI_leF, c, h.st.dr hf, ↓reduceIte]
      rw [q3]

/-! the reference's water: what its steps do -/
/-- the reference's plan, at its side lv -/
def PlM (μ : Mem) (lv : Nat) (P : Pl) : Prop := lv < 2 ∧ mI μ 55 0 18 = nI lv ∧ mI μ 65 0 lv = nI (pLg P) ∧ mI μ 66 0 lv = nI (pFd P) ∧ mI μ 70 0 lv = nI (pNo P) ∧ mI μ 75 0 lv = pSeed P ∧ (∀ f, f < pFd P → mI μ 67 0 (6 * lv + f) = pArea P f) ∧ (∀ n, n < pNo P → mI μ 71 0 (12 * lv + n) = nI (pLog P n)) ∧ (∀ n, n < pNo P → mI μ 72 0 (12 * lv + n) = nI (pTo P n))
theorem PlM.l2 {μ : Mem} {lv : Nat} {P : Pl} (h : PlM μ lv P) : lv < 2 := h.1
theorem PlM.lv {μ : Mem} {lv : Nat} {P : Pl} (h : PlM μ lv P) : mI μ 55 0 18 = nI lv := h.2.1
theorem PlM.lg {μ : Mem} {lv : Nat} {P : Pl} (h : PlM μ lv P) : mI μ 65 0 lv = nI (pLg P) := h.2.2.1
theorem PlM.fd {μ : Mem} {lv : Nat} {P : Pl} (h : PlM μ lv P) : mI μ 66 0 lv = nI (pFd P) := h.2.2.2.1
theorem PlM.no {μ : Mem} {lv : Nat} {P : Pl} (h : PlM μ lv P) : mI μ 70 0 lv = nI (pNo P) := h.2.2.2.2.1
theorem PlM.sd {μ : Mem} {lv : Nat} {P : Pl} (h : PlM μ lv P) : mI μ 75 0 lv = pSeed P := h.2.2.2.2.2.1
theorem PlM.ar {μ : Mem} {lv : Nat} {P : Pl} (h : PlM μ lv P) {f : Nat} (hf : f < pFd P) : mI μ 67 0 (6 * lv + f) = pArea P f := h.2.2.2.2.2.2.1 f hf
theorem PlM.lo {μ : Mem} {lv : Nat} {P : Pl} (h : PlM μ lv P) {n : Nat} (hn : n < pNo P) : mI μ 71 0 (12 * lv + n) = nI (pLog P n) := h.2.2.2.2.2.2.2.1 n hn
theorem PlM.to {μ : Mem} {lv : Nat} {P : Pl} (h : PlM μ lv P) {n : Nat} (hn : n < pNo P) : mI μ 72 0 (12 * lv + n) = nI (pTo P n) := h.2.2.2.2.2.2.2.2 n hn
/-- the reference's row -/
def RwM (μ : Mem) (S : Nat → Int32) : Prop := ∀ k, k < 33 → mI μ 89 0 k = S k
theorem PlM.fr {μ μ' : Mem} {lv : Nat} {P : Pl} {T : List At} (h : PlM μ lv P) (g : Fr T μ μ') (o : offR [65, 66, 67, 70, 71, 72, 75] T = true) (o55 : inT T 55 0 18 = false) : PlM μ' lv P := by
  refine ⟨h.l2, ?_, ?_, ?_, ?_, ?_, fun f hf => ?_, fun n hn => ?_, fun n hn => ?_⟩
  · rw [g.I o55]; exact h.lv
  · rw [g.I (offR_f o rfl _ _)]; exact h.lg
  · rw [g.I (offR_f o rfl _ _)]; exact h.fd
  · rw [g.I (offR_f o rfl _ _)]; exact h.no
  · rw [g.I (offR_f o rfl _ _)]; exact h.sd
  · rw [g.I (offR_f o rfl _ _)]; exact h.ar hf
  · rw [g.I (offR_f o rfl _ _)]; exact h.lo hn
  · rw [g.I (offR_f o rfl _ _)]; exact h.to hn
theorem RwM.fr {μ μ' : Mem} {S : Nat → Int32} {T : List At} (h : RwM μ S) (g : Fr T μ μ') (o : offR [89] T = true) : RwM μ' S := fun k hk => by
  rw [g.I (offR_f o rfl _ _)]; exact h k hk
theorem m_fromLog_e {μ : Mem} {lv : Nat} {P : Pl} (hk : PlOK P) (h : PlM μ lv P) {n : Nat} (hn : n < pNo P) : m_fromLog (nI n) μ = some (nI (pLog P n), μ) := by
  have h1 := hk.2.2.1
  have h2 := h.l2
  unfold m_fromLog
  simp (disch := omega) only [h.lv, pk_mul, nI_add, inB_nI, cl_nI, h.lo hn, ↓reduceIte]
theorem m_toWhere_e {μ : Mem} {lv : Nat} {P : Pl} (hk : PlOK P) (h : PlM μ lv P) {n : Nat} (hn : n < pNo P) : m_toWhere (nI n) μ = some (nI (pTo P n), μ) := by
  have h1 := hk.2.2.1
  have h2 := h.l2
  unfold m_toWhere
  simp (disch := omega) only [h.lv, pk_mul, nI_add, inB_nI, cl_nI, h.to hn, ↓reduceIte]
theorem m_wideAt_e {μ : Mem} {S : Nat → Int32} (h : RwM μ S) {n : Nat} (hn : n < 12) : m_wideAt (nI n) μ = some (S (18 + n), μ) := by
  unfold m_wideAt
  simp (disch := omega) only [nI_add, inB_nI, cl_nI, h (18 + n) (by omega), ↓reduceIte]
/-- rows of a region told one by one -/
def wNi (P : Pl) (S : Nat → Int32) (i l : Nat) : Nat := sumN i (fun n => if pLog P n = l then sW S n else 0)
def leadNi (P : Pl) (S : Nat → Int32) (i l t : Nat) : Nat := sumN i (fun n => if pLog P n = l then ldT P S n t else 0)
def LeM (μ : Mem) (P : Pl) (S : Nat → Int32) (i : Nat) : Prop := (∀ l, l < 4 → mI μ 90 0 l = nI (wNi P S i l)) ∧ ∀ l t, l < 4 → t < 4 → mI μ 91 0 (4 * l + t) = nI (leadNi P S i l t)
theorem wNi_s (P : Pl) (S : Nat → Int32) (i l : Nat) : wNi P S (i + 1) l = wNi P S i l + (if pLog P i = l then sW S i else 0) := rfl
theorem leadNi_s (P : Pl) (S : Nat → Int32) (i l t : Nat) : leadNi P S (i + 1) l t = leadNi P S i l t + (if pLog P i = l then ldT P S i t else 0) := rfl
theorem LeM.w {μ : Mem} {P : Pl} {S : Nat → Int32} {i : Nat} (h : LeM μ P S i) : ∀ l, l < 4 → mI (stI μ 90 0 (pLog P i) (nI (wNi P S i (pLog P i) + sW S i))) 90 0 l = nI (wNi P S (i + 1) l) := fun l hl => by
  rw [mI_stI, wNi_s]
  by_cases e : l = pLog P i
  · subst e; rw [if_pos ⟨rfl, rfl, rfl⟩, if_pos rfl]
  · rw [if_neg (fun z => e z.2.2), if_neg (fun z => e z.symm), h.1 l hl]; rfl
theorem m_fillsLeads_e {μ : Mem} {lv : Nat} {P : Pl} {S : Nat → Int32} (hk : PlOK P) (hS : StOK P S) (h : PlM μ lv P) (hr : RwM μ S) : ∃ μ', m_fillsLeads μ = some ((), μ') ∧ (∀ l, l < 4 → mI μ' 90 0 l = nI (wN P S l)) ∧ ∀ l t, l < 4 → t < 4 → mI μ' 91 0 (4 * l + t) = nI (leadN P S l t) := by
  have hk0 := hk
  obtain ⟨k1, k2, k3, k4, k5, -⟩ := hk
  have hl2 := h.l2
  -- the third loop
  have L3 : ∀ (μ : Mem), PlM μ lv P → RwM μ S → LeM μ P S 0 → ∃ μ', m_fillsLeads_L43 (nI 0) μ = some ((), μ') ∧ LeM μ' P S (pNo P) := by
    intro μ h hr h0
    refine fixN_up (fun i (self : Int32 → Mem → Option (Unit × Mem)) => ∀ μ, PlM μ lv P → RwM μ S → LeM μ P S i → ∃ μ', self (nI i) μ = some ((), μ') ∧ LeM μ' P S (pNo P)) (pNo P) ?_ ?_ 60000 0 (by omega) (by omega) μ h hr h0
    · intro i self hi ih μ h hr hl
      have h4 := k4 i hi
      have h5 := k5 i hi
      obtain ⟨hw1, hw2⟩ := hS.1 i hi
      have e1 := m_fromLog_e hk0 h hi
      have e2 := m_toWhere_e hk0 h hi
      have e3 := m_wideAt_e hr (show i < 12 by omega)
      have hw := hl.1 (pLog P i) (by omega)
      have hlw := hl.w
      unfold m_fillsLeads_B43
      simp (disch := omega) only [h.lv, inB_nI, cl_nI, h.no, nI_leF, ↓ob_eq e1, ↓ob_eq e2, ↓ob_eq e3, ↓mb_e, hw1, hw, nI_add, ↓reduceIte]
      generalize hμ1 : stI μ 90 0 (pLog P i) (nI (wNi P S i (pLog P i) + sW S i)) = μ1 at hlw ⊢
      have hP1 : PlM μ1 lv P := by rw [← hμ1]; exact h
      have hr1 : RwM μ1 S := by rw [← hμ1]; exact hr
      have hl1 : ∀ l t, l < 4 → t < 4 → mI μ1 91 0 (4 * l + t) = nI (leadNi P S i l t) := by rw [← hμ1]; exact hl.2
      -- what is added to the leads
      have fin : ∀ (μ2 : Mem), (∀ l, mI μ2 90 0 l = mI μ1 90 0 l) → (∀ l t, l < 4 → t < 4 → mI μ2 91 0 (4 * l + t) = nI (leadNi P S i l t + (if pLog P i = l then ldT P S i t else 0))) → LeM μ2 P S (i + 1) := fun μ2 q1 q2 => ⟨fun l hl => by rw [q1]; exact hlw l hl, fun l t hl ht => by rw [q2 l t hl ht]; rfl⟩
      rcases h5 with h5 | ⟨h5, h6⟩ | h5
      · have hlt := hl1 (pLog P i) (pTo P i) (by omega) (by omega)
        simp (disch := omega) only [nI_leF, pk_mul, nI_add, inB_nI, cl_nI, hlt, ↓reduceIte]
        refine ih _ hP1 hr1 (fin _ (fun _ => rfl) (fun l t hl ht => ?_))
        rw [mI_stI]
        have hld : ldT P S i t = if pTo P i = t then 4 * sW S i else 0 := by unfold ldT; rw [if_pos (show pTo P i < 10 by omega)]
        by_cases e : pLog P i = l ∧ pTo P i = t
        · rw [if_pos (by refine ⟨rfl, rfl, ?_⟩; omega), hld, if_pos e.1, if_pos e.2, e.1, e.2]
        · rw [if_neg (by intro z; apply e; omega), hl1 l t hl ht, hld]
          by_cases e2 : pLog P i = l
          · rw [if_pos e2, if_neg (fun z => e ⟨e2, z⟩)]; rfl
          · rw [if_neg e2]; rfl
      · obtain ⟨q1, q2, q3, -⟩ := hS.2.1 (pTo P i - 10) (by omega)
        have r1 := hr1 (pTo P i - 10) (by omega)
        have r2 := hr1 (pTo P i - 4) (by omega)
        rw [show pTo P i - 4 = 6 + (pTo P i - 10) by omega, q1] at r2
        rcases q3 with ⟨q3, q4⟩ | ⟨q3, q4⟩
        · have hneg : ((-2 : Int32) < nI 0) = True := eq_true (by decide)
          simp (disch := omega) only [nI_leF, nI_leT, pk_sub, inB_nI, cl_nI, r1, q3, hneg, ↓reduceIte]
          refine ih _ hP1 hr1 (fin _ (fun _ => rfl) (fun l t hl ht => ?_))
          rw [hl1 l t hl ht]
          have hld : ldT P S i t = 0 := by
            unfold ldT
            rw [if_neg (by omega), if_pos (by omega), q4]
            split <;> rfl
          rw [hld]; split <;> rfl
        · have hlt := hl1 (pLog P i) (sD S (pTo P i - 10)) (by omega) (by omega)
          simp (disch := omega) only [nI_leF, nI_leT, pk_sub, inB_nI, cl_nI, r1, q3, nI_ltF, pk_mul, nI_add, hlt, r2, show pTo P i - 4 = 6 + (pTo P i - 10) by omega, ↓reduceIte]
          refine ih _ hP1 hr1 (fin _ (fun _ => rfl) (fun l t hl ht => ?_))
          rw [mI_stI]
          have hld : ldT P S i t = if sD S (pTo P i - 10) = t then sW S i * sQ S (pTo P i - 10) else 0 := by
            unfold ldT
            rw [if_neg (by omega), if_pos (by omega), q3]
            by_cases e : sD S (pTo P i - 10) = t
            · rw [if_pos ⟨ht, by rw [e]⟩, if_pos e]
            · rw [if_neg (fun z => e ((nI_eq (by omega) (by omega)).mp z.2)), if_neg e]
          by_cases e : pLog P i = l ∧ sD S (pTo P i - 10) = t
          · rw [if_pos (by refine ⟨rfl, rfl, ?_⟩; omega), hld, if_pos e.1, if_pos e.2, e.1, e.2]
          · rw [if_neg (by intro z; apply e; omega), hl1 l t hl ht, hld]
            by_cases e2 : pLog P i = l
            · rw [if_pos e2, if_neg (fun z => e ⟨e2, z⟩)]; rfl
            · rw [if_neg e2]; rfl
      · simp (disch := omega) only [h5, nI_leT, ↓reduceIte]
        refine ih _ hP1 hr1 (fin _ (fun _ => rfl) (fun l t hl ht => ?_))
        rw [hl1 l t hl ht]
        have hld : ldT P S i t = 0 := by
          unfold ldT
          rw [if_neg (by omega), if_neg (by omega)]
        rw [hld]; split <;> rfl
    · intro self μ h hr hl
      unfold m_fillsLeads_B43
      simp (disch := omega) only [h.lv, inB_nI, cl_nI, h.no, nI_leT, ↓reduceIte]
      exact ⟨μ, rfl, hl⟩
  -- the second loop
  have L2 : ∀ (μ : Mem), PlM μ lv P → RwM μ S → (∀ l, l < 4 → mI μ 90 0 l = nI 0) → ∃ μ', m_fillsLeads_L22 (fun μ => m_fillsLeads_L43 (nI 0) μ) (nI 0) μ = some ((), μ') ∧ LeM μ' P S (pNo P) := by
    intro μ h hr h0
    refine fixN_up (fun i (self : Int32 → Mem → Option (Unit × Mem)) => ∀ μ, PlM μ lv P → RwM μ S → (∀ l, l < 4 → mI μ 90 0 l = nI 0) → (∀ j, j < i → mI μ 91 0 j = nI 0) → ∃ μ', self (nI i) μ = some ((), μ') ∧ LeM μ' P S (pNo P)) 16 ?_ ?_ 60000 0 (by omega) (by omega) μ h hr h0 (fun j hj => by omega)
    · intro i self hi ih μ h hr h0 hz
      unfold m_fillsLeads_B22
      simp (disch := omega) only [inB_nI, cl_nI, nI_leF, nI_add, ↓reduceIte]
      refine ih _ h hr h0 (fun j hj => ?_)
      rw [mI_stI]
      by_cases e : j = i
      · rw [if_pos ⟨rfl, rfl, e⟩]
      · rw [if_neg (fun z => e z.2.2)]; exact hz j (by omega)
    · intro self μ h hr h0 hz
      unfold m_fillsLeads_B22
      simp (disch := omega) only [nI_leT, ↓reduceIte]
      exact L3 μ h hr ⟨fun l hl => h0 l hl, fun l t hl ht => hz _ (by omega)⟩
  unfold m_fillsLeads
  have L1 : ∃ μ', m_fillsLeads_L2 (fun μ6 => m_fillsLeads_L22 (fun μ15 => m_fillsLeads_L43 (nI 0) μ15) (nI 0) μ6) (nI 0) μ = some ((), μ') ∧ LeM μ' P S (pNo P) := by
    refine fixN_up (fun i (self : Int32 → Mem → Option (Unit × Mem)) => ∀ μ, PlM μ lv P → RwM μ S → (∀ j, j < i → mI μ 90 0 j = nI 0) → ∃ μ', self (nI i) μ = some ((), μ') ∧ LeM μ' P S (pNo P)) 4 ?_ ?_ 60000 0 (by omega) (by omega) μ h hr (fun j hj => by omega)
    · intro i self hi ih μ h hr hz
      unfold m_fillsLeads_B2
      simp (disch := omega) only [inB_nI, cl_nI, nI_leF, nI_add, ↓reduceIte]
      refine ih _ h hr (fun j hj => ?_)
      rw [mI_stI]
      by_cases e : j = i
      · rw [if_pos ⟨rfl, rfl, e⟩]
      · rw [if_neg (fun z => e z.2.2)]; exact hz j (by omega)
    · intro self μ h hr hz
      unfold m_fillsLeads_B2
      simp (disch := omega) only [nI_leT, ↓reduceIte]
      exact L2 μ h hr (fun l hl => hz l hl)
  obtain ⟨μ', e, hl⟩ := L1
  exact ⟨μ', e, hl.1, hl.2⟩

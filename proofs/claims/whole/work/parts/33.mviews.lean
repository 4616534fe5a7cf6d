/-! the reference's views -/
def MoW (μ : Mem) (lv : Nat) (P : Pl) (S : Nat → Int32) : Prop := PlM μ lv P ∧ LaM μ lv P ∧ RwM μ S
theorem MoW.pl {μ : Mem} {lv : Nat} {P : Pl} {S : Nat → Int32} (h : MoW μ lv P S) : PlM μ lv P := h.1
theorem MoW.la {μ : Mem} {lv : Nat} {P : Pl} {S : Nat → Int32} (h : MoW μ lv P S) : LaM μ lv P := h.2.1
theorem MoW.rw {μ : Mem} {lv : Nat} {P : Pl} {S : Nat → Int32} (h : MoW μ lv P S) : RwM μ S := h.2.2
theorem offR_s {R Q : List Nat} {T : List At} (o : offR Q T = true) (hR : R.all (fun r => Q.contains r) = true) : offR R T = true := by
  unfold offR at o ⊢
  rw [List.all_eq_true] at o ⊢ hR
  intro a ha
  have := o a ha
  cases e : R.contains a.1
  · rfl
  · have h2 := hR a.1 (by simpa using e)
    rw [h2] at this; cases this
theorem MoW.fo {μ μ' : Mem} {lv : Nat} {P : Pl} {S : Nat → Int32} {T : List At} (h : MoW μ lv P S) (g : Fr T μ μ') (o : offR [65, 66, 67, 70, 71, 72, 75, 76, 77, 78, 79, 80, 81, 82, 83, 84, 89] T = true) (o55 : inT T 55 0 18 = false) : MoW μ' lv P S := ⟨h.pl.fr g (offR_s o rfl) o55, h.la.fo g (offR_s o rfl), h.rw.fr g (offR_s o rfl)⟩
theorem WaM.fo {μ μ' : Mem} {P : Pl} {S : Nat → Int32} {T : List At} (h : WaM μ P S) (g : Fr T μ μ') (o : offR [90, 92] T = true) (o56 : inT T 55 0 56 = false) (o57 : inT T 55 0 57 = false) : WaM μ' P S := ⟨(g.I o56).trans h.1, (g.L o57).trans h.2.1, fun l hl => (g.L (offR_f o rfl _ _)).trans (h.2.2.1 l hl), fun h0 l hl => (g.I (offR_f o rfl _ _)).trans (h.2.2.2 h0 l hl)⟩
theorem m_widthsTo_e {μ : Mem} {lv : Nat} {P : Pl} {S : Nat → Int32} (hk : PlOK P) (h : PlM μ lv P) (hr : RwM μ S) {f : Nat} (hf : f < 6) : m_widthsTo (nI f) μ = some (wTo P S f, μ) := by
  have hk0 := hk
  obtain ⟨k1, k2, k3, k4, k5, -⟩ := hk
  have hl2 := h.l2
  refine fixN_up (fun i (self : Int32 → Int32 → Mem → Option (Int32 × Mem)) => self (sumI i (fun n => if pTo P n = 10 + f then S (18 + n) else nI 0)) (nI i) μ = some (wTo P S f, μ)) (pNo P) ?_ ?_ 60000 0 (by omega) (by omega)
  · intro i self hi ih
    have h5 := k5 i hi
    have hto : pTo P i < 2147483648 := by omega
    have e2 := m_toWhere_e hk0 h hi
    have e3 := m_wideAt_e hr (show i < 12 by omega)
    rw [sumI_s] at ih
    unfold m_widthsTo_B4
    by_cases e : pTo P i = 10 + f
    · rw [if_pos e] at ih
      rw [e] at e2
      simp (disch := omega) only [h.lv, inB_nI, cl_nI, h.no, nI_leF, ↓ob_eq e2, ↓ob_eq e3, nI_add, ↓reduceIte]
      exact ih
    · rw [if_neg e, add_z] at ih
      simp (disch := omega) only [h.lv, inB_nI, cl_nI, h.no, nI_leF, ↓ob_eq e2, nI_add, nI_eqF, ↓reduceIte]
      exact ih
  · intro self
    unfold m_widthsTo_B4
    simp (disch := omega) only [h.lv, inB_nI, cl_nI, h.no, nI_leT, ↓reduceIte]
    rfl
theorem m_fieldOver_e {μ : Mem} {lv : Nat} {P : Pl} {S : Nat → Int32} (hk : PlOK P) (hS : StOK P S) (h : PlM μ lv P) (hr : RwM μ S) (hw : WaM μ P S) {f : Nat} (hf : f < 6) : m_fieldOver (nI f) μ = some (oL (fldO P S f), μ) := by
  have hk0 := hk
  obtain ⟨k1, k2, k3, k4, k5, -⟩ := hk
  have hl2 := h.l2
  refine fixN_up (fun i (self : Int64 → Int32 → Mem → Option (Int64 × Mem)) => self (oL (sumZ i (fun n => if pTo P n = 10 + f then ((4 * sW S n : Nat) : Int) * wOv P S (pLog P n) else 0))) (nI i) μ = some (oL (fldO P S f), μ)) (pNo P) ?_ ?_ 60000 0 (by omega) (by omega)
  · intro i self hi ih
    have h4 := k4 i hi
    have h5 := k5 i hi
    have hto : pTo P i < 2147483648 := by omega
    obtain ⟨w1, w2⟩ := hS.1 i hi
    have e1 := m_fromLog_e hk0 h hi
    have e2 := m_toWhere_e hk0 h hi
    have e3 := m_wideAt_e hr (show i < 12 by omega)
    rw [w1] at e3
    rw [sumZ_s] at ih
    unfold m_fieldOver_B5
    by_cases e : pTo P i = 10 + f
    · rw [if_pos e] at ih
      rw [e] at e2
      simp (disch := omega) only [h.lv, inB_nI, cl_nI, h.no, nI_leF, ↓ob_eq e2, ↓ob_eq e3, ↓ob_eq e1, hw.ov, pk_mul, oL_nI, oL_mul, oL_add, ↓vb_e, nI_add, ↓reduceIte]
      exact ih
    · rw [if_neg e, Int.add_zero] at ih
      simp (disch := omega) only [h.lv, inB_nI, cl_nI, h.no, nI_leF, ↓ob_eq e2, nI_add, nI_eqF, ↓reduceIte]
      exact ih
  · intro self
    unfold m_fieldOver_B5
    simp (disch := omega) only [h.lv, inB_nI, cl_nI, h.no, nI_leT, ↓reduceIte]
    rfl
theorem m_flowOf_e {μ : Mem} {lv : Nat} {P : Pl} {S : Nat → Int32} (hk : PlOK P) (hS : StOK P S) (h : PlM μ lv P) (hr : RwM μ S) (hw : WaM μ P S) {f : Nat} (hf : f < 6) : m_flowOf (nI f) μ = some (flow P S f, μ) := by
  have hU := wUn_pos hk hS
  have hUz : ¬ oL (wUn P S) = 0 := oL_ne (by omega) (by omega) (by omega)
  have e1 := m_fieldOver_e hk hS h hr hw hf
  have h56 := hw.fl
  unfold m_flowOf flow
  by_cases c : wFl P S
  · rw [show flI P S = nI 1 from ifP_t c] at h56
    rw [ifP_t c]
    simp only [h56, nI_10, ↓reduceIte]
  · rw [show flI P S = nI 0 from ifP_f c] at h56
    rw [ifP_f c]
    simp only [h56, ↓ob_eq e1, hw.un, hUz, not_false_eq_true, ↓reduceIte]
theorem m_views_e {μ : Mem} {lv : Nat} {P : Pl} {S : Nat → Int32} (h : PlM μ lv P) (hr : RwM μ S) (x y : Int32) : ∃ μ', m_views x y μ = some ((), μ') ∧ mI μ' 86 0 0 = nI 0 ∧ mI μ' 86 0 1 = nI 0 ∧ mI μ' 86 0 2 = y ∧ mI μ' 86 0 3 = nI 0 ∧ mI μ' 86 0 4 = S 31 ∧ mI μ' 86 0 5 = x ∧ mI μ' 86 0 6 = nI 0 ∧ mI μ' 86 0 7 = nI (pLg P) ∧ mI μ' 86 0 8 = nI (pFd P) := by
  have hl2 := h.l2
  unfold m_views
  have q31 := hr 31 (by decide)
  simp (disch := omega) only [↓mb_e, mI_stI, Nat.reduceEqDiff, false_and, and_false, and_self, and_true, true_and, h.lv, h.lg, h.fd, q31, inB_nI, cl_nI, ↓reduceIte]
  refine ⟨_, rfl, ?_, ?_, ?_, ?_, ?_, ?_, ?_, ?_, ?_⟩ <;> simp [mI_stI]
theorem m_within_e {m : Nat} (x : Int32) (μ : Mem) : m_within x (nI 0) (nI m) μ = some (held (nI m) x, μ) := by
  unfold m_within held
  split
  · split <;> rfl
  · rfl
theorem m_viewsField_e {μ : Mem} {lv : Nat} {P : Pl} {S : Nat → Int32} (hk : PlOK P) (hS : StOK P S) (h : PlM μ lv P) (hr : RwM μ S) (hw : WaM μ P S) {f : Nat} (hf : f < pFd P) : ∃ μ', m_viewsField (nI f) μ = some ((), μ') ∧ ∀ j, j < 9 → mI μ' 86 0 j = fV P S f j := by
  have k2 := hk.2.1
  have hl2 := h.l2
  have e1 := m_widthsTo_e hk h hr (show f < 6 by omega)
  obtain ⟨μ2, e2, v0, v1, v2, v3, v4, v5, v6, v7, v8⟩ := m_views_e h hr (nI f) (wTo P S f)
  have g2 := f_m_views e2
  have P2 : PlM μ2 lv P := h.fr g2 rfl rfl
  have R2 : RwM μ2 S := hr.fr g2 rfl
  have W2 : WaM μ2 P S := hw.fo g2 rfl rfl rfl
  have e3 := m_flowOf_e hk hS P2 R2 W2 (show f < 6 by omega)
  unfold m_viewsField
  have q12 := R2 (12 + f) (by omega)
  have q6 := R2 (6 + f) (by omega)
  have qar := P2.ar hf
  simp (disch := omega) only [↓ob_eq e1, ↓ob_eq e2, ↓ob_eq e3, ↓mb_e, mI_stI, Nat.reduceEqDiff, false_and, and_false, P2.lv, pk_mul, nI_add, inB_nI, cl_nI, qar, q12, q6, ↓reduceIte]
  refine ⟨_, rfl, fun j hj => ?_⟩
  rcases (show j = 0 ∨ j = 1 ∨ j = 2 ∨ j = 3 ∨ j = 4 ∨ j = 5 ∨ j = 6 ∨ j = 7 ∨ j = 8 by omega) with rfl | rfl | rfl | rfl | rfl | rfl | rfl | rfl | rfl <;> simp [mI_stI, fV, v0, v1, v2, v3, v4, v5, v6, v7, v8]
theorem m_needsOf_e {μ : Mem} {lv : Nat} {P : Pl} {S : Nat → Int32} (hk : PlOK P) (hS : StOK P S) (h : MoW μ lv P S) (hw : WaM μ P S) {f : Nat} (hf : f < pFd P) : ∃ μ', m_needsOf (nI f) μ = some (needs P S f, μ') := by
  obtain ⟨μ1, e1, v1⟩ := m_viewsField_e hk hS h.pl h.rw hw hf
  have M1 := h.fo (f_m_viewsField e1) rfl rfl
  obtain ⟨μ2, e2⟩ := m_lawTells_e (k := 0) hk M1.pl M1.la (by decide) rfl
  rw [lawV_v v1 (hk.2.2.2.2.2 0)] at e2
  have e2' : m_lawTells (nI 0) (mI μ1 86 0 1) μ1 = some (lawV (pLaw P 0) (fV P S f), μ2) := e2
  exact ⟨μ2, by unfold m_needsOf; simp only [↓ob_eq e1, ↓ob_eq e2', ↓ob_eq (m_within_e (m := 9999) _ μ2)]; rfl⟩
theorem m_worthOf_e {μ : Mem} {lv : Nat} {P : Pl} {S : Nat → Int32} (hk : PlOK P) (hS : StOK P S) (h : MoW μ lv P S) (hw : WaM μ P S) {f : Nat} (hf : f < pFd P) : ∃ μ', m_worthOf (nI f) μ = some (worth P S f, μ') := by
  obtain ⟨μ1, e1, v1⟩ := m_viewsField_e hk hS h.pl h.rw hw hf
  have M1 := h.fo (f_m_viewsField e1) rfl rfl
  obtain ⟨μ2, e2⟩ := m_lawTells_e (k := 1) hk M1.pl M1.la (by decide) rfl
  rw [lawV_v v1 (hk.2.2.2.2.2 1)] at e2
  have e2' : m_lawTells (nI 1) (mI μ1 86 0 0) μ1 = some (lawV (pLaw P 1) (fV P S f), μ2) := e2
  exact ⟨μ2, by unfold m_worthOf; simp only [↓ob_eq e1, ↓ob_eq e2', ↓ob_eq (m_within_e (m := 99) _ μ2)]; rfl⟩
theorem nV_of {μ : Mem} {P : Pl} {S : Nat → Int32} {n : Nat} (v0 : mI μ 86 0 0 = nI 0) (v1 : mI μ 86 0 1 = nI 0) (v2 : mI μ 86 0 2 = S (18 + n)) (v3 : mI μ 86 0 3 = nI 0) (v4 : mI μ 86 0 4 = S 31) (v5 : mI μ 86 0 5 = nI n) (v6 : mI μ 86 0 6 = nI 0) (v7 : mI μ 86 0 7 = nI (pLg P)) (v8 : mI μ 86 0 8 = nI (pFd P)) : ∀ j, j < 9 → mI μ 86 0 j = nV P S n j := fun j hj => by
  rcases (show j = 0 ∨ j = 1 ∨ j = 2 ∨ j = 3 ∨ j = 4 ∨ j = 5 ∨ j = 6 ∨ j = 7 ∨ j = 8 by omega) with rfl | rfl | rfl | rfl | rfl | rfl | rfl | rfl | rfl <;> simp [nV, v0, v1, v2, v3, v4, v5, v6, v7, v8]
theorem m_costsOf_e {μ : Mem} {lv : Nat} {P : Pl} {S : Nat → Int32} (hk : PlOK P) (h : MoW μ lv P S) {n : Nat} (hn : n < pNo P) : ∃ μ', m_costsOf (nI n) μ = some (costs P S n, μ') := by
  have k3 := hk.2.2.1
  have e0 := m_wideAt_e h.rw (show n < 12 by omega)
  obtain ⟨μ1, e1, v0, v1, v2, v3, v4, v5, v6, v7, v8⟩ := m_views_e h.pl h.rw (nI n) (S (18 + n))
  have M1 := h.fo (f_m_views e1) rfl rfl
  obtain ⟨μ2, e2⟩ := m_lawTells_e (k := 2) hk M1.pl M1.la (by decide) rfl
  rw [lawV_v (nV_of v0 v1 v2 v3 v4 v5 v6 v7 v8) (hk.2.2.2.2.2 2)] at e2
  have e2' : m_lawTells (nI 2) (nI 1) μ1 = some (lawV (pLaw P 2) (nV P S n), μ2) := e2
  exact ⟨μ2, by unfold m_costsOf; simp only [↓ob_eq e0, ↓ob_eq e1, ↓ob_eq e2', ↓ob_eq (m_within_e (m := 99) _ μ2)]; rfl⟩
theorem m_siltsOf_e {μ : Mem} {lv : Nat} {P : Pl} {S : Nat → Int32} (hk : PlOK P) (h : MoW μ lv P S) {n : Nat} (hn : n < pNo P) : ∃ μ', m_siltsOf (nI n) μ = some (silts P S n, μ') := by
  have k3 := hk.2.2.1
  have e0 := m_wideAt_e h.rw (show n < 12 by omega)
  obtain ⟨μ1, e1, v0, v1, v2, v3, v4, v5, v6, v7, v8⟩ := m_views_e h.pl h.rw (nI n) (S (18 + n))
  have M1 := h.fo (f_m_views e1) rfl rfl
  obtain ⟨μ2, e2⟩ := m_lawTells_e (k := 3) hk M1.pl M1.la (by decide) rfl
  rw [lawV_v (nV_of v0 v1 v2 v3 v4 v5 v6 v7 v8) (hk.2.2.2.2.2 3)] at e2
  have e2' : m_lawTells (nI 3) (nI 0) μ1 = some (lawV (pLaw P 3) (nV P S n), μ2) := e2
  exact ⟨μ2, by unfold m_siltsOf; simp only [↓ob_eq e0, ↓ob_eq e1, ↓ob_eq e2', ↓ob_eq (m_within_e (m := 100) _ μ2)]; rfl⟩
theorem m_isLacking_e {μ : Mem} {lv : Nat} {P : Pl} {S : Nat → Int32} (hk : PlOK P) (hS : StOK P S) (h : MoW μ lv P S) (hw : WaM μ P S) {f : Nat} (hf : f < pFd P) : ∃ μ', m_isLacking (nI f) μ = some (b01I (lack P S f), μ') := by
  have k2 := hk.2.1
  have e1 := m_flowOf_e hk hS h.pl h.rw hw (show f < 6 by omega)
  obtain ⟨μ2, e2⟩ := m_needsOf_e hk hS h hw hf
  refine ⟨μ2, ?_⟩
  unfold m_isLacking
  simp only [↓ob_eq e1, ↓ob_eq e2]
  unfold lack b01I
  by_cases c : flow P S f < needs P S f
  · rw [decide_eq_true c, if_neg (Int32.not_le.mpr c)]; rfl
  · rw [decide_eq_false c, if_pos (Int32.not_lt.mp c)]; rfl
theorem m_lackingBits_e {μ : Mem} {lv : Nat} {P : Pl} {S : Nat → Int32} (hk : PlOK P) (hS : StOK P S) (h : MoW μ lv P S) (hw : WaM μ P S) : ∃ μ', m_lackingBits μ = some (bitI (pFd P) (lack P S), μ') := by
  have k2 := hk.2.1
  refine fixN_up (fun i (self : Int32 → Int32 → Mem → Option (Int32 × Mem)) => ∀ μ, MoW μ lv P S → WaM μ P S → ∃ μ', self (bitI i (lack P S)) (nI i) μ = some (bitI (pFd P) (lack P S), μ')) (pFd P) ?_ ?_ 60000 0 (by omega) (by omega) μ h hw
  · intro i self hi ih μ h hw
    have hl2 := h.pl.l2
    obtain ⟨μ1, e1⟩ := m_isLacking_e hk hS h hw hi
    have g1 := f_m_isLacking e1
    have ih1 := ih μ1 (h.fo g1 rfl rfl) (hw.fo g1 rfl rfl rfl)
    rw [bitI_s] at ih1
    unfold m_lackingBits_B4
    by_cases c : lack P S i = true
    · rw [b01I_t c] at e1
      rw [if_pos c] at ih1
      simp (disch := omega) only [h.pl.lv, inB_nI, cl_nI, h.pl.fd, nI_leF, ↓ob_eq e1, nI_10, nI_add, ↓reduceIte]
      exact ih1
    · rw [b01I_f c] at e1
      rw [if_neg c] at ih1
      simp (disch := omega) only [h.pl.lv, inB_nI, cl_nI, h.pl.fd, nI_leF, ↓ob_eq e1, nI_add, ↓reduceIte]
      exact ih1
  · intro self μ h hw
    have hl2 := h.pl.l2
    unfold m_lackingBits_B4
    simp (disch := omega) only [h.pl.lv, inB_nI, cl_nI, h.pl.fd, nI_leT, ↓reduceIte]
    exact ⟨μ, rfl⟩
theorem inB_cases (x : Int32) {n : Nat} (hn : n < 2147483648) : (inB x n = true ∧ ∃ j, j < n ∧ x = nI j) ∨ (inB x n = false ∧ (x < 0 ∨ nI n ≤ x)) := by
  rcases pk_ix x (show n < 2 ^ 31 from hn) with h | h | ⟨j, hj, e⟩
  · refine Or.inr ⟨?_, Or.inl h⟩
    unfold inB
    rw [decide_eq_false (Int32.not_le.mpr h)]; rfl
  · refine Or.inr ⟨?_, Or.inr h⟩
    cases e : inB x n with
    | false => rfl
    | true =>
      obtain ⟨j, hj, e2⟩ := vp_in_of (show vp_in x n by
        unfold inB at e
        rw [Bool.and_eq_true, decide_eq_true_eq, decide_eq_true_eq] at e
        intro z
        rcases z with z | z
        · exact absurd z (Int32.not_lt.mpr e.1)
        · exact absurd e.2 (Nat.not_lt.mpr z)) (show n < 2 ^ 31 from hn)
      subst e2
      exact absurd h (nI_ge hj hn)
  · exact Or.inl ⟨by rw [e]; exact inB_nI hj hn, j, hj, e⟩
theorem m_in_e (x : Int32) {n : Nat} (hn : n < 1000) (μ : Mem) : m_in x (nI 0) (nI n - nI 1) μ = some (b01I (inB x n), μ) := by
  have ht : (nI n - nI 1).toInt = (n : Int) - 1 := by
    have := pk_sub_toInt (a := n) (b := 1) (by omega) (by omega)
    omega
  unfold m_in b01I
  rcases inB_cases x (show n < 2147483648 by omega) with ⟨h, j, hj, e⟩ | ⟨h, h2⟩
  · subst e
    have c1 : ¬ nI j < nI 0 := nI_nlt (Nat.zero_le _) (by omega)
    have c2 : ¬ (nI n - nI 1) < nI j := by
      rw [Int32.lt_iff_toInt_lt, ht, nI_toInt (by omega)]
      omega
    rw [if_neg c1, if_neg c2, h]; rfl
  · rw [h]
    rcases h2 with h2 | h2
    · rw [if_pos (show x < nI 0 from h2)]; rfl
    · have c2 : (nI n - nI 1) < x := by
        rw [Int32.lt_iff_toInt_lt, ht]
        have := Int32.le_iff_toInt_le.mp h2
        rw [nI_toInt (by omega)] at this
        omega
      by_cases c1 : x < nI 0
      · rw [if_pos c1]; rfl
      · rw [if_neg c1, if_pos c2]; rfl
theorem b01I_or (b : Bool) : (b01I b = nI 0 ∨ b01I b = nI 1) = True := eq_true (by cases b; exact Or.inl rfl; exact Or.inr rfl)
theorem m_isField_e {μ : Mem} {lv : Nat} {P : Pl} (hk : PlOK P) (h : PlM μ lv P) (x : Int32) : m_isField x μ = some (b01I (inB x (pFd P)), μ) := by
  have hl2 := h.l2
  have k2 := hk.2.1
  have e := m_in_e x (show pFd P < 1000 by omega) μ
  unfold m_isField
  simp (disch := omega) only [h.lv, inB_nI, cl_nI, h.fd, ↓ob_eq e, b01I_or, ↓reduceIte]
theorem m_isLog_e {μ : Mem} {lv : Nat} {P : Pl} (hk : PlOK P) (h : PlM μ lv P) (x : Int32) : m_isLog x μ = some (b01I (inB x (pLg P)), μ) := by
  have hl2 := h.l2
  have k2 := hk.1
  have e := m_in_e x (show pLg P < 1000 by omega) μ
  unfold m_isLog
  simp (disch := omega) only [h.lv, inB_nI, cl_nI, h.lg, ↓ob_eq e, b01I_or, ↓reduceIte]
theorem m_isNotch_e {μ : Mem} {lv : Nat} {P : Pl} (hk : PlOK P) (h : PlM μ lv P) (x : Int32) : m_isNotch x μ = some (b01I (inB x (pNo P)), μ) := by
  have hl2 := h.l2
  have k2 := hk.2.2.1
  have e := m_in_e x (show pNo P < 1000 by omega) μ
  unfold m_isNotch
  simp (disch := omega) only [h.lv, inB_nI, cl_nI, h.no, ↓ob_eq e, b01I_or, ↓reduceIte]
theorem m_canStep_e {μ : Mem} {lv : Nat} {P : Pl} {S : Nat → Int32} (hk : PlOK P) (hS : StOK P S) (h : PlM μ lv P) (hr : RwM μ S) {s : Nat} (hs : s < 1000) : m_canStep (nI s) μ = some (b01I (canS P S s), μ) := by
  have hl2 := h.l2
  have k3 := hk.2.2.1
  have e := m_in_e (nI s) (show 2 * pNo P < 1000 by omega) μ
  unfold m_canStep canS
  by_cases c : s < 2 * pNo P
  · rw [inB_nI c (by omega)] at e
    obtain ⟨w1, w2⟩ := hS.1 (s / 2) (by omega)
    have e3 := m_wideAt_e hr (show s / 2 < 12 by omega)
    rw [w1] at e3
    by_cases c2 : s % 2 = 1
    · by_cases c3 : sW S (s / 2) < 3
      · simp (disch := omega) only [h.lv, inB_nI, cl_nI, h.no, pk_mul, ↓ob_eq e, b01I, nI_10, nI_div2, nI_rem2, c2, ↓ob_eq e3, nI_leF, decide_eq_true c, decide_eq_true c3, Bool.and_self, ↓reduceIte]
      · simp (disch := omega) only [h.lv, inB_nI, cl_nI, h.no, pk_mul, ↓ob_eq e, b01I, nI_10, nI_div2, nI_rem2, c2, ↓ob_eq e3, nI_leT, decide_eq_true c, decide_eq_false c3, Bool.and_false, Bool.false_eq_true, ↓reduceIte]
    · by_cases c3 : 0 < sW S (s / 2)
      · simp (disch := omega) only [h.lv, inB_nI, cl_nI, h.no, pk_mul, ↓ob_eq e, b01I, nI_10, nI_div2, nI_rem2, c2, nI_eqF, ↓ob_eq e3, nI_leF, decide_eq_true c, decide_eq_true c3, Bool.and_self, ↓reduceIte]
      · simp (disch := omega) only [h.lv, inB_nI, cl_nI, h.no, pk_mul, ↓ob_eq e, b01I, nI_10, nI_div2, nI_rem2, c2, nI_eqF, ↓ob_eq e3, nI_leT, decide_eq_true c, decide_eq_false c3, Bool.and_false, Bool.false_eq_true, ↓reduceIte]
  · rw [inB_nIF (by omega) (by omega)] at e
    simp (disch := omega) only [h.lv, inB_nI, cl_nI, h.no, pk_mul, ↓ob_eq e, b01I, decide_eq_false c, Bool.false_and, Bool.false_eq_true, ↓reduceIte]
theorem m_steps_e {μ : Mem} {lv : Nat} {P : Pl} {S : Nat → Int32} (hk : PlOK P) (hS : StOK P S) (h : MoW μ lv P S) {s : Nat} (hc : canS P S s = true) : ∃ μ', m_steps (nI s) μ = some ((), μ') ∧ MoW μ' lv P (stS S s) := by
  have k3 := hk.2.2.1
  obtain ⟨c1, c2, c3⟩ := canS_t hc
  obtain ⟨w1, w2⟩ := hS.1 (s / 2) (by omega)
  have q := (h.rw (18 + s / 2) (by omega)).trans w1
  have fin : ∀ (v : Nat), v = (if s % 2 = 1 then sW S (s / 2) + 1 else sW S (s / 2) - 1) → MoW (stI μ 89 0 (18 + s / 2) (nI v)) lv P (stS S s) := fun v hv => by
    refine ⟨h.pl, h.la.fo (T := [(89, none, none)]) (Fr.stI (Fr.rf _ _) (iT 0 rfl inA_nn)) rfl, fun k hk => ?_⟩
    rw [mI_stI]
    by_cases e : k = 18 + s / 2
    · subst e; rw [if_pos ⟨rfl, rfl, rfl⟩, hv]; exact (up_s _ _ _).symm
    · rw [if_neg (fun z => e z.2.2), h.rw k hk]; exact (up_n _ _ e).symm
  unfold m_steps
  by_cases z : s % 2 = 1
  · simp (disch := omega) only [nI_div2, nI_rem2, nI_add, inB_nI, cl_nI, z, q, ↓mb_e, ↓reduceIte]
    exact ⟨_, rfl, fin _ (by rw [if_pos z])⟩
  · have := c3 z
    simp (disch := omega) only [nI_div2, nI_rem2, nI_add, inB_nI, cl_nI, z, nI_eqF, q, nI_m1, ↓mb_e, ↓reduceIte]
    exact ⟨_, rfl, fin _ (by rw [if_neg z])⟩
theorem m_canBits_e {μ : Mem} {lv : Nat} {P : Pl} {S : Nat → Int32} (hk : PlOK P) (hS : StOK P S) (h : PlM μ lv P) (hr : RwM μ S) : m_canBits μ = some (bitI 24 (canS P S), μ) := by
  refine fixN_up (fun i (self : Int32 → Int32 → Mem → Option (Int32 × Mem)) => self (bitI i (canS P S)) (nI i) μ = some (bitI 24 (canS P S), μ)) 24 ?_ ?_ 60000 0 (by omega) (by omega)
  · intro i self hi ih
    have e1 := m_canStep_e hk hS h hr (show i < 1000 by omega)
    rw [bitI_s] at ih
    unfold m_canBits_B4
    by_cases c : canS P S i = true
    · rw [b01I_t c] at e1
      rw [if_pos c] at ih
      simp (disch := omega) only [nI_leF, ↓ob_eq e1, nI_10, nI_add, ↓reduceIte]
      exact ih
    · rw [b01I_f c] at e1
      rw [if_neg c] at ih
      simp (disch := omega) only [nI_leF, ↓ob_eq e1, nI_add, ↓reduceIte]
      exact ih
  · intro self
    unfold m_canBits_B4
    simp (disch := omega) only [nI_leT, ↓reduceIte]

/-! log, field, notch: both sides against one answer -/
noncomputable def frA (P : Pl) (S : Nat → Int32) (a : Int) (what : Nat) : Int32 := ifP (wFl P S) (nI 0) (if what = 0 then frO a.toNat (wUn P S).toNat else frU a.toNat (wUn P S).toNat)
def nofl (P : Pl) (l : Nat) : Int32 := bitI (pNo P) (fun n => decide (pLog P n = l))
noncomputable def qLog (P : Pl) (S : Nat → Int32) (x y : Int32) : Int32 :=
  if inB x (pLg P) = true then
    (if y = nI 0 then frA P S (logO P S (cl x)) 0 else if y = nI 1 then frA P S (logO P S (cl x)) 1 else if y = nI 2 then nI (wN P S (cl x)) else if y = nI 3 then nofl P (cl x) else -1)
  else -1
theorem wFl_off {P : Pl} {S : Nat → Int32} (h : wFl P S) : ¬ (0 < pLg P ∧ ¬ Fl P S) := fun z => z.2 h.2
theorem fld_fl {P : Pl} {S : Nat → Int32} (h : wFl P S) (f : Nat) : fldO P S f = 0 := fldO_off (wFl_off h) f
theorem log_fl {P : Pl} {S : Nat → Int32} (h : wFl P S) (l : Nat) : logO P S l = 0 := by
  unfold logO
  rw [wOv_off (wFl_off h)]
  simp
theorem toNat_le {a : Int} {m : Nat} (h : a ≤ m) : a.toNat ≤ m := by omega
theorem s_over_a {μ : Mem} {P : Pl} {S : Nat → Int32} (hk : PlOK P) (hS : StOK P S) (hw : WaC μ 0 P S) {a : Int} (h0 : 0 ≤ a) (h1 : a ≤ 4000000000000000000) (hf : wFl P S → a = 0) : s_overInLeast (oL a) (mL μ 32 0 1) μ = some (frA P S a 0, μ) := by
  have e0 : oL a = oL ((a.toNat : Nat) : Int) := by rw [Int.toNat_of_nonneg h0]
  unfold frA
  rw [e0, hw.un]
  by_cases c : wFl P S
  · rw [ifP_t c, ifP_t c, hf c]
    have := s_overInLeast_e (a := 0) (b := 0) (by omega) (by omega) μ
    exact this
  · rw [ifP_f c, ifP_f c]
    have hb := wUn_pos hk hS
    have e1 : oL (wUn P S) = oL (((wUn P S).toNat : Nat) : Int) := by rw [Int.toNat_of_nonneg (by omega)]
    rw [e1, s_overInLeast_e (by omega) (by omega), if_pos rfl]
theorem s_under_a {μ : Mem} {P : Pl} {S : Nat → Int32} (hk : PlOK P) (hS : StOK P S) (hw : WaC μ 0 P S) {a : Int} (h0 : 0 ≤ a) (h1 : a ≤ 4000000000000000000) (hf : wFl P S → a = 0) : s_underInLeast (oL a) (mL μ 32 0 1) μ = some (frA P S a 1, μ) := by
  have e0 : oL a = oL ((a.toNat : Nat) : Int) := by rw [Int.toNat_of_nonneg h0]
  unfold frA
  rw [e0, hw.un]
  by_cases c : wFl P S
  · rw [ifP_t c, ifP_t c, hf c]
    have := s_underInLeast_e (a := 0) (b := 0) (by omega) (by omega) μ
    exact this
  · rw [ifP_f c, ifP_f c]
    have hb := wUn_pos hk hS
    have e1 : oL (wUn P S) = oL (((wUn P S).toNat : Nat) : Int) := by rw [Int.toNat_of_nonneg (by omega)]
    rw [e1, s_underInLeast_e (by omega) (by omega), if_neg (by omega)]
theorem m_term_a {μ : Mem} {P : Pl} {S : Nat → Int32} (hk : PlOK P) (hS : StOK P S) (hw : WaM μ P S) {a : Int} (h0 : 0 ≤ a) (h1 : a ≤ 4000000000000000000) (what : Nat) (hwh : what < 1000) : m_termOfTwo (oL a) (nI what) μ = some (frA P S a what, μ) := by
  have e0 : oL a = oL ((a.toNat : Nat) : Int) := by rw [Int.toNat_of_nonneg h0]
  rw [e0, m_termOfTwo_e hk hS hw (by omega) what hwh]
  rfl
theorem pl_notchesOf_e {μ : Mem} {p : Nat} {P : Pl} (hk : PlOK P) (h : PlC μ p P) (l : Nat) (hl : l < 4) : pl_notchesOf p (nI l) μ = some (nofl P l, μ) := by
  obtain ⟨k1, k2, k3, k4, k5, -⟩ := hk
  refine fixN_up (fun i (self : Int32 → Int32 → Mem → Option (Int32 × Mem)) => self (bitI i (fun n => decide (pLog P n = l))) (nI i) μ = some (nofl P l, μ)) (pNo P) ?_ ?_ 60000 0 (by omega) (by omega)
  · intro i self hi ih
    have h4 := k4 i hi
    rw [bitI_s] at ih
    unfold pl_notchesOf_B4
    by_cases e : pLog P i = l
    · rw [if_pos (decide_eq_true e)] at ih
      simp (disch := omega) only [h.no, nI_leF, inB_nI, cl_nI, h.lo hi, e, nI_add, ↓reduceIte]
      exact ih
    · rw [if_neg (by simpa using e)] at ih
      simp (disch := omega) only [h.no, nI_leF, inB_nI, cl_nI, h.lo hi, nI_eqF, nI_add, ↓reduceIte]
      exact ih
  · intro self
    unfold pl_notchesOf_B4
    simp (disch := omega) only [h.no, nI_leT, ↓reduceIte]
    rfl
theorem wBy_N {P : Pl} {S : Nat → Int32} (hS : StOK P S) (hn : pNo P ≤ 12) (l : Nat) : wBy P S l = nI (wN P S l) := by
  unfold wBy wN
  have : ∀ i, i ≤ pNo P → sumI i (fun n => if pLog P n = l then S (18 + n) else nI 0) = nI (sumN i (fun n => if pLog P n = l then sW S n else 0)) ∧ sumN i (fun n => if pLog P n = l then sW S n else 0) ≤ 3 * i := by
    intro i
    induction i with
    | zero => intro _; exact ⟨rfl, Nat.zero_le _⟩
    | succ i ih =>
      intro hi
      obtain ⟨a, b⟩ := ih (by omega)
      obtain ⟨w1, w2⟩ := hS.1 i (by omega)
      have es : sumN (i + 1) (fun n => if pLog P n = l then sW S n else 0) = sumN i (fun n => if pLog P n = l then sW S n else 0) + (if pLog P i = l then sW S i else 0) := rfl
      rw [sumI_s, a, es]
      split
      · rw [w1]
        exact ⟨nI_add _ _, by omega⟩
      · exact ⟨nI_add _ _, by omega⟩
  exact (this _ (Nat.le_refl _)).1
theorem s_log_e {μ : Mem} {p : Nat} {P : Pl} {S : Nat → Int32} (hk : PlOK P) (hS : StOK P S) (h : CCore μ p P S) (x y : Int32) : s_log x y μ = some (qLog P S x y, μ) := by
  have k1 := hk.1
  have hp2 := h.p2
  have e0 := s_isLog_e hk h x
  unfold s_log qLog
  rcases inB_cases x (show pLg P < 2147483648 by omega) with ⟨a, j, hj, e⟩ | ⟨a, b⟩
  · subst e
    rw [a] at e0
    have hlo := logO_bd hk hS (show j < 4 by omega)
    have e1 := s_over_a hk hS h.wa hlo.1 (by omega) (fun c => log_fl c j)
    have e2 := s_under_a hk hS h.wa hlo.1 (by omega) (fun c => log_fl c j)
    have e3 := wo_widthsOf_e hk h.wo (show j < 4 by omega)
    have e4 := pl_notchesOf_e hk h.wo.pl j (by omega)
    simp (disch := omega) only [↓ob_eq e0, b01I, nI_eqF, inB_nI, cl_nI, a, h.wa.lo hj, ↓ob_eq e1, ↓ob_eq e2, ↓ob_eq e3, h.pn, hp2, ↓ob_eq e4, wBy_N hS hk.2.2.1, ↓reduceIte]
    repeat (split; rfl)
    rfl
  · rw [a] at e0
    simp only [↓ob_eq e0, b01I, a, Bool.false_eq_true, ↓reduceIte]
theorem log_loop {μ : Mem} {lv : Nat} {P : Pl} (hk : PlOK P) (h : PlM μ lv P) {l : Nat} (hl : l < 4) : m_log_L84 (nI l) (nI 0) (nI 0) μ = some (nofl P l, μ) := by
  have hk0 := hk
  obtain ⟨k1, k2, k3, k4, k5, -⟩ := hk
  have hl2 := h.l2
  refine fixN_up (fun i (self : Int32 → Int32 → Mem → Option (Int32 × Mem)) => self (bitI i (fun n => decide (pLog P n = l))) (nI i) μ = some (nofl P l, μ)) (pNo P) ?_ ?_ 60000 0 (by omega) (by omega)
  · intro i self hi ih
    have h4 := k4 i hi
    have e1 := m_fromLog_e hk0 h hi
    rw [bitI_s] at ih
    unfold m_log_B84
    by_cases e : pLog P i = l
    · rw [if_pos (decide_eq_true e)] at ih
      rw [e] at e1
      simp (disch := omega) only [h.lv, h.no, nI_leF, inB_nI, cl_nI, ↓ob_eq e1, nI_add, ↓reduceIte]
      exact ih
    · rw [if_neg (by simpa using e)] at ih
      simp (disch := omega) only [h.lv, h.no, nI_leF, inB_nI, cl_nI, ↓ob_eq e1, nI_eqF, nI_add, ↓reduceIte]
      exact ih
  · intro self
    unfold m_log_B84
    simp (disch := omega) only [h.lv, h.no, inB_nI, cl_nI, nI_leT, ↓reduceIte]
    rfl
theorem m_logOver_e {μ : Mem} {P : Pl} {S : Nat → Int32} (hk : PlOK P) (hS : StOK P S) (hw : WaM μ P S) (h90 : ∀ l, l < 4 → mI μ 90 0 l = nI (wN P S l)) {l : Nat} (hl : l < 4) : m_logOver (nI l) μ = some (oL (logO P S l), μ) := by
  have hwn : wN P S l ≤ 36 := wN_le hk hS l
  have e92 := hw.2.2.1 l hl
  unfold m_logOver logO sp
  by_cases c : wN P S l = 0
  · simp (disch := omega) only [inB_nI, cl_nI, h90 l hl, c, e92, pk_mul, oL_nI, oL_mul, ↓reduceIte]
  · simp (disch := omega) only [inB_nI, cl_nI, h90 l hl, nI_eqF, c, e92, pk_mul, oL_nI, oL_mul, ↓reduceIte]
theorem m_log_e {μ : Mem} {lv : Nat} {P : Pl} {S : Nat → Int32} (hk : PlOK P) (hS : StOK P S) (h : MCore μ lv P S) (x y : Int32) : ∃ μ', m_log x y μ = some (qLog P S x y, μ') := by
  have k1 := hk.1
  have e0 := m_isLog_e hk h.pl x
  unfold m_log qLog
  rcases inB_cases x (show pLg P < 2147483648 by omega) with ⟨a, j, hj, e⟩ | ⟨a, b⟩
  · subst e
    rw [a] at e0
    have hlo := logO_bd hk hS (show j < 4 by omega)
    have hj4 : j < 4 := by omega
    obtain ⟨μ1, e1, A1, W1, -⟩ := m_copies_e hk hS h
    obtain ⟨μ2, e2, B2, -⟩ := m_fillsLeads_e hk hS A1.pl A1.rw
    have g2 := f_m_fillsLeads e2
    have A2 : MoW μ2 lv P S := A1.fo g2 rfl rfl
    have W2 : WaM μ2 P S := ⟨(g2.I rfl).trans W1.1, (g2.L rfl).trans W1.2.1, fun l hl => (g2.L rfl).trans (W1.2.2.1 l hl), fun _ l hl => B2 l hl⟩
    have e3 := m_logOver_e hk hS W2 B2 hj4
    have e4 := m_term_a hk hS W2 hlo.1 (by omega) 0 (by omega)
    have e5 := m_term_a hk hS W2 hlo.1 (by omega) 1 (by omega)
    have e6 := log_loop hk A2.pl hj4
    refine ⟨μ2, ?_⟩
    simp (disch := omega) only [↓ob_eq e0, b01I, nI_eqF, inB_nI, cl_nI, a, ↓ob_eq e1, ↓ob_eq e2, ↓ob_eq e3, ↓ob_eq e4, ↓ob_eq e5, B2 j hj4, e6, ↓reduceIte]
    repeat (split; rfl)
    rfl
  · rw [a] at e0
    refine ⟨μ, ?_⟩
    simp only [↓ob_eq e0, b01I, a, Bool.false_eq_true, ↓reduceIte]
noncomputable def qField (P : Pl) (S : Nat → Int32) (x y : Int32) : Int32 :=
  if inB x (pFd P) = true then
    (if y = nI 0 then frA P S (fldO P S (cl x)) 0 else if y = nI 1 then frA P S (fldO P S (cl x)) 1 else if y = nI 2 then flow P S (cl x) else if y = nI 3 then pArea P (cl x) else if y = nI 4 then needs P S (cl x) else if y = nI 5 then worth P S (cl x) else if y = nI 6 then S (12 + cl x) else if y = nI 7 then S (6 + cl x) else if y = nI 8 then S (cl x) else if y = nI 9 then wTo P S (cl x) else -1)
  else -1
theorem s_field_e {μ : Mem} {p : Nat} {P : Pl} {S : Nat → Int32} (hk : PlOK P) (hS : StOK P S) (h : CCore μ p P S) (x y : Int32) : ∃ μ', s_field x y μ = some (qField P S x y, μ') := by
  have k2 := hk.2.1
  have hp2 := h.p2
  have e0 := s_isField_e hk h x
  unfold s_field qField
  rcases inB_cases x (show pFd P < 2147483648 by omega) with ⟨a, j, hj, e⟩ | ⟨a, b⟩
  · subst e
    rw [a] at e0
    have hlo := fldO_bd hk hS j
    have e1 := s_over_a hk hS h.wa hlo.1 (by omega) (fun c => fld_fl c j)
    have e2 := s_under_a hk hS h.wa hlo.1 (by omega) (fun c => fld_fl c j)
    obtain ⟨μ3, e3⟩ := wo_needsOf_e hk h.wo h.wa hj
    obtain ⟨μ4, e4⟩ := wo_worthOf_e hk h.wo h.wa hj
    have e5 := wo_widthsTo_e h.wo.r hp2 hk h.wo.pl h.wo.st (show j < 6 by omega)
    have st := h.wo.st
    simp (maxSteps := 2000000) (disch := omega) only [↓ob_eq e0, b01I, nI_eqF, inB_nI, cl_nI, a, h.wa.fo hj, ↓ob_eq e1, ↓ob_eq e2, ↓ob_eq e3, ↓ob_eq e4, ↓ob_eq e5, h.pn, hp2, h.wa.fw hj, h.wo.pl.ar hj, st.dr hj, st.qu hj, st.gr hj, ↓reduceIte]
    repeat (split; exact ⟨_, rfl⟩)
    exact ⟨_, rfl⟩
  · rw [a] at e0
    refine ⟨μ, ?_⟩
    simp only [↓ob_eq e0, b01I, a, Bool.false_eq_true, ↓reduceIte]
theorem m_field_e {μ : Mem} {lv : Nat} {P : Pl} {S : Nat → Int32} (hk : PlOK P) (hS : StOK P S) (h : MCore μ lv P S) (x y : Int32) : ∃ μ', m_field x y μ = some (qField P S x y, μ') := by
  have k2 := hk.2.1
  have e0 := m_isField_e hk h.pl x
  unfold m_field qField
  rcases inB_cases x (show pFd P < 2147483648 by omega) with ⟨a, j, hj, e⟩ | ⟨a, b⟩
  · subst e
    rw [a] at e0
    have hlo := fldO_bd hk hS j
    obtain ⟨μ1, e1, A1, W1, -⟩ := m_copies_e hk hS h
    have hj6 : j < 6 := by omega
    have l2 := A1.pl.l2
    have e3 := m_fieldOver_e hk hS A1.pl A1.rw W1 hj6
    have e4 := m_term_a hk hS W1 hlo.1 (by omega) 0 (by omega)
    have e5 := m_term_a hk hS W1 hlo.1 (by omega) 1 (by omega)
    have e6 := m_flowOf_e hk hS A1.pl A1.rw W1 hj6
    obtain ⟨μ7, e7⟩ := m_needsOf_e hk hS A1 W1 hj
    obtain ⟨μ8, e8⟩ := m_worthOf_e hk hS A1 W1 hj
    have e9 := m_widthsTo_e hk A1.pl A1.rw hj6
    simp (maxSteps := 2000000) (disch := omega) only [↓ob_eq e0, b01I, nI_eqF, nI_add, pk_mul, inB_nI, cl_nI, a, A1.pl.lv, A1.pl.ar hj, A1.rw (12 + j) (by omega), A1.rw (6 + j) (by omega), A1.rw j (by omega), ↓ob_eq e1, ↓ob_eq e3, ↓ob_eq e4, ↓ob_eq e5, ↓ob_eq e6, ↓ob_eq e7, ↓ob_eq e8, ↓ob_eq e9, ↓reduceIte]
    repeat (split; exact ⟨_, rfl⟩)
    exact ⟨_, rfl⟩
  · rw [a] at e0
    refine ⟨μ, ?_⟩
    simp only [↓ob_eq e0, b01I, a, Bool.false_eq_true, ↓reduceIte]
noncomputable def qNotch (P : Pl) (S : Nat → Int32) (x y : Int32) : Int32 :=
  if inB x (pNo P) = true then
    (if y = nI 0 then nI (pLog P (cl x)) else if y = nI 1 then nI (pTo P (cl x)) else if y = nI 2 then S (18 + cl x) else if y = nI 3 then costs P S (cl x) else if y = nI 4 then silts P S (cl x) else -1)
  else -1
theorem s_notch_e {μ : Mem} {p : Nat} {P : Pl} {S : Nat → Int32} (hk : PlOK P) (hS : StOK P S) (h : CCore μ p P S) (x y : Int32) : ∃ μ', s_notch x y μ = some (qNotch P S x y, μ') := by
  have k3 := hk.2.2.1
  have hp2 := h.p2
  have e0 := s_isNotch_e hk h x
  unfold s_notch qNotch
  rcases inB_cases x (show pNo P < 2147483648 by omega) with ⟨a, j, hj, e⟩ | ⟨a, b⟩
  · subst e
    rw [a] at e0
    obtain ⟨μ3, e3⟩ := wo_costsOf_e hk h.wo hj
    obtain ⟨μ4, e4⟩ := wo_siltsOf_e hk h.wo hj
    have st := h.wo.st
    simp (disch := omega) only [↓ob_eq e0, b01I, nI_eqF, inB_nI, cl_nI, a, ↓ob_eq e3, ↓ob_eq e4, h.pn, hp2, h.wo.pl.lo hj, h.wo.pl.to hj, st.wi hj, ↓reduceIte]
    repeat (split; exact ⟨_, rfl⟩)
    exact ⟨_, rfl⟩
  · rw [a] at e0
    refine ⟨μ, ?_⟩
    simp only [↓ob_eq e0, b01I, a, Bool.false_eq_true, ↓reduceIte]
theorem m_notch_e {μ : Mem} {lv : Nat} {P : Pl} {S : Nat → Int32} (hk : PlOK P) (hS : StOK P S) (h : MCore μ lv P S) (x y : Int32) : ∃ μ', m_notch x y μ = some (qNotch P S x y, μ') := by
  have k3 := hk.2.2.1
  have e0 := m_isNotch_e hk h.pl x
  unfold m_notch qNotch
  rcases inB_cases x (show pNo P < 2147483648 by omega) with ⟨a, j, hj, e⟩ | ⟨a, b⟩
  · subst e
    rw [a] at e0
    obtain ⟨μ1, e1, A1, W1, -⟩ := m_copies_e hk hS h
    have e3 := m_fromLog_e hk A1.pl hj
    have e4 := m_toWhere_e hk A1.pl hj
    have e5 := m_wideAt_e A1.rw (show j < 12 by omega)
    obtain ⟨μ7, e7⟩ := m_costsOf_e hk A1 hj
    obtain ⟨μ8, e8⟩ := m_siltsOf_e hk A1 hj
    simp (disch := omega) only [↓ob_eq e0, b01I, nI_eqF, inB_nI, cl_nI, a, ↓ob_eq e1, ↓ob_eq e3, ↓ob_eq e4, ↓ob_eq e5, ↓ob_eq e7, ↓ob_eq e8, ↓reduceIte]
    repeat (split; exact ⟨_, rfl⟩)
    exact ⟨_, rfl⟩
  · rw [a] at e0
    refine ⟨μ, ?_⟩
    simp only [↓ob_eq e0, b01I, a, Bool.false_eq_true, ↓reduceIte]

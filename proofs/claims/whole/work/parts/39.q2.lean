/-! river, round, lacking, dry -/
theorem sumZ_add {n : Nat} {f g : Nat → Int} : sumZ n (fun i => f i + g i) = sumZ n f + sumZ n g := by
  induction n with
  | zero => rfl
  | succ n ih => rw [sumZ_s, sumZ_s, sumZ_s, ih]; omega
theorem sumZ_mul {n : Nat} {f : Nat → Int} (c : Int) : sumZ n (fun i => c * f i) = c * sumZ n f := by
  induction n with
  | zero => simp [sumZ]
  | succ n ih => rw [sumZ_s, sumZ_s, ih, Int.mul_add]
theorem sumZ_one {n j : Nat} (a : Int) (h : j < n) : sumZ n (fun l => if j = l then a else 0) = a := by
  induction n with
  | zero => omega
  | succ n ih =>
    rw [sumZ_s]
    by_cases e : j = n
    · subst e
      rw [if_pos rfl, sumZ_0 (fun i hi => if_neg (by omega))]
      omega
    · rw [if_neg e, ih (by omega)]
      omega
noncomputable def fld4 (P : Pl) (S : Nat → Int32) (f : Nat) : Int := sumZ (pNo P) (fun n => if pTo P n = 10 + f then ((sW S n : Nat) : Int) * wOv P S (pLog P n) else 0)
theorem fld4_e (P : Pl) (S : Nat → Int32) (f : Nat) : fldO P S f = 4 * fld4 P S f := by
  unfold fldO fld4
  rw [← sumZ_mul]
  refine sumZ_c (fun i hi => ?_)
  split
  · rw [Int.natCast_mul, Int.mul_assoc]; rfl
  · simp
noncomputable def qtO (P : Pl) (S : Nat → Int32) (c : Nat) : Int := sumZ (pFd P) (fun f => fld4 P S f * (((if c = 0 then sQ S f else c - sQ S f) : Nat) : Int))
theorem kpt_4 (P : Pl) (S : Nat → Int32) : kptO P S = 4 * qtO P S 4 := by
  unfold kptO qtO
  rw [← sumZ_mul]
  refine sumZ_c (fun i hi => ?_)
  rw [if_neg (by omega), fld4_e, Int.mul_comm, Int.mul_assoc]
theorem drn_4 (P : Pl) (S : Nat → Int32) : drnO P S = 4 * qtO P S 0 := by
  unfold drnO qtO
  rw [← sumZ_mul]
  refine sumZ_c (fun i hi => ?_)
  rw [if_pos rfl, fld4_e, Int.mul_comm, Int.mul_assoc]
theorem fld4_bd {P : Pl} {S : Nat → Int32} (hk : PlOK P) (hS : StOK P S) (f : Nat) : 0 ≤ fld4 P S f ∧ fld4 P S f ≤ 371504185344 := by
  have h := fldO_bd hk hS f
  rw [fld4_e] at h
  omega
theorem qtO_bd {P : Pl} {S : Nat → Int32} (hk : PlOK P) (hS : StOK P S) {c : Nat} (hc : c = 0 ∨ c = 4) : 0 ≤ qtO P S c ∧ qtO P S c ≤ 8916100448256 := by
  have k2 := hk.2.1
  obtain ⟨a, b⟩ := sumZ_bd (n := pFd P) (f := fun f => fld4 P S f * (((if c = 0 then sQ S f else c - sQ S f) : Nat) : Int)) (c := 1486016741376) (fun i hi => by
    have h1 := fld4_bd hk hS i
    have h2 := (hS.2.1 i hi).2.1
    have h3 : (if c = 0 then sQ S i else c - sQ S i) ≤ 4 := by split <;> omega
    have h4 := Int.mul_nonneg h1.1 (show (0 : Int) ≤ (((if c = 0 then sQ S i else c - sQ S i) : Nat) : Int) by omega)
    have h5 := Int.mul_le_mul h1.2 (show (((if c = 0 then sQ S i else c - sQ S i) : Nat) : Int) ≤ 4 by omega) (by omega) (by omega)
    exact ⟨h4, by omega⟩)
  have : ((pFd P : Nat) : Int) * 1486016741376 ≤ 6 * 1486016741376 := Int.mul_le_mul_of_nonneg_right (by omega) (by decide)
  exact ⟨a, by unfold qtO; omega⟩
theorem qtO_fl {P : Pl} {S : Nat → Int32} (h : wFl P S) (c : Nat) : qtO P S c = 0 := sumZ_0 (fun i _ => by
  have := fld_fl h i
  rw [fld4_e] at this
  rw [show fld4 P S i = 0 by omega]; simp)
theorem m_quartersOver_e {μ : Mem} {lv : Nat} {P : Pl} {S : Nat → Int32} (hk : PlOK P) (hS : StOK P S) (h : PlM μ lv P) (hr : RwM μ S) (hw : WaM μ P S) {c : Nat} (hc : c = 0 ∨ c = 4) : m_quartersOver (nI c) μ = some (oL (qtO P S c), μ) := by
  have k2 := hk.2.1
  have hl2 := h.l2
  refine fixN_up (fun i (self : Int64 → Int32 → Mem → Option (Int64 × Mem)) => self (oL (sumZ i (fun f => fld4 P S f * (((if c = 0 then sQ S f else c - sQ S f) : Nat) : Int)))) (nI i) μ = some (oL (qtO P S c), μ)) (pFd P) ?_ ?_ 60000 0 (by omega) (by omega)
  · intro i self hi ih
    have e1 := m_fieldOver_e hk hS h hr hw (show i < 6 by omega)
    have h4 := fld4_bd hk hS i
    obtain ⟨q1, q2, -⟩ := hS.2.1 i hi
    have e2 : oL (fldO P S i) / (4 : Int64) = oL (fld4 P S i) := by
      rw [fld4_e]
      have := oL_tdiv (a := 4 * fld4 P S i) (b := 4) (by omega) (by omega) (by omega) (by omega)
      rw [show (4 * fld4 P S i).tdiv 4 = fld4 P S i from Int.mul_tdiv_cancel_left _ (by decide)] at this
      exact this
    have e3 : mI μ 89 0 (6 + i) = nI (sQ S i) := (hr (6 + i) (by omega)).trans q1
    rw [sumZ_s] at ih
    unfold m_quartersOver_B5
    rcases hc with rfl | rfl
    · rw [if_pos rfl] at ih
      simp (disch := omega) only [h.lv, h.fd, inB_nI, cl_nI, nI_leF, nI_add, ↓ob_eq e1, ↓vb_e, e2, e3, oL_nI, oL_mul, oL_add, ↓reduceIte]
      exact ih
    · rw [if_neg (by omega)] at ih
      simp (disch := omega) only [h.lv, h.fd, inB_nI, cl_nI, nI_leF, nI_eqF, nI_add, ↓ob_eq e1, ↓vb_e, e2, e3, pk_sub, oL_nI, oL_mul, oL_add, ↓reduceIte]
      exact ih
  · intro self
    unfold m_quartersOver_B5
    simp (disch := omega) only [h.lv, h.fd, inB_nI, cl_nI, nI_leT, ↓reduceIte]
    rfl
theorem sumN_mono {n : Nat} {f g : Nat → Nat} (h : ∀ i, i < n → f i ≤ g i) : sumN n f ≤ sumN n g := by
  induction n with
  | zero => exact Nat.le_refl _
  | succ n ih =>
    have h1 := ih (fun i hi => h i (by omega))
    have h2 := h n (by omega)
    show sumN n f + f n ≤ sumN n g + g n
    omega
theorem wRv_le (P : Pl) (S : Nat → Int32) (l : Nat) : wRv P S l ≤ wN P S l := sumN_mono (fun i _ => by
  by_cases c : pLog P i = l
  · rw [if_pos c]; split <;> omega
  · rw [if_neg (fun z => c z.1)]; omega)
/-- the river, as the reference adds it up -/
theorem riv_sum {P : Pl} {S : Nat → Int32} (hk : PlOK P) : sumZ (pLg P) (fun l => ((4 * lsN P S l : Nat) : Int) * wOv P S l) = sumZ (pLg P) (fun l => if wN P S l = 0 then logO P S l else 0) + sumZ (pNo P) (fun n => if pTo P n = 20 then ((4 * sW S n : Nat) : Int) * wOv P S (pLog P n) else 0) := by
  have h1 : sumZ (pNo P) (fun n => if pTo P n = 20 then ((4 * sW S n : Nat) : Int) * wOv P S (pLog P n) else 0) = sumZ (pLg P) (fun l => ((4 * wRv P S l : Nat) : Int) * wOv P S l) := by
    have : ∀ i, i ≤ pNo P → sumZ i (fun n => if pTo P n = 20 then ((4 * sW S n : Nat) : Int) * wOv P S (pLog P n) else 0) = sumZ (pLg P) (fun l => ((4 * wRvi P S i l : Nat) : Int) * wOv P S l) := by
      intro i
      induction i with
      | zero => intro _; exact (sumZ_0 (fun l _ => by rw [show wRvi P S 0 l = 0 from rfl]; simp)).symm
      | succ i ih =>
        intro hi
        rw [sumZ_s, ih (by omega)]
        have h4 := hk.2.2.2.1 i (by omega)
        by_cases c : pTo P i = 20
        · rw [if_pos c, ← sumZ_one (n := pLg P) (((4 * sW S i : Nat) : Int) * wOv P S (pLog P i)) h4, ← sumZ_add]
          refine sumZ_c (fun l _ => ?_)
          rw [wRvi_s]
          by_cases e : pLog P i = l
          · subst e
            rw [if_pos rfl, if_pos ⟨rfl, c⟩, Nat.mul_add, Int.natCast_add, Int.add_mul]
          · rw [if_neg e, if_neg (fun z => e z.1)]
            simp
        · rw [if_neg c, Int.add_zero]
          refine sumZ_c (fun l _ => ?_)
          rw [wRvi_s, if_neg (fun z => c z.2)]
          simp
    exact this _ (Nat.le_refl _)
  rw [h1, ← sumZ_add]
  refine sumZ_c (fun l _ => ?_)
  unfold lsN
  by_cases e : wN P S l = 0
  · have hz : wRv P S l = 0 := by
      have := wRv_le P S l
      omega
    rw [if_pos e, if_pos e, hz]
    unfold logO sp
    rw [if_pos e]
    simp
  · rw [if_neg e, if_neg e]
    simp
theorem rivO_fl {P : Pl} {S : Nat → Int32} (h : wFl P S) : rivO P S = 0 := by
  unfold rivO
  rw [if_neg (by have := h.1; omega)]
  exact sumZ_0 (fun l _ => by rw [wOv_off (wFl_off h)]; simp)
theorem rivO_bd {P : Pl} {S : Nat → Int32} (hk : PlOK P) (hS : StOK P S) : 0 ≤ rivO P S ∧ rivO P S ≤ 8916100448256 := by
  have k1 := hk.1
  unfold rivO
  split
  · have := hS.2.2.2.2
    omega
  · obtain ⟨a, b⟩ := sumZ_bd (n := pLg P) (f := fun l => ((4 * lsN P S l : Nat) : Int) * wOv P S l) (c := 1486016741376) (fun l hl => by
      obtain ⟨a, b⟩ := wOv_nn hk hS (show l < 4 by omega)
      have h0 : lsN P S l ≤ 36 := by
        have h1 := wN_le hk hS l
        have h2 := wRv_le P S l
        unfold lsN
        split <;> omega
      have h1 := Int.mul_nonneg (show (0 : Int) ≤ ((4 * lsN P S l : Nat) : Int) by omega) a
      have h2 := Int.mul_le_mul (show ((4 * lsN P S l : Nat) : Int) ≤ 144 by omega) b a (by omega)
      exact ⟨h1, by omega⟩)
    have : ((pLg P : Nat) : Int) * 1486016741376 ≤ 4 * 1486016741376 := Int.mul_le_mul_of_nonneg_right (by omega) (by decide)
    exact ⟨a, by omega⟩
theorem m_riverOver_e {μ : Mem} {lv : Nat} {P : Pl} {S : Nat → Int32} (hk : PlOK P) (hS : StOK P S) (h : PlM μ lv P) (hr : RwM μ S) (hw : WaM μ P S) : m_riverOver μ = some (oL (rivO P S), μ) := by
  have hk0 := hk
  obtain ⟨k1, k2, k3, k4, k5, -⟩ := hk
  have hl2 := h.l2
  have s30 : mI μ 89 0 30 = nI (sS S) := (hr 30 (by omega)).trans hS.2.2.1
  have s9 := hS.2.2.2.2
  -- the last step
  have E : ∀ a : Int, (0 < pLg P → a = rivO P S) → (if (mI μ 65 0 lv) = (nI 0) then some ((Int32.toInt64 (mI μ 89 0 30)), μ) else some (oL a, μ)) = some (oL (rivO P S), μ) := by
    intro a ha
    by_cases c : pLg P = 0
    · simp (disch := omega) only [h.lv, h.lg, inB_nI, cl_nI, c, s30, oL_nI, ↓reduceIte]
      unfold rivO
      rw [if_pos c]
    · simp (disch := omega) only [h.lv, h.lg, inB_nI, cl_nI, nI_eqF, ↓reduceIte]
      rw [ha (by omega)]
  have L2 : ∀ a : Int, (0 < pLg P → a + sumZ (pNo P) (fun n => if pTo P n = 20 then ((4 * sW S n : Nat) : Int) * wOv P S (pLog P n) else 0) = rivO P S) → m_riverOver_L42 (fun (y51 : Int64) (μ52 : Mem) => if inB (mI μ52 55 0 18) 2 = true then if (mI μ52 65 0 (cl (mI μ52 55 0 18))) = (nI 0) then some ((Int32.toInt64 (mI μ52 89 0 30)), μ52) else some (y51, μ52) else none) (oL a) (nI 0) μ = some (oL (rivO P S), μ) := by
    intro a ha
    refine fixN_up (fun i (self : Int64 → Int32 → Mem → Option (Int64 × Mem)) => self (oL (a + sumZ i (fun n => if pTo P n = 20 then ((4 * sW S n : Nat) : Int) * wOv P S (pLog P n) else 0))) (nI i) μ = some (oL (rivO P S), μ)) (pNo P) ?_ ?_ 60000 0 (by omega) (by omega) |> (fun q => by rw [show sumZ 0 (fun n => if pTo P n = 20 then ((4 * sW S n : Nat) : Int) * wOv P S (pLog P n) else 0) = 0 from rfl, Int.add_zero] at q; exact q)
    · intro i self hi ih
      have h4 := k4 i hi
      have h5 := k5 i hi
      obtain ⟨w1, w2⟩ := hS.1 i hi
      have e1 := m_toWhere_e hk0 h hi
      have e2 := m_wideAt_e hr (show i < 12 by omega)
      rw [w1] at e2
      have e3 := m_fromLog_e hk0 h hi
      have e4 := hw.2.2.1 (pLog P i) (by omega)
      rw [sumZ_s] at ih
      unfold m_riverOver_B42
      by_cases c : pTo P i = 20
      · rw [if_pos c] at ih
        rw [c] at e1
        simp (disch := omega) only [h.lv, h.no, inB_nI, cl_nI, nI_leF, ↓ob_eq e1, ↓ob_eq e2, ↓ob_eq e3, ↓vb_e, pk_mul, oL_nI, e4, oL_mul, oL_add, nI_add, Int.add_assoc, ↓reduceIte]
        exact ih
      · rw [if_neg c, Int.add_zero] at ih
        simp (disch := omega) only [h.lv, h.no, inB_nI, cl_nI, nI_leF, nI_eqF, ↓ob_eq e1, nI_add, ↓reduceIte]
        exact ih
    · intro self
      unfold m_riverOver_B42
      simp (disch := omega) only [h.lv, h.no, inB_nI, cl_nI, nI_leT, ↓reduceIte]
      exact E _ ha
  refine fixN_up (fun i (self : Int64 → Int32 → Mem → Option (Int64 × Mem)) => self (oL (sumZ i (fun l => if wN P S l = 0 then logO P S l else 0))) (nI i) μ = some (oL (rivO P S), μ)) (pLg P) ?_ ?_ 60000 0 (by omega) (by omega)
  · intro i self hi ih
    have e90 := hw.2.2.2 (by omega)
    have hwn := wN_le hk0 hS i
    have e1 := m_logOver_e hk0 hS hw e90 (show i < 4 by omega)
    rw [sumZ_s] at ih
    unfold m_riverOver_B4
    by_cases c : wN P S i = 0
    · rw [if_pos c] at ih
      simp (disch := omega) only [h.lv, h.lg, inB_nI, cl_nI, nI_leF, e90 i (by omega), c, ↓ob_eq e1, oL_add, nI_add, ↓reduceIte]
      exact ih
    · rw [if_neg c, Int.add_zero] at ih
      simp (disch := omega) only [h.lv, h.lg, inB_nI, cl_nI, nI_leF, e90 i (by omega), nI_eqF, nI_add, ↓reduceIte]
      exact ih
  · intro self
    unfold m_riverOver_B4
    simp (disch := omega) only [h.lv, h.lg, inB_nI, cl_nI, nI_leT, ↓reduceIte]
    refine L2 _ (fun h0 => ?_)
    unfold rivO
    rw [if_neg (by omega), riv_sum hk0]
noncomputable def qRiver (P : Pl) (S : Nat → Int32) (x : Int32) : Int32 := if x = nI 0 then frA P S (rivO P S) 0 else if x = nI 1 then frA P S (rivO P S) 1 else if x = nI 2 then frA P S (qtO P S 4) 0 else if x = nI 3 then frA P S (qtO P S 4) 1 else -1
theorem s_kpt_a {μ : Mem} {P : Pl} {S : Nat → Int32} (hk : PlOK P) (hS : StOK P S) (hw : WaC μ 0 P S) : s_overInLeast (mL μ 32 0 3) ((4 : Int64) * mL μ 32 0 1) μ = some (frA P S (qtO P S 4) 0, μ) ∧ s_underInLeast (mL μ 32 0 3) ((4 : Int64) * mL μ 32 0 1) μ = some (frA P S (qtO P S 4) 1, μ) := by
  have hq := qtO_bd hk hS (c := 4) (Or.inr rfl)
  have hb := wUn_pos hk hS
  rw [hw.kp, hw.un, kpt_4]
  unfold frA
  by_cases c : wFl P S
  · rw [ifP_t c, ifP_t c, ifP_t c, qtO_fl c]
    exact ⟨s_overInLeast_e (a := 0) (b := 0) (by omega) (by omega) μ, s_underInLeast_e (a := 0) (b := 0) (by omega) (by omega) μ⟩
  · rw [ifP_f c, ifP_f c, ifP_f c, show (4 : Int64) * oL (wUn P S) = oL (4 * wUn P S) from oL_mul 4 _]
    have e1 : oL (4 * wUn P S) = oL (((4 * (wUn P S).toNat : Nat)) : Int) := by rw [Int.natCast_mul, Int.toNat_of_nonneg (by omega)]; rfl
    have e2 : oL (4 * qtO P S 4) = oL (((4 * (qtO P S 4).toNat : Nat)) : Int) := by rw [Int.natCast_mul, Int.toNat_of_nonneg (by omega)]; rfl
    rw [e1, e2, s_overInLeast_e (by omega) (by omega), s_underInLeast_e (by omega) (by omega), if_pos rfl, if_neg (by omega), fr4O, fr4U]
    exact ⟨rfl, rfl⟩
theorem s_river_e {μ : Mem} {p : Nat} {P : Pl} {S : Nat → Int32} (hk : PlOK P) (hS : StOK P S) (h : CCore μ p P S) (x : Int32) : s_river x μ = some (qRiver P S x, μ) := by
  have hr := rivO_bd hk hS
  have e1 := s_over_a hk hS h.wa hr.1 (by omega) (fun c => rivO_fl c)
  have e2 := s_under_a hk hS h.wa hr.1 (by omega) (fun c => rivO_fl c)
  obtain ⟨e3, e4⟩ := s_kpt_a hk hS h.wa
  rw [← h.wa.ri] at e1 e2
  unfold s_river qRiver
  simp only [↓ob_eq e1, ↓ob_eq e2, ↓ob_eq e3, ↓ob_eq e4]
  repeat (split; rfl)
  rfl
theorem m_river_e {μ : Mem} {lv : Nat} {P : Pl} {S : Nat → Int32} (hk : PlOK P) (hS : StOK P S) (h : MCore μ lv P S) (x : Int32) : ∃ μ', m_river x μ = some (qRiver P S x, μ') := by
  have e0 : m_in x (nI 0) (nI 3) μ = some (b01I (inB x 4), μ) := m_in_e x (n := 4) (by omega) μ
  have hr := rivO_bd hk hS
  have hq := qtO_bd hk hS (c := 4) (Or.inr rfl)
  obtain ⟨μ1, e1, A1, W1, -⟩ := m_copies_e hk hS h
  have e2 := m_riverOver_e hk hS A1.pl A1.rw W1
  have e3 := m_quartersOver_e hk hS A1.pl A1.rw W1 (c := 4) (Or.inr rfl)
  have t0 := m_term_a hk hS W1 hr.1 (by omega) 0 (by omega)
  have t1 := m_term_a hk hS W1 hr.1 (by omega) 1 (by omega)
  have t2 := m_term_a hk hS W1 hq.1 (by omega) 0 (by omega)
  have t3 := m_term_a hk hS W1 hq.1 (by omega) 1 (by omega)
  unfold m_river qRiver
  rcases inB_cases x (show 4 < 2147483648 by omega) with ⟨a, j, hj, e⟩ | ⟨a, b⟩
  · subst e
    rw [a] at e0
    have m0 : irm (nI 0) (nI 2) = nI 0 := by decide
    have m1 : irm (nI 1) (nI 2) = nI 1 := by decide
    have m2 : irm (nI 2) (nI 2) = nI 0 := by decide
    have m3 : irm (nI 3) (nI 2) = nI 1 := by decide
    rcases (show j = 0 ∨ j = 1 ∨ j = 2 ∨ j = 3 by omega) with rfl | rfl | rfl | rfl
    all_goals
      simp (disch := omega) only [↓ob_eq e0, b01I, ↓ob_eq e1, nI_eqF, nI_leF, nI_leT, m0, m1, m2, m3, ↓ob_eq e2, ↓ob_eq e3, ↓ob_eq t0, ↓ob_eq t1, ↓ob_eq t2, ↓ob_eq t3, ↓reduceIte]
      exact ⟨_, rfl⟩
  · rw [a] at e0
    have hne : ∀ j, j < 4 → ¬ x = nI j := fun j hj e => by
      rw [e, inB_nI (by omega) (by omega)] at a
      cases a
    refine ⟨μ, ?_⟩
    simp only [↓ob_eq e0, b01I, Bool.false_eq_true, hne 0 (by omega), hne 1 (by omega), hne 2 (by omega), hne 3 (by omega), ↓reduceIte]
/-- the round -/
noncomputable def qRound (P : Pl) (S : Nat → Int32) : Int32 := ifP (wFl P S) (nI 0) (Int64.toInt32 (((100 : Int64) * oL (qtO P S 0)) / oL (wUn P S)))
theorem s_round_e {μ : Mem} {p : Nat} {P : Pl} {S : Nat → Int32} (hk : PlOK P) (hS : StOK P S) (h : CCore μ p P S) : s_round μ = some (qRound P S, μ) := by
  have hq := qtO_bd hk hS (c := 0) (Or.inl rfl)
  have hb := wUn_pos hk hS
  unfold s_round qRound
  rw [h.wa.dn, h.wa.un, drn_4]
  by_cases c : wFl P S
  · rw [ifP_t c, ifP_t c, show (4 : Int64) * 0 = 0 from rfl]
    simp only [↓ob_eq (wa_hundredfold_0 (x := oL (4 * qtO P S 0)) μ)]
  · rw [ifP_f c, ifP_f c, show (4 : Int64) * oL (wUn P S) = oL (4 * wUn P S) from oL_mul 4 _]
    have hne : ¬ oL (4 * wUn P S) = 0 := oL_ne (by omega) (by omega) (by omega)
    simp only [↓ob_eq (wa_hundredfold_e (x := oL (4 * qtO P S 0)) μ hne)]
    have e1 : (100 : Int64) * oL (4 * qtO P S 0) = oL (100 * (4 * qtO P S 0)) := oL_mul 100 _
    have e2 : (100 : Int64) * oL (qtO P S 0) = oL (100 * qtO P S 0) := oL_mul 100 _
    rw [e1, e2, oL_tdiv (by omega) (by omega) (by omega) (by omega), oL_tdiv (by omega) (by omega) (by omega) (by omega), show 100 * (4 * qtO P S 0) = 4 * (100 * qtO P S 0) by omega, Int.mul_tdiv_mul_of_pos _ _ (by decide)]
theorem m_round_e {μ : Mem} {lv : Nat} {P : Pl} {S : Nat → Int32} (hk : PlOK P) (hS : StOK P S) (h : MCore μ lv P S) : ∃ μ', m_round μ = some (qRound P S, μ') := by
  have hb := wUn_pos hk hS
  obtain ⟨μ1, e1, A1, W1, -⟩ := m_copies_e hk hS h
  have e3 := m_quartersOver_e hk hS A1.pl A1.rw W1 (c := 0) (Or.inl rfl)
  have h56 := W1.fl
  have hUz : ¬ oL (wUn P S) = 0 := oL_ne (by omega) (by omega) (by omega)
  unfold m_round qRound
  by_cases c : wFl P S
  · rw [show flI P S = nI 1 from ifP_t c] at h56
    rw [ifP_t c]
    refine ⟨μ1, ?_⟩
    simp only [↓ob_eq e1, h56, nI_10, ↓reduceIte]
  · rw [show flI P S = nI 0 from ifP_f c] at h56
    rw [ifP_f c]
    refine ⟨μ1, ?_⟩
    simp only [↓ob_eq e1, h56, ↓ob_eq e3, W1.un, hUz, not_false_eq_true, ↓reduceIte]
/-- lacking -/
noncomputable def qLack (P : Pl) (S : Nat → Int32) : Int32 := bitI (pFd P) (lack P S)
theorem s_lacking_e {μ : Mem} {p : Nat} {P : Pl} {S : Nat → Int32} (hk : PlOK P) (hS : StOK P S) (h : CCore μ p P S) : ∃ μ', s_lacking μ = some (qLack P S, μ') := by
  obtain ⟨μ1, e1⟩ := wo_lackingFields_e hk h.wo h.wa
  unfold s_lacking
  simp only [↓ob_eq e1]
  exact ⟨_, rfl⟩
theorem m_lacking_e {μ : Mem} {lv : Nat} {P : Pl} {S : Nat → Int32} (hk : PlOK P) (hS : StOK P S) (h : MCore μ lv P S) : ∃ μ', m_lacking μ = some (qLack P S, μ') := by
  obtain ⟨μ1, e1, A1, W1, -⟩ := m_copies_e hk hS h
  obtain ⟨μ2, e2⟩ := m_lackingBits_e hk hS A1 W1
  unfold m_lacking
  simp only [↓ob_eq e1, ↓ob_eq e2]
  exact ⟨_, rfl⟩
/-- dry -/
noncomputable def dryB (P : Pl) (S : Nat → Int32) (f : Nat) : Bool := ifP (wFl P S) false (decide (fldO P S f = 0))
noncomputable def qDry (P : Pl) (S : Nat → Int32) : Int32 := bitI (pFd P) (dryB P S)
theorem lg_z {x : Int} (h1 : -9000000000000000000 ≤ x) (h2 : x ≤ 9000000000000000000) : (lg_cmp (oL x) (0 : Int64) = nI 0) = (x = 0) := by
  apply propext
  constructor
  · intro h
    by_cases c : x = 0
    · exact c
    · have := oL_ne h1 h2 c
      exact absurd h (by simpa using lg_cmp0 this)
  · intro h
    subst h
    rw [oL_0]; exact of_eq_true lg_cmp00
theorem s_dry_e {μ : Mem} {p : Nat} {P : Pl} {S : Nat → Int32} (hk : PlOK P) (hS : StOK P S) (h : CCore μ p P S) : s_dry μ = some (qDry P S, μ) := by
  have k2 := hk.2.1
  have hp2 := h.p2
  have hfl := h.wa.fl
  unfold s_dry qDry
  by_cases c : wFl P S
  · rw [show flI P S = nI 1 from ifP_t c] at hfl
    simp only [hfl, nI_10, ↓reduceIte]
    rw [bitI_z (p := dryB P S) (n := pFd P) (by omega) (fun i _ => ifP_t c)]
  · rw [show flI P S = nI 0 from ifP_f c] at hfl
    simp only [hfl, ↓reduceIte]
    refine fixN_up (fun i (self : Int32 → Int32 → Mem → Option (Int32 × Mem)) => self (bitI i (dryB P S)) (nI i) μ = some (bitI (pFd P) (dryB P S), μ)) (pFd P) ?_ ?_ 60000 0 (by omega) (by omega)
    · intro i self hi ih
      have hb := fldO_bd hk hS i
      have ez : (lg_cmp (oL (fldO P S i)) (0 : Int64) = nI 0) = (fldO P S i = 0) := lg_z (by omega) (by omega)
      rw [bitI_s] at ih
      unfold s_dry_B19
      by_cases c2 : fldO P S i = 0
      · rw [if_pos (show dryB P S i = true from (ifP_f c).trans (decide_eq_true c2))] at ih
        simp (disch := omega) only [h.pn, hp2, h.wo.pl.fd, nI_leF, inB_nI, cl_nI, h.wa.fo hi, ez, eq_true c2, nI_add, ↓reduceIte]
        exact ih
      · rw [if_neg (show ¬ dryB P S i = true by rw [show dryB P S i = _ from ifP_f c]; simpa using c2)] at ih
        simp (disch := omega) only [h.pn, hp2, h.wo.pl.fd, nI_leF, inB_nI, cl_nI, h.wa.fo hi, ez, eq_false c2, nI_add, ↓reduceIte]
        exact ih
    · intro self
      unfold s_dry_B19
      simp (disch := omega) only [h.pn, hp2, h.wo.pl.fd, nI_leT, ↓reduceIte]
theorem m_dry_e {μ : Mem} {lv : Nat} {P : Pl} {S : Nat → Int32} (hk : PlOK P) (hS : StOK P S) (h : MCore μ lv P S) : ∃ μ', m_dry μ = some (qDry P S, μ') := by
  have k2 := hk.2.1
  obtain ⟨μ1, e1, A1, W1, -⟩ := m_copies_e hk hS h
  have hl2 := A1.pl.l2
  have h56 := W1.fl
  unfold m_dry qDry
  simp only [↓ob_eq e1]
  refine ⟨μ1, ?_⟩
  refine fixN_up (fun i (self : Int32 → Int32 → Mem → Option (Int32 × Mem)) => self (bitI i (dryB P S)) (nI i) μ1 = some (bitI (pFd P) (dryB P S), μ1)) (pFd P) ?_ ?_ 60000 0 (by omega) (by omega)
  · intro i self hi ih
    have hb := fldO_bd hk hS i
    have ez : (lg_cmp (oL (fldO P S i)) (0 : Int64) = nI 0) = (fldO P S i = 0) := lg_z (by omega) (by omega)
    have e2 := m_fieldOver_e hk hS A1.pl A1.rw W1 (show i < 6 by omega)
    rw [bitI_s] at ih
    unfold m_dry_B8
    by_cases c : wFl P S
    · rw [show flI P S = nI 1 from ifP_t c] at h56
      simp (disch := omega) only [A1.pl.lv, A1.pl.fd, h56, nI_10, inB_nI, cl_nI, nI_leF, ↓reduceIte]
      rw [bitI_z (p := dryB P S) (n := i) (by omega) (fun i _ => ifP_t c), bitI_z (p := dryB P S) (n := pFd P) (by omega) (fun i _ => ifP_t c)]
    · rw [show flI P S = nI 0 from ifP_f c] at h56
      by_cases c2 : fldO P S i = 0
      · rw [if_pos (show dryB P S i = true from (ifP_f c).trans (decide_eq_true c2))] at ih
        simp (disch := omega) only [A1.pl.lv, A1.pl.fd, h56, inB_nI, cl_nI, nI_leF, ↓ob_eq e2, ez, eq_true c2, nI_add, ↓reduceIte]
        exact ih
      · rw [if_neg (show ¬ dryB P S i = true by rw [show dryB P S i = _ from ifP_f c]; simpa using c2)] at ih
        simp (disch := omega) only [A1.pl.lv, A1.pl.fd, h56, inB_nI, cl_nI, nI_leF, ↓ob_eq e2, ez, eq_false c2, nI_add, ↓reduceIte]
        exact ih
  · intro self
    unfold m_dry_B8
    simp (disch := omega) only [A1.pl.lv, A1.pl.fd, inB_nI, cl_nI, nI_leT, ↓reduceIte]

/-! the water looks at widths, drains, spring alone -/
def Ag (S S' : Nat → Int32) : Prop := (∀ k, k < 12 → S' k = S k) ∧ ∀ k, 18 ≤ k → k < 31 → S' k = S k
theorem Ag.w {S S' : Nat → Int32} (h : Ag S S') {n : Nat} (hn : n < 12) : sW S' n = sW S n := by unfold sW; rw [h.2 _ (by omega) (by omega)]
theorem Ag.q {S S' : Nat → Int32} (h : Ag S S') {f : Nat} (hf : f < 6) : sQ S' f = sQ S f := by unfold sQ; rw [h.1 _ (by omega)]
theorem Ag.s {S S' : Nat → Int32} (h : Ag S S') : sS S' = sS S := by unfold sS; rw [h.2 _ (by omega) (by omega)]
theorem wN_ag {P : Pl} {S S' : Nat → Int32} (hk : PlOK P) (h : Ag S S') (l : Nat) : wN P S' l = wN P S l := sumN_c (fun i hi => by have := hk.2.2.1; rw [h.w (by omega)])
theorem ldT_ag {P : Pl} {S S' : Nat → Int32} (hk : PlOK P) (h : Ag S S') {n : Nat} (hn : n < pNo P) (t : Nat) : ldT P S' n t = ldT P S n t := by
  obtain ⟨k1, k2, k3, k4, k5, -⟩ := hk
  have h5 := k5 n hn
  have hw := h.w (show n < 12 by omega)
  rcases h5 with h5 | ⟨h5, h6⟩ | h5
  · rw [ldT_1 S' t (by omega), ldT_1 S t (by omega), hw]
  · rw [ldT_2 t h5 (by omega), ldT_2 t h5 (by omega), hw, h.q (show pTo P n - 10 < 6 by omega), h.1 _ (show pTo P n - 10 < 12 by omega)]
  · rw [ldT_4 S' t h5, ldT_4 S t h5]
theorem lead_ag {P : Pl} {S S' : Nat → Int32} (hk : PlOK P) (h : Ag S S') (l t : Nat) : leadN P S' l t = leadN P S l t := sumN_c (fun i hi => by rw [ldT_ag hk h hi])
theorem sp_ag {P : Pl} {S S' : Nat → Int32} (hk : PlOK P) (h : Ag S S') (l : Nat) : sp P S' l = sp P S l := by unfold sp; rw [wN_ag hk h]
theorem out_ag {P : Pl} {S S' : Nat → Int32} (hk : PlOK P) (h : Ag S S') (l : Nat) : outL P S' l = outL P S l := by
  have k3 := hk.2.2.1
  unfold outL
  rw [wN_ag hk h]
  refine propext ⟨fun z => z.elim Or.inl (fun ⟨n, a, b, c, d⟩ => Or.inr ⟨n, a, b, by rw [h.w (by omega)] at c; exact c, d⟩), fun z => z.elim Or.inl (fun ⟨n, a, b, c, d⟩ => Or.inr ⟨n, a, b, by rw [h.w (by omega)]; exact c, d⟩)⟩
theorem Cl_ag {P : Pl} {S S' : Nat → Int32} (hk : PlOK P) (h : Ag S S') : Cl P S' = Cl P S := by
  funext A t
  unfold Cl
  simp only [lead_ag hk h]
theorem Rh_ag {P : Pl} {S S' : Nat → Int32} (hk : PlOK P) (h : Ag S S') : Rh P S' = Rh P S := by
  funext t
  unfold Rh
  rw [Cl_ag hk h]
theorem Fl_ag {P : Pl} {S S' : Nat → Int32} (hk : PlOK P) (h : Ag S S') : Fl P S' = Fl P S := by
  unfold Fl
  rw [Cl_ag hk h, Rh_ag hk h]
  simp only [out_ag hk h]
theorem aM_ag {P : Pl} {S S' : Nat → Int32} (hk : PlOK P) (h : Ag S S') : aM P S' = aM P S := by
  funext i j
  unfold aM
  rw [Rh_ag hk h, sp_ag hk h, lead_ag hk h, h.s]
theorem wUn_ag {P : Pl} {S S' : Nat → Int32} (hk : PlOK P) (h : Ag S S') : wUn P S' = wUn P S := by unfold wUn; rw [Fl_ag hk h, aM_ag hk h]
theorem wOv_ag {P : Pl} {S S' : Nat → Int32} (hk : PlOK P) (h : Ag S S') (l : Nat) : wOv P S' l = wOv P S l := by unfold wOv; rw [Fl_ag hk h, aM_ag hk h]
theorem wFl_ag {P : Pl} {S S' : Nat → Int32} (hk : PlOK P) (h : Ag S S') : wFl P S' = wFl P S := by unfold wFl; rw [Fl_ag hk h]
theorem flI_ag {P : Pl} {S S' : Nat → Int32} (hk : PlOK P) (h : Ag S S') : flI P S' = flI P S := by unfold flI; rw [wFl_ag hk h]
theorem logO_ag {P : Pl} {S S' : Nat → Int32} (hk : PlOK P) (h : Ag S S') (l : Nat) : logO P S' l = logO P S l := by unfold logO; rw [sp_ag hk h, wOv_ag hk h]
theorem fldO_ag {P : Pl} {S S' : Nat → Int32} (hk : PlOK P) (h : Ag S S') (f : Nat) : fldO P S' f = fldO P S f := sumZ_c (fun i hi => by have := hk.2.2.1; rw [h.w (by omega), wOv_ag hk h])
theorem lsN_ag {P : Pl} {S S' : Nat → Int32} (hk : PlOK P) (h : Ag S S') (l : Nat) : lsN P S' l = lsN P S l := by
  have : wRv P S' l = wRv P S l := sumN_c (fun i hi => by have := hk.2.2.1; rw [h.w (by omega)])
  unfold lsN
  rw [wN_ag hk h, this]
theorem rivO_ag {P : Pl} {S S' : Nat → Int32} (hk : PlOK P) (h : Ag S S') : rivO P S' = rivO P S := by
  unfold rivO
  rw [h.s]
  simp only [lsN_ag hk h, wOv_ag hk h]
theorem kptO_ag {P : Pl} {S S' : Nat → Int32} (hk : PlOK P) (h : Ag S S') : kptO P S' = kptO P S := sumZ_c (fun f hf => by have := hk.2.1; rw [h.q (by omega), fldO_ag hk h])
theorem drnO_ag {P : Pl} {S S' : Nat → Int32} (hk : PlOK P) (h : Ag S S') : drnO P S' = drnO P S := sumZ_c (fun f hf => by have := hk.2.1; rw [h.q (by omega), fldO_ag hk h])
theorem flow_ag {P : Pl} {S S' : Nat → Int32} (hk : PlOK P) (h : Ag S S') (f : Nat) : flow P S' f = flow P S f := by unfold flow; rw [wFl_ag hk h, fldO_ag hk h, wUn_ag hk h]
theorem WaC.ag {μ : Mem} {w : Nat} {P : Pl} {S S' : Nat → Int32} (hk : PlOK P) (h : Ag S S') (hw : WaC μ w P S) : WaC μ w P S' := by
  refine ⟨by rw [flI_ag hk h]; exact hw.fl, by rw [wFl_ag hk h, wUn_ag hk h]; exact hw.un, by rw [rivO_ag hk h]; exact hw.ri, by rw [kptO_ag hk h]; exact hw.kp, by rw [drnO_ag hk h]; exact hw.dn, fun l hl => by rw [logO_ag hk h]; exact hw.lo hl, fun f hf => by rw [fldO_ag hk h]; exact hw.fo hf, fun f hf => by rw [flow_ag hk h]; exact hw.fw hf⟩
theorem WaM.ag {μ : Mem} {P : Pl} {S S' : Nat → Int32} (hk : PlOK P) (h : Ag S S') (hw : WaM μ P S) : WaM μ P S' := by
  refine ⟨by rw [flI_ag hk h]; exact hw.1, by rw [wUn_ag hk h]; exact hw.2.1, fun l hl => by rw [wOv_ag hk h]; exact hw.2.2.1 l hl, fun h0 l hl => by rw [wN_ag hk h]; exact hw.2.2.2 h0 l hl⟩
/-! days -/
def mixV (h v : Int32) : Int32 := (((h ^^^ v) * nI 1103515245) + nI 12345) ^^^ ushr (((h ^^^ v) * nI 1103515245) + nI 12345) (nI 15)
def lotV (lots which : Int32) : Int32 := irm (ushr (mixV (mixV lots (nI 217)) which) (nI 1)) (nI 100)
theorem wo_lot_e (seed which : Int32) (μ : Mem) : wo_lot (nI 100) seed which μ = some (lotV seed which, μ) := by
  unfold wo_lot wo_mixed
  simp only [↓vb_e, ob_some]
  rw [if_neg (by decide), if_pos (by decide)]
  rfl
theorem m_lotOf_e (which : Int32) (μ : Mem) : m_lotOf which μ = some (lotV (mI μ 55 0 52) which, μ) := by
  unfold m_lotOf m_mixed
  simp only [↓vb_e, ob_some]
  rfl
/-- whether a notch is stopped by silt on that day -/
def stp (P : Pl) (lots : Int32) (still : Bool) (S : Nat → Int32) (n : Nat) : Bool := !still && (decide (0 < sW S n) && decide (lotV lots (nI 16 * S 31 + nI n) < silts P S n))
noncomputable def gwS (P : Pl) (S : Nat → Int32) (i : Nat) : Nat → Int32 := fun k => if 12 ≤ k ∧ k < 12 + i then held (nI 9999) (S k + worth P S (k - 12)) else S k
def siS (P : Pl) (lots : Int32) (still : Bool) (S0 S : Nat → Int32) (i : Nat) : Nat → Int32 := fun k => if 18 ≤ k ∧ k < 18 + i ∧ stp P lots still S0 (k - 18) = true then nI (sW S (k - 18) - 1) else S k
noncomputable def dayS (P : Pl) (lots : Int32) (still : Bool) (S : Nat → Int32) : Nat → Int32 := up (siS P lots still S (gwS P S (pFd P)) (pNo P)) 31 (S 31 + nI 1)
noncomputable def daysS (P : Pl) (lots : Int32) (still : Bool) (S : Nat → Int32) : Nat → Nat → Int32
  | 0 => S
  | n + 1 => dayS P lots still (daysS P lots still S n)
theorem fV_c {P : Pl} {S S' : Nat → Int32} (hk : PlOK P) (ha : Ag S S') {f : Nat} (hf : f < pFd P) (h1 : S' (12 + f) = S (12 + f)) (h2 : S' 31 = S 31) : fV P S' f = fV P S f := by
  have k2 := hk.2.1
  have k3 := hk.2.2.1
  have e1 : wTo P S' f = wTo P S f := sumI_c (fun n hn => by rw [ha.2 _ (by omega) (by omega)])
  have e2 := flow_ag hk ha f
  have e3 : S' (6 + f) = S (6 + f) := ha.1 _ (by omega)
  funext j
  unfold fV
  rw [e1, e2, e3, h1, h2]
theorem worth_c {P : Pl} {S S' : Nat → Int32} (hk : PlOK P) (ha : Ag S S') {f : Nat} (hf : f < pFd P) (h1 : S' (12 + f) = S (12 + f)) (h2 : S' 31 = S 31) : worth P S' f = worth P S f := by
  unfold worth
  rw [fV_c hk ha hf h1 h2]
theorem silts_c {P : Pl} {S S' : Nat → Int32} {n : Nat} (h1 : S' (18 + n) = S (18 + n)) (h2 : S' 31 = S 31) : silts P S' n = silts P S n := by
  unfold silts
  have : nV P S' n = nV P S n := by
    funext j
    unfold nV
    rw [h1, h2]
  rw [this]
theorem held_add {g : Nat} (hg : g ≤ 9999) (x : Int32) {k : Nat} (hk : k ≤ 99) (hx : x = nI k) : (if nI g + x < nI 9999 then nI g + x else nI 9999) = held (nI 9999) (nI g + x) ∧ ∃ j : Nat, j ≤ 9999 ∧ held (nI 9999) (nI g + x) = nI j := by
  subst hx
  refine ⟨?_, held_bd (m := 9999) (by decide) _⟩
  unfold held
  rw [nI_add, if_pos (nI_le (Nat.zero_le _) (by omega))]
  by_cases c : g + k < 9999
  · rw [if_pos (nI_lt c (by decide)), if_pos (nI_le (by omega) (by decide))]
  · rw [if_neg (nI_nlt (by omega) (by omega))]
    by_cases c2 : g + k = 9999
    · rw [c2, if_pos (Int32.le_refl _)]
    · rw [if_neg (nI_ge (by omega) (by omega))]
theorem gwS_ag (P : Pl) (S : Nat → Int32) (i : Nat) (hi : i ≤ 6) : Ag S (gwS P S i) := ⟨fun k hk => if_neg (by omega), fun k h1 h2 => if_neg (by omega)⟩
theorem gwS_ok {P : Pl} {S : Nat → Int32} (hk : PlOK P) (hS : StOK P S) {i : Nat} (hi : i ≤ pFd P) : StOK P (gwS P S i) := by
  have k2 := hk.2.1
  have k3 := hk.2.2.1
  have ag := gwS_ag P S i (by omega)
  refine ⟨fun n hn => ?_, fun f hf => ?_, ?_⟩
  · rw [ag.w (by omega), ag.2 _ (by omega) (by omega)]; exact hS.1 n hn
  · obtain ⟨a, b, c, d, e⟩ := hS.2.1 f hf
    rw [ag.q (by omega), ag.1 _ (by omega), ag.1 f (by omega), show sD (gwS P S i) f = sD S f by unfold sD; rw [ag.1 f (by omega)]]
    refine ⟨a, b, c, ?_⟩
    unfold sG at d e ⊢
    by_cases z : f < i
    · have e1 : gwS P S i (12 + f) = held (nI 9999) (S (12 + f) + worth P S (12 + f - 12)) := if_pos ⟨by omega, by omega⟩
      obtain ⟨j, hj, hj2⟩ := held_bd (m := 9999) (by decide) (S (12 + f) + worth P S (12 + f - 12))
      rw [e1, hj2, cl_nI (by omega)]
      exact ⟨rfl, hj⟩
    · have e1 : gwS P S i (12 + f) = S (12 + f) := if_neg (by omega)
      rw [e1]; exact ⟨d, e⟩
  · rw [ag.s, ag.2 _ (by omega) (by omega)]; exact hS.2.2
theorem wo_grow_e {μ : Mem} {w p : Nat} {P : Pl} {S : Nat → Int32} (hk : PlOK P) (hS : StOK P S) (h : WoC μ w p P S) (hw : WaC μ w P S) : ∃ μ', wo_grow w μ = some ((), μ') ∧ WoC μ' w p P (gwS P S (pFd P)) ∧ WaC μ' w P (gwS P S (pFd P)) := by
  have k2 := hk.2.1
  have k3 := hk.2.2.1
  have z0 : gwS P S 0 = S := funext fun k => if_neg (by omega)
  refine fixN_up (fun i (self : Int32 → Mem → Option (Unit × Mem)) => ∀ μ, WoC μ w p P (gwS P S i) → WaC μ w P (gwS P S i) → ∃ μ', self (nI i) μ = some ((), μ') ∧ WoC μ' w p P (gwS P S (pFd P)) ∧ WaC μ' w P (gwS P S (pFd P))) (pFd P) ?_ ?_ 60000 0 (by omega) (by omega) μ (by rw [z0]; exact h) (by rw [z0]; exact hw)
  · intro i self hi ih μ h hw
    have hp2 := h.p2
    obtain ⟨μ1, e1⟩ := wo_worthOf_e hk h hw hi
    have g1 := f_wo_worthOf e1
    have W1 := h.fo g1 rfl
    have A1 := hw.fr g1 rfl
    have hwc : worth P (gwS P S i) i = worth P S i := worth_c hk (gwS_ag P S i (by omega)) hi (if_neg (by omega)) (if_neg (by omega))
    rw [hwc] at e1
    have hgi : gwS P S i (12 + i) = S (12 + i) := if_neg (by omega)
    obtain ⟨-, -, -, sg1, sg2⟩ := hS.2.1 i hi
    have hgr0 : mI μ 30 (w + 2) i = nI (sG S i) := by rw [h.st.gr hi, hgi, sg1]
    have hgr1 : mI μ1 30 (w + 2) i = nI (sG S i) := by rw [W1.st.gr hi, hgi, sg1]
    obtain ⟨k, hk99, hkw⟩ := held_bd (m := 99) (by decide) (lawV (pLaw P 1) (fV P S i))
    have hkw' : worth P S i = nI k := hkw
    obtain ⟨ha, j, hj, hj2⟩ := held_add sg2 (worth P S i) hk99 hkw'
    have e2 := j_min_e (nI 9999) (nI (sG S i) + worth P S i) μ1
    rw [ha] at e2
    unfold wo_grow_B2
    simp (disch := omega) only [h.r, hp2, h.pl.fd, nI_leF, inB_nI, cl_nI, ↓ob_eq e1, hgr0, hgr1, ↓ob_eq e2, nI_add, ↓reduceIte]
    have ext : gwS P S (i + 1) = up (gwS P S i) (12 + i) (held (nI 9999) (nI (sG S i) + worth P S i)) := funext fun k => by
      unfold up
      by_cases e : k = 12 + i
      · rw [if_pos e, e]
        show (if _ then _ else _) = _
        rw [if_pos ⟨by omega, by omega⟩, sg1, show 12 + i - 12 = i by omega]
      · rw [if_neg e]
        exact if_c ⟨fun z => ⟨z.1, by omega⟩, fun z => ⟨z.1, by omega⟩⟩ _ _
    have ag2 : Ag (gwS P S i) (gwS P S (i + 1)) := by
      rw [ext]
      exact ⟨fun k hk => up_n _ _ (by omega), fun k h1 h2 => up_n _ _ (by omega)⟩
    refine ih _ ⟨W1.p2, W1.r, W1.pl, W1.la, fun n hn => ?_, fun f hf => ⟨?_, ?_, ?_⟩, ?_, ?_, ?_⟩ (WaC.ag hk ag2 A1)
    · rw [ag2.2 _ (by omega) (by omega)]; exact W1.st.wi hn
    · rw [ag2.1 _ (by omega)]; exact W1.st.dr hf
    · rw [ag2.1 _ (by omega)]; exact W1.st.qu hf
    · rw [mI_stI, ext]
      by_cases e : f = i
      · subst e; rw [if_pos ⟨rfl, rfl, rfl⟩, up_s]
      · rw [if_neg (fun z => e z.2.2), up_n _ _ (by omega)]; exact W1.st.gr hf
    · rw [ag2.2 _ (by omega) (by omega)]; exact W1.st.sp
    · rw [ext, up_n _ _ (by omega)]; exact W1.st.da
    · rw [ext, up_n _ _ (by omega)]; exact W1.st.pd
  · intro self μ h hw
    have hp2 := h.p2
    unfold wo_grow_B2
    simp (disch := omega) only [h.r, hp2, h.pl.fd, nI_leT, ↓reduceIte]
    exact ⟨μ, rfl, h, hw⟩
def anyB : Nat → (Nat → Bool) → Bool
  | 0, _ => false
  | n + 1, p => anyB n p || p n
theorem anyB_iff {p : Nat → Bool} : ∀ {n : Nat}, anyB n p = true ↔ ∃ i, i < n ∧ p i = true
  | 0 => ⟨fun h => (by cases h), fun ⟨i, h, _⟩ => by omega⟩
  | n + 1 => by
    simp only [anyB, Bool.or_eq_true]
    rw [anyB_iff]
    refine ⟨fun h => h.elim (fun ⟨i, a, b⟩ => ⟨i, by omega, b⟩) (fun h => ⟨n, by omega, h⟩), fun ⟨i, a, b⟩ => ?_⟩
    by_cases e : i = n
    · subst e; exact Or.inr b
    · exact Or.inl ⟨i, by omega, b⟩
theorem wo_silt_e {μ : Mem} {w p : Nat} {P : Pl} {S0 S : Nat → Int32} {seed : Int32} (hk : PlOK P) (hS : StOK P S) (h : WoC μ w p P S) (hw0 : ∀ n, n < 12 → S (18 + n) = S0 (18 + n)) (h31 : S 31 = S0 31) : ∃ μ', wo_silt w seed μ = some (b01I (anyB (pNo P) (stp P seed false S0)), μ') ∧ WoC μ' w p P (siS P seed false S0 S (pNo P)) ∧ ∀ r k, 32 ≤ r → r ≤ 35 → mI μ' r w k = mI μ r w k ∧ mL μ' r w k = mL μ r w k := by
  have k2 := hk.2.1
  have k3 := hk.2.2.1
  have z0 : siS P seed false S0 S 0 = S := funext fun k => if_neg (by omega)
  refine fixN_up (fun i (self : Int32 → Int32 → Mem → Option (Int32 × Mem)) => ∀ μ0, WoC μ0 w p P (siS P seed false S0 S i) → (∀ r k, 32 ≤ r → r ≤ 35 → mI μ0 r w k = mI μ r w k ∧ mL μ0 r w k = mL μ r w k) → ∃ μ', self (b01I (anyB i (stp P seed false S0))) (nI i) μ0 = some (b01I (anyB (pNo P) (stp P seed false S0)), μ') ∧ WoC μ' w p P (siS P seed false S0 S (pNo P)) ∧ ∀ r k, 32 ≤ r → r ≤ 35 → mI μ' r w k = mI μ r w k ∧ mL μ' r w k = mL μ r w k) (pNo P) ?_ ?_ 60000 0 (by omega) (by omega) μ (by rw [z0]; exact h) (fun _ _ _ _ => ⟨rfl, rfl⟩)
  · intro i self hi ih μ0 h hkeep
    have hp2 := h.p2
    obtain ⟨w1, w2⟩ := hS.1 i hi
    have hsi : siS P seed false S0 S i (18 + i) = S (18 + i) := if_neg (by omega)
    have hs31 : siS P seed false S0 S i 31 = S 31 := if_neg (by omega)
    have hwi : mI μ0 27 (w + 2) i = nI (sW S i) := by rw [h.st.wi hi, hsi, w1]
    have hda : mI μ0 26 (w + 2) 5 = S0 31 := by rw [h.st.da, hs31, h31]
    have hW0 : sW S0 i = sW S i := by unfold sW; rw [hw0 i (by omega)]
    have same : stp P seed false S0 i = false → siS P seed false S0 S (i + 1) = siS P seed false S0 S i := fun z => funext fun k => by
      refine if_c ⟨fun y => ⟨y.1, ?_, y.2.2⟩, fun y => ⟨y.1, by omega, y.2.2⟩⟩ _ _
      by_cases e : k = 18 + i
      · have := y.2.2
        rw [e, show 18 + i - 18 = i by omega, z] at this; cases this
      · omega
    have any0 : stp P seed false S0 i = false → anyB (i + 1) (stp P seed false S0) = anyB i (stp P seed false S0) := fun z => by simp only [anyB, z, Bool.or_false]
    have hstp : stp P seed false S0 i = (decide (0 < sW S i) && decide (lotV seed (nI 16 * S0 31 + nI i) < silts P S0 i)) := by unfold stp; rw [hW0]; rfl
    unfold wo_silt_B4
    by_cases c1 : 0 < sW S i
    · have e1 := wo_lot_e seed (nI 16 * S0 31 + nI i) μ0
      obtain ⟨μ1, e2⟩ := wo_siltsOf_e hk h hi
      have g2 := f_wo_siltsOf e2
      have W2 := h.fo g2 rfl
      have hsc : silts P (siS P seed false S0 S i) i = silts P S0 i := silts_c (by rw [hsi]; exact hw0 i (by omega)) (by rw [hs31]; exact h31)
      rw [hsc] at e2
      have keep1 : ∀ r k, 32 ≤ r → r ≤ 35 → mI μ1 r w k = mI μ r w k ∧ mL μ1 r w k = mL μ r w k := fun r k h1 h2 => by
        have z : inT (T_wo_siltsOf w) r w k = false := by
          unfold inT T_wo_siltsOf inA
          simp
          omega
        rw [g2.I z, g2.L z]; exact hkeep r k h1 h2
      have hwi1 : mI μ1 27 (w + 2) i = nI (sW S i) := by rw [W2.st.wi hi, hsi, w1]
      by_cases c2 : lotV seed (nI 16 * S0 31 + nI i) < silts P S0 i
      · have hst : stp P seed false S0 i = true := by rw [hstp, decide_eq_true c1, decide_eq_true c2]; rfl
        have c3 : (silts P S0 i ≤ lotV seed (nI 16 * S0 31 + nI i)) = False := eq_false (Int32.not_le.mpr c2)
        simp (disch := omega) only [h.r, hp2, h.pl.no, nI_leF, inB_nI, cl_nI, hwi, hda, ↓ob_eq e1, ↓ob_eq e2, c3, hwi1, pk_sub, ↓mb_e, nI_add, ↓reduceIte]
        have ext : siS P seed false S0 S (i + 1) = up (siS P seed false S0 S i) (18 + i) (nI (sW S i - 1)) := funext fun k => by
          unfold up
          by_cases e : k = 18 + i
          · rw [if_pos e, e]
            show (if _ then _ else _) = _
            rw [if_pos ⟨by omega, by omega, by rw [show 18 + i - 18 = i by omega]; exact hst⟩, show 18 + i - 18 = i by omega]
          · rw [if_neg e]
            exact if_c ⟨fun z => ⟨z.1, by omega, z.2.2⟩, fun z => ⟨z.1, by omega, z.2.2⟩⟩ _ _
        have any1 : anyB (i + 1) (stp P seed false S0) = true := by simp only [anyB, hst, Bool.or_true]
        have o : ∀ k, k ≠ 18 + i → siS P seed false S0 S (i + 1) k = siS P seed false S0 S i k := fun k hk => by rw [ext, up_n _ _ hk]
        have ih1 := ih (stI μ1 27 (w + 2) i (nI (sW S i - 1))) ⟨W2.p2, W2.r, W2.pl, W2.la, fun n hn => by
          rw [mI_stI]
          by_cases e : n = i
          · subst e; rw [if_pos ⟨rfl, rfl, rfl⟩, ext, up_s]
          · rw [if_neg (fun z => e z.2.2), o _ (by omega)]; exact W2.st.wi hn, fun f hf => ⟨by rw [o _ (by omega)]; exact W2.st.dr hf, by rw [o _ (by omega)]; exact W2.st.qu hf, by rw [o _ (by omega)]; exact W2.st.gr hf⟩, by rw [o _ (by omega)]; exact W2.st.sp, by rw [o _ (by omega)]; exact W2.st.da, by rw [o _ (by omega)]; exact W2.st.pd⟩ (fun r k h1 h2 => by
            rw [mI_stI, if_neg (by omega)]
            exact keep1 r k h1 h2)
        rw [any1] at ih1
        exact ih1
      · have hst : stp P seed false S0 i = false := by rw [hstp, decide_eq_false c2, Bool.and_false]
        have c3 : (silts P S0 i ≤ lotV seed (nI 16 * S0 31 + nI i)) = True := eq_true (Int32.not_lt.mp c2)
        simp (disch := omega) only [h.r, hp2, h.pl.no, nI_leF, inB_nI, cl_nI, hwi, hda, ↓ob_eq e1, ↓ob_eq e2, c3, nI_add, ↓reduceIte]
        have ih1 := ih μ1 (by rw [same hst]; exact W2) keep1
        rw [any0 hst] at ih1
        exact ih1
    · have hst : stp P seed false S0 i = false := by rw [hstp, decide_eq_false c1, Bool.false_and]
      simp (disch := omega) only [h.r, hp2, h.pl.no, nI_leF, nI_leT, inB_nI, cl_nI, hwi, nI_add, ↓reduceIte]
      have ih1 := ih μ0 (by rw [same hst]; exact h) hkeep
      rw [any0 hst] at ih1
      exact ih1
  · intro self μ0 h hkeep
    have hp2 := h.p2
    unfold wo_silt_B4
    simp (disch := omega) only [h.r, hp2, h.pl.no, nI_leT, b01I_or, ↓reduceIte]
    exact ⟨μ0, rfl, h, hkeep⟩

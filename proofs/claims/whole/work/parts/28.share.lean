/-! the class' water whole -/
theorem aC_AB {P : Pl} {S : Nat → Int32} (hk : PlOK P) (hS : StOK P S) : AB (aC P S) := fun i j hi hj => by
  unfold aC
  by_cases e : j = 4
  · rw [if_pos e, aM_4]
    have := hS.2.2.2.2
    unfold bd
    split <;> omega
  · rw [if_neg e]; exact aM_AB hk hS i j hi hj
theorem mul_cancel {a b c : Int} (ha : a ≠ 0) (h : a * b = a * c) : b = c := by
  have : a * (b - c) = 0 := by rw [Int.mul_sub, h, Int.sub_self]
  rcases Int.mul_eq_zero.mp this with z | z
  · exact absurd z ha
  · omega
theorem TK_aC {P : Pl} {S : Nat → Int32} (hl : ∀ k, k < 4 → lastK (aM P S) k ≠ 0) : ∀ k, k ≤ 4 → (∀ i j, i < 4 → j < 4 → TK (aC P S) k i j = TK (aM P S) k i j) ∧ (∀ i, i < 4 → TK (aC P S) k i 4 = 4 * TK (aM P S) k i 4) ∧ (k < 4 → lastK (aC P S) k = lastK (aM P S) k)
  | 0, _ => ⟨fun i j _ hj => show aC P S i j = aM P S i j from if_neg (by omega), fun i _ => show aC P S i 4 = 4 * aM P S i 4 from if_pos rfl, fun _ => rfl⟩
  | k + 1, hk => by
    obtain ⟨h1, h2, h3⟩ := TK_aC hl k (by omega)
    have hlk := h3 (by omega)
    refine ⟨fun i j hi hj => ?_, fun i hi => ?_, fun hk4 => h1 k k (by omega) (by omega)⟩
    · by_cases e : i = k
      · subst e; rw [TK_same _ (by omega), TK_same _ (by omega)]; exact h1 i j hi hj
      · have s1 := TK_step (aC P S) (show k < 4 by omega) hi e j
        have s2 := TK_step (aM P S) (show k < 4 by omega) hi e j
        rw [h1 k k (by omega) (by omega), h1 i j hi hj, h1 i k hi (by omega), h1 k j (by omega) hj, s2, hlk] at s1
        exact (mul_cancel (hl k (by omega)) s1).symm
    · by_cases e : i = k
      · subst e; rw [TK_same _ (by omega), TK_same _ (by omega)]; exact h2 i hi
      · have s1 := TK_step (aC P S) (show k < 4 by omega) hi e 4
        have s2 := TK_step (aM P S) (show k < 4 by omega) hi e 4
        rw [h1 k k (by omega) (by omega), h2 i hi, h1 i k hi (by omega), h2 k (by omega), hlk] at s1
        refine (mul_cancel (hl k (by omega)) ?_).symm
        rw [← s1, Int.mul_left_comm, ← s2, Int.mul_sub, Int.mul_left_comm, Int.mul_left_comm (TK (aM P S) k i k)]
theorem TK_pad {A : Nat → Nat → Int} (hl : ∀ k, k < 4 → lastK A k ≠ 0) {l : Nat} (hl4 : l < 4) (hd : A l l = 1) (hr : ∀ j, j < 5 → j ≠ l → A l j = 0) (hc : ∀ i, i < 4 → i ≠ l → A i l = 0) : ∀ k, k ≤ l → TK A k l l = lastK A k ∧ (∀ j, j < 5 → j ≠ l → TK A k l j = 0) ∧ ∀ i, i < 4 → i ≠ l → TK A k i l = 0
  | 0, _ => ⟨hd, hr, hc⟩
  | k + 1, hk => by
    obtain ⟨h1, h2, h3⟩ := TK_pad hl hl4 hd hr hc k (by omega)
    refine ⟨?_, fun j hj hjl => TK_z hl hl4 hr (k + 1) (by omega) j hj hjl, fun i hi hil => ?_⟩
    · have s := TK_step A (show k < 4 by omega) hl4 (show l ≠ k by omega) l
      rw [h1, h2 k (by omega) (by omega), Int.zero_mul, Int.sub_zero, Int.mul_comm] at s
      exact (mul_cancel (hl k (by omega)) s).symm
    · by_cases e : i = k
      · subst e; rw [TK_same A (by omega)]; exact h3 i hi hil
      · have s := TK_step A (show k < 4 by omega) hi e l
        rw [h3 i hi hil, h3 k (by omega) (by omega), Int.mul_zero, Int.mul_zero, Int.sub_zero] at s
        rcases Int.mul_eq_zero.mp s.symm with z | z
        · exact absurd z (hl k (by omega))
        · exact z
/-- logs that are not there change nothing -/
theorem TK_more {P : Pl} {S : Nat → Int32} (hk : PlOK P) (hS : StOK P S) (h0 : 0 < pLg P) (hF : ¬ Fl P S) : ∀ d, pLg P + d ≤ 4 → lastK (aM P S) (pLg P + d) = lastK (aM P S) (pLg P) ∧ ∀ i, i < pLg P → TK (aM P S) (pLg P + d) i 4 = TK (aM P S) (pLg P) i 4
  | 0, _ => ⟨rfl, fun _ _ => rfl⟩
  | d + 1, hd => by
    obtain ⟨h1, h2⟩ := TK_more hk hS h0 hF d (by omega)
    have hl := aM_last hk hS hF
    have hnr : ¬ Rh P S (pLg P + d) := fun z => by have := Rh_lt hk hS h0 z; omega
    have hcol : ∀ i, i < 4 → i ≠ pLg P + d → aM P S i (pLg P + d) = 0 := fun i hi hne => by rw [aM_j (by omega), if_neg hne, ifP_f hnr]; rfl
    obtain ⟨p1, p2, p3⟩ := TK_pad hl (show pLg P + d < 4 by omega) (aM_diag0 (by omega) hnr) (aM_row (by omega) hnr) hcol (pLg P + d) (Nat.le_refl _)
    refine ⟨?_, fun i hi => ?_⟩
    · show TK (aM P S) (pLg P + d) (pLg P + d) (pLg P + d) = _
      rw [p1]; exact h1
    · have s := TK_step (aM P S) (show pLg P + d < 4 by omega) (show i < 4 by omega) (show i ≠ pLg P + d by omega) 4
      rw [p1, p3 i (by omega) (by omega), Int.zero_mul, Int.sub_zero] at s
      rw [← h2 i hi]
      exact (mul_cancel (hl _ (by omega)) s).symm
def sumZ : Nat → (Nat → Int) → Int
  | 0, _ => 0
  | n + 1, f => sumZ n f + f n
theorem sumZ_s (n : Nat) (f : Nat → Int) : sumZ (n + 1) f = sumZ n f + f n := rfl
theorem sumZ_c {n : Nat} {f g : Nat → Int} (h : ∀ i, i < n → f i = g i) : sumZ n f = sumZ n g := by
  induction n with
  | zero => rfl
  | succ n ih => rw [sumZ_s, sumZ_s, ih (fun i hi => h i (by omega)), h n (by omega)]
noncomputable def logO (P : Pl) (S : Nat → Int32) (l : Nat) : Int := ((4 * sp P S l : Nat) : Int) * wOv P S l
noncomputable def fldO (P : Pl) (S : Nat → Int32) (f : Nat) : Int := sumZ (pNo P) (fun n => if pTo P n = 10 + f then ((4 * sW S n : Nat) : Int) * wOv P S (pLog P n) else 0)
noncomputable def rivO (P : Pl) (S : Nat → Int32) : Int := if pLg P = 0 then ((sS S : Nat) : Int) else sumZ (pLg P) (fun l => ((4 * lsN P S l : Nat) : Int) * wOv P S l)
noncomputable def kptO (P : Pl) (S : Nat → Int32) : Int := sumZ (pFd P) (fun f => ((4 - sQ S f : Nat) : Int) * fldO P S f)
noncomputable def drnO (P : Pl) (S : Nat → Int32) : Int := sumZ (pFd P) (fun f => ((sQ S f : Nat) : Int) * fldO P S f)
noncomputable def flow (P : Pl) (S : Nat → Int32) (f : Nat) : Int32 := ifP (wFl P S) (nI 0) (Int64.toInt32 (((100 : Int64) * oL (fldO P S f)) / oL (wUn P S)))
def WaC (μ : Mem) (w : Nat) (P : Pl) (S : Nat → Int32) : Prop := mI μ 32 w 0 = flI P S ∧ mL μ 32 w 1 = ifP (wFl P S) 0 (oL (wUn P S)) ∧ mL μ 32 w 2 = oL (rivO P S) ∧ mL μ 32 w 3 = oL (kptO P S) ∧ mL μ 32 w 4 = oL (drnO P S) ∧ (∀ l, l < pLg P → mL μ 33 w l = oL (logO P S l)) ∧ (∀ f, f < pFd P → mL μ 34 w f = oL (fldO P S f)) ∧ (∀ f, f < pFd P → mI μ 35 w f = flow P S f)
theorem WaC.fl {μ : Mem} {w : Nat} {P : Pl} {S : Nat → Int32} (h : WaC μ w P S) : mI μ 32 w 0 = flI P S := h.1
theorem WaC.un {μ : Mem} {w : Nat} {P : Pl} {S : Nat → Int32} (h : WaC μ w P S) : mL μ 32 w 1 = ifP (wFl P S) 0 (oL (wUn P S)) := h.2.1
theorem WaC.ri {μ : Mem} {w : Nat} {P : Pl} {S : Nat → Int32} (h : WaC μ w P S) : mL μ 32 w 2 = oL (rivO P S) := h.2.2.1
theorem WaC.kp {μ : Mem} {w : Nat} {P : Pl} {S : Nat → Int32} (h : WaC μ w P S) : mL μ 32 w 3 = oL (kptO P S) := h.2.2.2.1
theorem WaC.dn {μ : Mem} {w : Nat} {P : Pl} {S : Nat → Int32} (h : WaC μ w P S) : mL μ 32 w 4 = oL (drnO P S) := h.2.2.2.2.1
theorem WaC.lo {μ : Mem} {w : Nat} {P : Pl} {S : Nat → Int32} (h : WaC μ w P S) {l : Nat} (hl : l < pLg P) : mL μ 33 w l = oL (logO P S l) := h.2.2.2.2.2.1 l hl
theorem WaC.fo {μ : Mem} {w : Nat} {P : Pl} {S : Nat → Int32} (h : WaC μ w P S) {f : Nat} (hf : f < pFd P) : mL μ 34 w f = oL (fldO P S f) := h.2.2.2.2.2.2.1 f hf
theorem WaC.fw {μ : Mem} {w : Nat} {P : Pl} {S : Nat → Int32} (h : WaC μ w P S) {f : Nat} (hf : f < pFd P) : mI μ 35 w f = flow P S f := h.2.2.2.2.2.2.2 f hf
theorem WaC.fr {μ μ' : Mem} {w : Nat} {P : Pl} {S : Nat → Int32} {T : List At} (h : WaC μ w P S) (g : Fr T μ μ') (o : offR [32, 33, 34, 35] T = true) : WaC μ' w P S := by
  refine ⟨?_, ?_, ?_, ?_, ?_, fun l hl => ?_, fun f hf => ?_, fun f hf => ?_⟩
  · rw [g.I (offR_f o rfl _ _)]; exact h.fl
  · rw [g.L (offR_f o rfl _ _)]; exact h.un
  · rw [g.L (offR_f o rfl _ _)]; exact h.ri
  · rw [g.L (offR_f o rfl _ _)]; exact h.kp
  · rw [g.L (offR_f o rfl _ _)]; exact h.dn
  · rw [g.L (offR_f o rfl _ _)]; exact h.lo hl
  · rw [g.L (offR_f o rfl _ _)]; exact h.fo hf
  · rw [g.I (offR_f o rfl _ _)]; exact h.fw hf
theorem sumZ_0 {n : Nat} {f : Nat → Int} (h : ∀ i, i < n → f i = 0) : sumZ n f = 0 := by
  induction n with
  | zero => rfl
  | succ n ih => rw [sumZ_s, ih (fun i hi => h i (by omega)), h n (by omega)]; rfl
theorem wOv_off {P : Pl} {S : Nat → Int32} (h : ¬ (0 < pLg P ∧ ¬ Fl P S)) (l : Nat) : wOv P S l = 0 := ifP_f h
theorem fldO_off {P : Pl} {S : Nat → Int32} (h : ¬ (0 < pLg P ∧ ¬ Fl P S)) (f : Nat) : fldO P S f = 0 := sumZ_0 (fun i _ => by rw [wOv_off h]; split <;> simp)
theorem wa_hundredfold_e {x y : Int64} (μ : Mem) (h : ¬ y = 0) : wa_hundredfold x y μ = some (Int64.toInt32 (((100 : Int64) * x) / y), μ) := by
  unfold wa_hundredfold
  simp only [lg_cmp0 h, h, not_false_eq_true, ↓reduceIte]
theorem wa_hundredfold_0 {x : Int64} (μ : Mem) : wa_hundredfold x 0 μ = some (nI 0, μ) := by
  unfold wa_hundredfold
  simp only [lg_cmp00, ↓reduceIte]
theorem wa_shareOut_e {μ : Mem} {w p s : Nat} {P : Pl} {S : Nat → Int32} (hk : PlOK P) (hS : StOK P S) (hP : PlC μ p P) (hs : StC μ s P S) (h0 : 0 < pLg P) (hF : ¬ Fl P S) (h36 : ∀ l, l < pLg P → mI μ 36 w l = nI (sp P S l)) (h37 : ∀ l, l < pLg P → mI μ 37 w l = nI (lsN P S l)) (h41 : ∀ l, l < pLg P → mL μ 41 (4 * w + l) 4 = oL (4 * wOv P S l)) (q0 : mI μ 32 w 0 = nI 0) (q1 : mL μ 32 w 1 = oL (wUn P S)) (q2 : mL μ 32 w 2 = 0) (q3 : mL μ 32 w 3 = 0) (q4 : mL μ 32 w 4 = 0) (h34 : ∀ k, k < 6 → mL μ 34 w k = 0) : ∃ μ', wa_shareOut w p s μ = some ((), μ') ∧ WaC μ' w P S := by
  have hk0 := hk
  obtain ⟨k1, k2, k3, k4, k5, -⟩ := hk
  have hU := wUn_pos hk0 hS
  have hUz : ¬ oL (wUn P S) = 0 := oL_ne (by omega) (by omega) (by omega)
  have hnF : ¬ wFl P S := fun z => hF z.2
  have hr0 : rivO P S = sumZ (pLg P) (fun l => ((4 * lsN P S l : Nat) : Int) * wOv P S l) := if_neg (by omega)
  -- the fields
  have L137 : ∀ (μ : Mem), PlC μ p P → StC μ s P S → mI μ 32 w 0 = nI 0 → mL μ 32 w 1 = oL (wUn P S) → mL μ 32 w 2 = oL (rivO P S) → (∀ l, l < pLg P → mL μ 33 w l = oL (logO P S l)) → (∀ f, f < 6 → mL μ 34 w f = oL (fldO P S f)) → mL μ 32 w 3 = oL 0 → mL μ 32 w 4 = oL 0 → ∃ ν, wa_shareOut_L137 w p s (nI 0) μ = some ((), ν) ∧ WaC ν w P S := by
    intro μ hP hs q0 q1 q2 h33 h34 q3 q4
    refine fixN_up (fun f (self : Int32 → Mem → Option (Unit × Mem)) => ∀ μ, PlC μ p P → StC μ s P S → mI μ 32 w 0 = nI 0 → mL μ 32 w 1 = oL (wUn P S) → mL μ 32 w 2 = oL (rivO P S) → (∀ l, l < pLg P → mL μ 33 w l = oL (logO P S l)) → (∀ f, f < 6 → mL μ 34 w f = oL (fldO P S f)) → mL μ 32 w 3 = oL (sumZ f (fun f => ((4 - sQ S f : Nat) : Int) * fldO P S f)) → mL μ 32 w 4 = oL (sumZ f (fun f => ((sQ S f : Nat) : Int) * fldO P S f)) → (∀ g, g < f → mI μ 35 w g = flow P S g) → ∃ ν, self (nI f) μ = some ((), ν) ∧ WaC ν w P S) (pFd P) ?_ ?_ 60000 0 (by omega) (by omega) μ hP hs q0 q1 q2 h33 h34 q3 q4 (fun g hg => by omega)
    · intro f self hf ih μ hP hs q0 q1 q2 h33 h34 q3 q4 h35
      have h34f := h34 f (by omega)
      have e1 := wa_hundredfold_e (x := oL (fldO P S f)) μ hUz
      obtain ⟨a1, a2, -⟩ := hS.2.1 f hf
      have hq6 := (hs.qu hf).trans a1
      have hfl : Int64.toInt32 (((100 : Int64) * oL (fldO P S f)) / oL (wUn P S)) = flow P S f := (ifP_f hnF).symm
      unfold wa_shareOut_B137
      rw [hfl] at e1
      simp (disch := omega) only [hP.fd, nI_leF, inB_nI, cl_nI, h34f, q1, ↓ob_eq e1, ↓mb_e, mL_stL, mL_stI, mI_stI, mI_stL, hq6, q3, q4, pk_sub, oL_nI, oL_mul, oL_add, nI_add, and_false, false_and, and_true, true_and, and_self, Nat.reduceEqDiff, ↓reduceIte]
      refine ih _ hP hs q0 ?_ ?_ h33 h34 ?_ ?_ (fun g hg => ?_)
      · simp [mL_stL, mL_stI, q1]
      · simp [mL_stL, mL_stI, q2]
      · simp [mL_stL, mL_stI, sumZ_s]
      · simp [mL_stL, mL_stI, sumZ_s]
      · rw [mI_stL, mI_stL, mI_stI]
        by_cases e : g = f
        · subst e; rw [if_pos ⟨rfl, rfl, rfl⟩]
        · rw [if_neg (fun z => e z.2.2)]; exact h35 g (by omega)
    · intro self μ hP hs q0 q1 q2 h33 h34 q3 q4 h35
      unfold wa_shareOut_B137
      simp (disch := omega) only [hP.fd, nI_leT, ↓reduceIte]
      exact ⟨μ, rfl, q0.trans (ifP_f hnF).symm, q1.trans (ifP_f hnF).symm, q2, q3, q4, h33, fun f hf => h34 f (by omega), h35⟩
  -- the notches
  have L65 : ∀ (μ : Mem), PlC μ p P → StC μ s P S → (∀ l, l < pLg P → mL μ 41 (4 * w + l) 4 = oL (4 * wOv P S l)) → mI μ 32 w 0 = nI 0 → mL μ 32 w 1 = oL (wUn P S) → mL μ 32 w 2 = oL (rivO P S) → (∀ l, l < pLg P → mL μ 33 w l = oL (logO P S l)) → (∀ f, f < 6 → mL μ 34 w f = oL 0) → mL μ 32 w 3 = oL 0 → mL μ 32 w 4 = oL 0 → ∃ ν, wa_shareOut_L65 w p s (fun μ34 => wa_shareOut_L137 w p s (nI 0) μ34) (nI 0) μ = some ((), ν) ∧ WaC ν w P S := by
    intro μ hP hs h41 q0 q1 q2 h33 h34 q3 q4
    refine fixN_up (fun i (self : Int32 → Mem → Option (Unit × Mem)) => ∀ μ, PlC μ p P → StC μ s P S → (∀ l, l < pLg P → mL μ 41 (4 * w + l) 4 = oL (4 * wOv P S l)) → mI μ 32 w 0 = nI 0 → mL μ 32 w 1 = oL (wUn P S) → mL μ 32 w 2 = oL (rivO P S) → (∀ l, l < pLg P → mL μ 33 w l = oL (logO P S l)) → (∀ f, f < 6 → mL μ 34 w f = oL (sumZ i (fun n => if pTo P n = 10 + f then ((4 * sW S n : Nat) : Int) * wOv P S (pLog P n) else 0))) → mL μ 32 w 3 = oL 0 → mL μ 32 w 4 = oL 0 → ∃ ν, self (nI i) μ = some ((), ν) ∧ WaC ν w P S) (pNo P) ?_ ?_ 60000 0 (by omega) (by omega) μ hP hs h41 q0 q1 q2 h33 h34 q3 q4
    · intro i self hi ih μ hP hs h41 q0 q1 q2 h33 h34 q3 q4
      have h4 := k4 i hi
      have h5 := k5 i hi
      have hto : pTo P i < 2147483648 := by omega
      obtain ⟨w1, w2⟩ := hS.1 i hi
      have hw := (hs.wi hi).trans w1
      unfold wa_shareOut_B65
      rcases h5 with h5 | ⟨h5, h6⟩ | h5
      · have hneg : (nI (pTo P i) - nI 10 < nI 0) = True := eq_true (pk_sneg (by omega) (by omega))
        simp (disch := omega) only [hP.no, nI_leF, inB_nI, cl_nI, hP.to hi, hneg, nI_add, ↓reduceIte]
        refine ih μ hP hs h41 q0 q1 q2 h33 (fun f hf => ?_) q3 q4
        rw [h34 f hf, sumZ_s, if_neg (by omega), Int.add_zero]
      · have hf34 := h34 (pTo P i - 10) (by omega)
        have h41l := h41 (pLog P i) h4
        simp (disch := omega) only [hP.no, hP.fd, nI_leF, inB_nI, cl_nI, hP.to hi, hP.lo hi, pk_sub, nI_ltF, hw, hf34, h41l, oL_nI, oL_mul, oL_add, ↓mb_e, nI_add, ↓reduceIte]
        refine ih _ hP hs h41 q0 q1 q2 h33 (fun f hf => ?_) q3 q4
        rw [mL_stL, sumZ_s]
        by_cases e : f = pTo P i - 10
        · rw [if_pos ⟨rfl, rfl, e⟩, if_pos (by omega), e]
          congr 2
          rw [Int.natCast_mul]
          show (sW S i : Int) * (4 * _) = (4 : Int) * (sW S i : Int) * _
          rw [Int.mul_left_comm, Int.mul_assoc]
        · rw [if_neg (fun z => e z.2.2), h34 f hf, if_neg (by omega), Int.add_zero]
      · have h23 := hP.to hi
        rw [h5] at h23
        have e10 : nI 20 - nI 10 = nI 10 := by decide
        simp (disch := omega) only [hP.no, hP.fd, nI_leF, nI_leT, inB_nI, cl_nI, h23, e10, nI_ltF, nI_add, ↓reduceIte]
        refine ih μ hP hs h41 q0 q1 q2 h33 (fun f hf => ?_) q3 q4
        rw [h34 f hf, sumZ_s, if_neg (by omega), Int.add_zero]
    · intro self μ hP hs h41 q0 q1 q2 h33 h34 q3 q4
      unfold wa_shareOut_B65
      simp (disch := omega) only [hP.no, nI_leT, ↓reduceIte]
      exact L137 μ hP hs q0 q1 q2 h33 h34 q3 q4
  unfold wa_shareOut
  refine fixN_up (fun l (self : Int32 → Mem → Option (Unit × Mem)) => ∀ μ, PlC μ p P → StC μ s P S → (∀ l, l < pLg P → mI μ 36 w l = nI (sp P S l)) → (∀ l, l < pLg P → mI μ 37 w l = nI (lsN P S l)) → (∀ l, l < pLg P → mL μ 41 (4 * w + l) 4 = oL (4 * wOv P S l)) → mI μ 32 w 0 = nI 0 → mL μ 32 w 1 = oL (wUn P S) → mL μ 32 w 2 = oL (sumZ l (fun l => ((4 * lsN P S l : Nat) : Int) * wOv P S l)) → (∀ j, j < l → mL μ 33 w j = oL (logO P S j)) → (∀ f, f < 6 → mL μ 34 w f = oL 0) → mL μ 32 w 3 = oL 0 → mL μ 32 w 4 = oL 0 → ∃ ν, self (nI l) μ = some ((), ν) ∧ WaC ν w P S) (pLg P) ?_ ?_ 60000 0 (by omega) (by omega) μ hP hs h36 h37 h41 q0 q1 q2 (fun j hj => by omega) h34 q3 q4
  · intro l self hl ih μ hP hs h36 h37 h41 q0 q1 q2 h33 h34 q3 q4
    have b1 := sp_le hk0 hS l
    have b2 := lsN_le hk0 hS l
    unfold wa_shareOut_B2
    simp (disch := omega) only [hP.lg, nI_leF, inB_nI, cl_nI, h36 l hl, h41 l hl, oL_nI, oL_mul, ↓mb_e, ↓reduceIte]
    have t1 : mL (stL μ 33 w l (oL ((sp P S l : Int) * (4 * wOv P S l)))) 32 w 2 = oL (sumZ l (fun l => ((4 * lsN P S l : Nat) : Int) * wOv P S l)) := by rw [mL_stL, if_neg (by simp)]; exact q2
    have t2 : mI (stL μ 33 w l (oL ((sp P S l : Int) * (4 * wOv P S l)))) 37 w l = nI (lsN P S l) := h37 l hl
    have t3 : mL (stL μ 33 w l (oL ((sp P S l : Int) * (4 * wOv P S l)))) 41 (4 * w + l) 4 = oL (4 * wOv P S l) := by rw [mL_stL, if_neg (by simp)]; exact h41 l hl
    simp (disch := omega) only [t1, t2, t3, oL_nI, oL_mul, oL_add, nI_add]
    refine ih _ hP hs h36 h37 (fun a ha => ?_) q0 ?_ ?_ (fun j hj => ?_) (fun f hf => ?_) ?_ ?_
    · rw [mL_stL, if_neg (by simp), mL_stL, if_neg (by simp)]; exact h41 a ha
    · rw [mL_stL, if_neg (by simp), mL_stL, if_neg (by simp)]; exact q1
    · rw [mL_stL, if_pos ⟨rfl, rfl, rfl⟩, sumZ_s]
      congr 2
      rw [Int.natCast_mul]
      show (lsN P S l : Int) * (4 * _) = (4 : Int) * (lsN P S l : Int) * _
      rw [Int.mul_left_comm, Int.mul_assoc]
    · rw [mL_stL, if_neg (by simp), mL_stL]
      by_cases e : j = l
      · subst e
        rw [if_pos ⟨rfl, rfl, rfl⟩]
        unfold logO
        congr 1
        rw [Int.natCast_mul]
        show (sp P S j : Int) * (4 * _) = (4 : Int) * (sp P S j : Int) * _
        rw [Int.mul_left_comm, Int.mul_assoc]
      · rw [if_neg (fun z => e z.2.2)]; exact h33 j (by omega)
    · rw [mL_stL, if_neg (by simp), mL_stL, if_neg (by simp)]; exact h34 f hf
    · rw [mL_stL, if_neg (by simp), mL_stL, if_neg (by simp)]; exact q3
    · rw [mL_stL, if_neg (by simp), mL_stL, if_neg (by simp)]; exact q4
  · intro self μ hP hs h36 h37 h41 q0 q1 q2 h33 h34 q3 q4
    unfold wa_shareOut_B2
    simp (disch := omega) only [hP.lg, nI_leT, ↓reduceIte]
    exact L65 μ hP hs h41 q0 q1 (by rw [hr0]; exact q2) h33 h34 q3 q4

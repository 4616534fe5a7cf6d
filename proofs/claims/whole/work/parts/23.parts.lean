/-! the reference's parts -/
noncomputable def flI (P : Pl) (S : Nat → Int32) : Int32 := ifP (wFl P S) (nI 1) (nI 0)
def WaM (μ : Mem) (P : Pl) (S : Nat → Int32) : Prop := mI μ 55 0 56 = flI P S ∧ mL μ 55 0 57 = oL (wUn P S) ∧ (∀ l, l < 4 → mL μ 92 0 l = oL (wOv P S l)) ∧ (0 < pLg P → ∀ l, l < 4 → mI μ 90 0 l = nI (wN P S l))
theorem one_b : nI 1 = bitI 4 (fun i => i == 0) := by decide
theorem m_parts_e {μ : Mem} {lv : Nat} {P : Pl} {S : Nat → Int32} (hk : PlOK P) (hS : StOK P S) (h : PlM μ lv P) (hr : RwM μ S) : ∃ μ', m_parts μ = some ((), μ') ∧ WaM μ' P S := by
  have k1 := hk.1
  have hl2 := h.l2
  have eOff : ¬ (0 < pLg P ∧ ¬ Fl P S) → wUn P S = 1 ∧ ∀ l, wOv P S l = 0 := fun z => ⟨ifP_f z, fun l => ifP_f z⟩
  -- the elimination's loop and what is kept of it
  have EL : ∀ (p : Nat → Bool), 0 < pLg P → ¬ Fl P S → (∀ t, t < 4 → (p t = true ↔ Rh P S t)) → ∀ (μ : Mem), mI μ 55 0 56 = nI 0 → mL μ 55 0 57 = oL 1 → (∀ l, l < 4 → mI μ 90 0 l = nI (wN P S l)) → TbM μ (aM P S) → ∃ ν, m_parts_L77 (bitI 4 p) (fun μ57 => m_parts_L114 (bitI 4 p) (nI 0) μ57) (nI 0) μ = some ((), ν) ∧ WaM ν P S := by
    intro p h0 hF hp μ q1 q2 q3 q4
    have hA := aM_AB hk hS
    have hla := aM_last hk hS hF
    have hU : wUn P S = TK (aM P S) 3 3 3 := ifP_t ⟨h0, hF⟩
    refine fixN_up (fun k (self : Int32 → Mem → Option (Unit × Mem)) => ∀ μ, mI μ 55 0 56 = nI 0 → mL μ 55 0 57 = oL (lastK (aM P S) k) → (∀ l, l < 4 → mI μ 90 0 l = nI (wN P S l)) → TbM μ (TK (aM P S) k) → ∃ ν, self (nI k) μ = some ((), ν) ∧ WaM ν P S) 4 ?_ ?_ 60000 0 (by omega) (by omega) μ q1 q2 q3 q4
    · intro k self hk4 ih μ q1 q2 q3 q4
      obtain ⟨μ2, e2, t2⟩ := m_clears_e hA hk4 q4 (hla k hk4)
      have fr := f_m_clears e2
      have hp0 : mL μ 93 0 (6 * k) = oL (TK (aM P S) k k k) := by rw [← q4 k k hk4 (by omega)]; congr 1; omega
      unfold m_parts_B77
      simp (disch := omega) only [nI_leF, pk_mul, nI_add, inB_nI, cl_nI, q2, hp0, ↓ob_eq e2, ↓mb_e, ↓reduceIte]
      refine ih _ ((fr.I rfl).trans q1) ?_ (fun l hl => (fr.I rfl).trans (q3 l hl)) t2
      rw [mL_stL, if_pos ⟨rfl, rfl, rfl⟩]; rfl
    · intro self μ q1 q2 q3 q4
      unfold m_parts_B77
      simp (disch := omega) only [nI_leT, ↓reduceIte]
      have q2' : mL μ 55 0 57 = oL (wUn P S) := by rw [hU]; exact q2
      have hfl : nI 0 = flI P S := (ifP_f (fun z => hF z.2)).symm
      refine fixN_up (fun l (self : Int32 → Mem → Option (Unit × Mem)) => ∀ μ, mI μ 55 0 56 = nI 0 → mL μ 55 0 57 = oL (wUn P S) → (∀ l, l < 4 → mI μ 90 0 l = nI (wN P S l)) → TbM μ (TK (aM P S) 4) → (∀ j, j < l → mL μ 92 0 j = oL (wOv P S j)) → ∃ ν, self (nI l) μ = some ((), ν) ∧ WaM ν P S) 4 ?_ ?_ 60000 0 (by omega) (by omega) μ q1 q2' q3 q4 (fun j hj => by omega)
      · intro l self hl ih μ q1 q2 q3 q4 q5
        have hT := q4 l 4 hl (by decide)
        have hO : wOv P S l = TK (aM P S) 4 l 4 := ifP_t ⟨h0, hF⟩
        have ht := tst4 p hl
        unfold m_parts_B114
        by_cases c : p l = true
        · rw [eq_true c] at ht
          simp (disch := omega) only [nI_leF, ht, pk_mul, nI_add, inB_nI, cl_nI, hT, ↓mb_e, ↓reduceIte]
          refine ih _ q1 q2 q3 q4 (fun j hj => ?_)
          rw [mL_stL]
          by_cases e : j = l
          · subst e; rw [if_pos ⟨rfl, rfl, rfl⟩, hO]
          · rw [if_neg (fun z => e z.2.2)]; exact q5 j (by omega)
        · rw [eq_false c] at ht
          simp (disch := omega) only [nI_leF, ht, nI_add, inB_nI, cl_nI, ↓reduceIte]
          refine ih _ q1 q2 q3 q4 (fun j hj => ?_)
          rw [mL_stL]
          by_cases e : j = l
          · subst e
            rw [if_pos ⟨rfl, rfl, rfl⟩, wOv_z hk hS hl (fun z => c ((hp j hl).mpr z))]; rfl
          · rw [if_neg (fun z => e z.2.2)]; exact q5 j (by omega)
      · intro self μ q1 q2 q3 q4 q5
        unfold m_parts_B114
        simp (disch := omega) only [nI_leT, ↓reduceIte]
        exact ⟨μ, rfl, q1.trans hfl, q2, q5, fun _ => q3⟩
  unfold m_parts
  simp only [↓mb_e]
  refine fixN_up (fun i (self : Int32 → Mem → Option (Unit × Mem)) => ∀ μ, PlM μ lv P → RwM μ S → mI μ 55 0 56 = nI 0 → mL μ 55 0 57 = oL 1 → (∀ j, j < i → mL μ 92 0 j = oL 0) → ∃ ν, self (nI i) μ = some ((), ν) ∧ WaM ν P S) 4 ?_ ?_ 60000 0 (by omega) (by omega) _ ?_ ?_ ?_ ?_ (fun j hj => by omega)
  · intro i self hi ih μ h hr q1 q2 q3
    unfold m_parts_B12
    simp (disch := omega) only [nI_leF, nI_add, inB_nI, cl_nI, ↓reduceIte]
    refine ih _ h hr q1 q2 (fun j hj => ?_)
    rw [mL_stL]
    by_cases e : j = i
    · subst e; rw [if_pos ⟨rfl, rfl, rfl⟩]; rfl
    · rw [if_neg (fun z => e z.2.2)]; exact q3 j (by omega)
  · intro self μ h hr q1 q2 q3
    unfold m_parts_B12
    by_cases h0 : pLg P = 0
    · have h65 := h.lg
      rw [h0] at h65
      simp (disch := omega) only [nI_leT, h.lv, inB_nI, cl_nI, h65, ↓reduceIte]
      obtain ⟨u1, u2⟩ := eOff (by omega)
      exact ⟨μ, rfl, q1.trans (ifP_f (fun z => by have := z.1; omega)).symm, by rw [u1]; exact q2, fun l hl => by rw [u2]; exact q3 l hl, fun z => by omega⟩
    · obtain ⟨μ2, e2, w2, L2⟩ := m_fillsLeads_e hk hS h hr
      have fr2 := f_m_fillsLeads e2
      have P2 : PlM μ2 lv P := h.fr fr2 rfl rfl
      have R2 : RwM μ2 S := hr.fr fr2 rfl
      obtain ⟨r, e3, r3⟩ := m_comesBy_e hk hS L2 (show 0 < 4 by decide)
      rw [← one_b] at e3
      obtain ⟨b, e4, b4⟩ := m_isShut_e hk hS P2 R2 w2 L2 r3
      have a1 : mI μ2 55 0 56 = nI 0 := (fr2.I rfl).trans q1
      have a2 : mL μ2 55 0 57 = oL 1 := (fr2.L rfl).trans q2
      have a3 : ∀ l, l < 4 → mL μ2 92 0 l = oL 0 := fun l hl => (fr2.L rfl).trans (q3 l hl)
      by_cases c : b = true
      · have hF := b4.mp c
        rw [if_pos c] at e4
        simp (disch := omega) only [nI_leT, h.lv, inB_nI, cl_nI, h.lg, nI_eqF, ↓ob_eq e2, ↓ob_eq e3, ↓ob_eq e4, mI_stI, and_self, nI_10, or_true, ↓reduceIte]
        obtain ⟨u1, u2⟩ := eOff (fun z => z.2 hF)
        refine ⟨_, rfl, ?_, by rw [u1]; exact a2, fun l hl => by rw [u2]; exact a3 l hl, fun _ => w2⟩
        rw [mI_stI, if_pos ⟨rfl, rfl, rfl⟩]
        exact (ifP_t ⟨by omega, hF⟩).symm
      · have hF : ¬ Fl P S := fun z => c (b4.mpr z)
        rw [if_neg c] at e4
        have P3 : PlM (stI μ2 55 0 56 (nI 0)) lv P := P2
        have R3 : RwM (stI μ2 55 0 56 (nI 0)) S := R2
        obtain ⟨μ5, e5, t5⟩ := m_fillsTable_e hk hS P3 R3 w2 L2 r3 (by omega)
        have fr5 := f_m_fillsTable e5
        simp (disch := omega) only [nI_leT, h.lv, inB_nI, cl_nI, h.lg, nI_eqF, ↓ob_eq e2, ↓ob_eq e3, ↓ob_eq e4, ↓ob_eq e5, mI_stI, and_self, true_or, ↓reduceIte]
        exact EL r (by omega) hF r3 μ5 ((fr5.I rfl).trans (by rw [mI_stI, if_pos ⟨rfl, rfl, rfl⟩])) ((fr5.L rfl).trans a2) (fun l hl => (fr5.I rfl).trans (w2 l hl)) t5
  · exact h
  · exact hr
  · rfl
  · rfl
theorem WaM.fl {μ : Mem} {P : Pl} {S : Nat → Int32} (h : WaM μ P S) : mI μ 55 0 56 = flI P S := h.1
theorem WaM.un {μ : Mem} {P : Pl} {S : Nat → Int32} (h : WaM μ P S) : mL μ 55 0 57 = oL (wUn P S) := h.2.1
theorem WaM.ov {μ : Mem} {P : Pl} {S : Nat → Int32} (h : WaM μ P S) {l : Nat} (hl : l < 4) : mL μ 92 0 l = oL (wOv P S l) := h.2.2.1 l hl
/-- what is told of a world of the reference: its plan, its row, its water -/
def MW (μ : Mem) (lv : Nat) (P : Pl) (S : Nat → Int32) : Prop := PlM μ lv P ∧ RwM μ S ∧ WaM μ P S

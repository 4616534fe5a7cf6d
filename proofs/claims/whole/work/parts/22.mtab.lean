/-! the reference's table and its water -/
def TbM (μ : Mem) (A : Nat → Nat → Int) : Prop := ∀ i j, i < 4 → j < 5 → mL μ 93 0 (5 * i + j) = oL (A i j)
/-- a table's place written -/
theorem ix5 {i j a b : Nat} (hj : j < 5) (hb : b < 5) : (5 * i + j = 5 * a + b) = (i = a ∧ j = b) := propext ⟨fun h => by omega, fun h => by omega⟩
theorem if_c {α : Type} {p q : Prop} {dp : Decidable p} {dq : Decidable q} (h : p ↔ q) (a b : α) : @ite α p dp a b = @ite α q dq a b := by
  by_cases e : p
  · rw [if_pos e, if_pos (h.mp e)]
  · rw [if_neg e, if_neg (fun z => e (h.mpr z))]
theorem mL_93 (μ : Mem) (k : Nat) (v : Int64) (k' : Nat) : mL (stL μ 93 0 k v) 93 0 k' = if k' = k then v else mL μ 93 0 k' := by
  rw [mL_stL]
  by_cases e : k' = k
  · rw [if_pos ⟨rfl, rfl, e⟩, if_pos e]
  · rw [if_neg (fun z => e z.2.2), if_neg e]
/-- the row of a reached log, so far as the logs below o are told -/
noncomputable def rwO (P : Pl) (S : Nat → Int32) (l o j : Nat) : Int := (if l = j then ((4 * sp P S l : Nat) : Int) else 0) - (if j < o then ifP (Rh P S j) ((leadN P S j l : Nat) : Int) 0 else 0)
theorem rwO_end {P : Pl} {S : Nat → Int32} (hk : PlOK P) (hS : StOK P S) {l j : Nat} (hr : Rh P S l) (hj : j < 4) : rwO P S l (pLg P) j = aM P S l j := by
  unfold rwO
  rw [aM_j hj]
  by_cases e : l = j
  · subst e
    have := Rh_lt hk hS
    by_cases h0 : 0 < pLg P
    · rw [if_pos rfl, if_pos rfl, ifP_t hr, ifP_t hr, if_pos (Rh_lt hk hS h0 hr)]
    · rw [if_pos rfl, if_pos rfl, ifP_t hr, ifP_t hr, if_neg (by omega)]
      have : leadN P S l l = 0 := Nat.eq_zero_of_not_pos (fun z => by have := (lead_in hk hS z).1; omega)
      rw [this]; rfl
  · rw [if_neg e, if_neg e]
    by_cases hjl : j < pLg P
    · rw [if_pos hjl]
    · rw [if_neg hjl]
      have : leadN P S j l = 0 := Nat.eq_zero_of_not_pos (fun z => by have := (lead_in hk hS z).1; omega)
      rw [this]
      unfold ifP
      split <;> rfl
theorem m_fillsTable_e {μ : Mem} {lv : Nat} {P : Pl} {S : Nat → Int32} (hk : PlOK P) (hS : StOK P S) (h : PlM μ lv P) (hr : RwM μ S) (hw : ∀ l, l < 4 → mI μ 90 0 l = nI (wN P S l)) (hL : LdM μ P S) {p : Nat → Bool} (hp : ∀ t, t < 4 → (p t = true ↔ Rh P S t)) (h0 : 0 < pLg P) : ∃ μ', m_fillsTable (bitI 4 p) μ = some ((), μ') ∧ TbM μ' (aM P S) := by
  have k1 := hk.1
  have hl2 := h.l2
  -- the inner loop
  have IN : ∀ (l : Nat) (K : Mem → Option (Unit × Mem)) (Q : Prop) (μ : Mem), l < pLg P → Rh P S l → PlM μ lv P → LdM μ P S → (∀ j, j < 4 → mL μ 93 0 (5 * l + j) = oL (rwO P S l 0 j)) →
      (∀ μ', (∀ k, (∀ j, j < 4 → k ≠ 5 * l + j) → mL μ' 93 0 k = mL μ 93 0 k) → (∀ r i, r ≠ 93 → mI μ' r i = mI μ r i) → (∀ j, j < 4 → mL μ' 93 0 (5 * l + j) = oL (aM P S l j)) → ∃ ν, K μ' = some ((), ν) ∧ TbM ν (aM P S)) → ∃ ν, m_fillsTable_L91 (bitI 4 p) (nI l) K (nI 0) μ = some ((), ν) ∧ TbM ν (aM P S) := by
    intro l K Q μ0 hl hrl h hL hb hK
    refine fixN_up (fun o (self : Int32 → Mem → Option (Unit × Mem)) => ∀ μ, (∀ k, (∀ j, j < 4 → k ≠ 5 * l + j) → mL μ 93 0 k = mL μ0 93 0 k) → (∀ r i, r ≠ 93 → mI μ r i = mI μ0 r i) → (∀ j, j < 4 → mL μ 93 0 (5 * l + j) = oL (rwO P S l o j)) → ∃ ν, self (nI o) μ = some ((), ν) ∧ TbM ν (aM P S)) (pLg P) ?_ ?_ 60000 0 (by omega) (by omega) μ0 (fun _ _ => rfl) (fun _ _ _ => rfl) hb
    · intro o self ho ih μ q1 q2 q3
      have h55 : mI μ 55 0 18 = nI lv := by rw [q2 55 0 (by decide)]; exact h.lv
      have h65 : mI μ 65 0 lv = nI (pLg P) := by rw [q2 65 0 (by decide)]; exact h.lg
      have h91 : mI μ 91 0 (4 * o + l) = nI (leadN P S o l) := by rw [q2 91 0 (by decide)]; exact hL o l (by omega) (by omega)
      have hT := q3 o (by omega)
      have hbd := lead_bd hk hS o l
      have ht := tst4 p (show o < 4 by omega)
      have hrw : rwO P S l o o = if l = o then ((4 * sp P S l : Nat) : Int) else 0 := by unfold rwO; rw [if_neg (Nat.lt_irrefl o), Int.sub_zero]
      unfold m_fillsTable_B91
      by_cases c : p o = true
      · rw [eq_true c] at ht
        have hro := (hp o (by omega)).mp c
        simp (disch := omega) only [h55, h65, inB_nI, cl_nI, nI_leF, ht, pk_mul, nI_add, h91, hT, oL_nI, oL_sub, ↓mb_e, ↓reduceIte]
        refine ih _ (fun k hk2 => ?_) (fun r i hr2 => q2 r i hr2) (fun j hj => ?_)
        · rw [mL_93, if_neg (hk2 o (by omega))]; exact q1 k hk2
        · rw [mL_93]
          by_cases e : j = o
          · subst e
            rw [if_pos rfl, hrw]
            unfold rwO
            rw [if_pos (Nat.lt_succ_self j), ifP_t hro]
          · rw [if_neg (by omega), q3 j hj]
            unfold rwO
            rw [if_c (show j < o ↔ j < o + 1 from ⟨fun _ => by omega, fun _ => by omega⟩)]
      · rw [eq_false c] at ht
        have hro : ¬ Rh P S o := fun z => c ((hp o (by omega)).mpr z)
        simp (disch := omega) only [h55, h65, inB_nI, cl_nI, nI_leF, ht, nI_add, ↓reduceIte]
        refine ih _ q1 q2 (fun j hj => ?_)
        rw [q3 j hj]
        unfold rwO
        by_cases e : j = o
        · subst e
          rw [if_neg (Nat.lt_irrefl j), if_pos (Nat.lt_succ_self j), ifP_f hro]
        · rw [if_c (show j < o ↔ j < o + 1 from ⟨fun _ => by omega, fun _ => by omega⟩)]
    · intro self μ q1 q2 q3
      have h55 : mI μ 55 0 18 = nI lv := by rw [q2 55 0 (by decide)]; exact h.lv
      have h65 : mI μ 65 0 lv = nI (pLg P) := by rw [q2 65 0 (by decide)]; exact h.lg
      unfold m_fillsTable_B91
      simp (disch := omega) only [h55, h65, inB_nI, cl_nI, nI_leT, ↓reduceIte]
      exact hK μ q1 q2 (fun j hj => by rw [q3 j hj, rwO_end hk hS hrl hj])
  -- the outer loop
  have OUT : ∀ (μ : Mem), PlM μ lv P → RwM μ S → (∀ l, l < 4 → mI μ 90 0 l = nI (wN P S l)) → LdM μ P S → (∀ i j, i < 4 → j < 5 → mL μ 93 0 (5 * i + j) = oL (if i = j then 1 else 0)) → ∃ ν, m_fillsTable_L34 (bitI 4 p) (fun μ61 => mb (stL μ61 93 0 4 (Int32.toInt64 (mI μ61 89 0 30))) fun μ65 => some ((), μ65)) (nI 0) μ = some ((), ν) ∧ TbM ν (aM P S) := by
    intro μ h hr hw hL hid
    refine fixN_up (fun l (self : Int32 → Mem → Option (Unit × Mem)) => ∀ μ, PlM μ lv P → RwM μ S → (∀ l, l < 4 → mI μ 90 0 l = nI (wN P S l)) → LdM μ P S → (∀ i j, i < 4 → j < 4 → i < l → mL μ 93 0 (5 * i + j) = oL (aM P S i j)) → (∀ i j, i < 4 → j < 5 → (l ≤ i ∨ j = 4) → mL μ 93 0 (5 * i + j) = oL (if i = j then 1 else 0)) → ∃ ν, self (nI l) μ = some ((), ν) ∧ TbM ν (aM P S)) (pLg P) ?_ ?_ 60000 0 (by omega) (by omega) μ h hr hw hL (fun i j _ _ z => by omega) (fun i j hi hj _ => hid i j hi hj)
    · intro l self hl ih μ h hr hw hL q1 q2
      have hwl := hw l (by omega)
      have hsp := sp_le hk hS l
      have ht := tst4z p (show l < 4 by omega)
      unfold m_fillsTable_B34
      by_cases c : p l = true
      · have hrl := (hp l (by omega)).mp c
        rw [show (p l = false) = False from eq_false (by rw [c]; decide)] at ht
        have fin : ∀ (v : Int64), v = oL ((4 * sp P S l : Nat) : Int) → ∃ ν, m_fillsTable_L91 (bitI 4 p) (nI l) (fun μ57 => self (nI l + nI 1) μ57) (nI 0) (stL μ 93 0 (6 * l) v) = some ((), ν) ∧ TbM ν (aM P S) := by
          intro v hv
          refine IN l _ True _ hl hrl h hL (fun j hj => ?_) (fun μ' r1 r2 r3 => ?_)
          · rw [mL_93]
            unfold rwO
            rw [if_neg (Nat.not_lt_zero j), Int.sub_zero]
            by_cases e : l = j
            · subst e; rw [if_pos (by omega), if_pos rfl, hv]
            · rw [if_neg (by omega), q2 l j (by omega) (by omega) (Or.inl (Nat.le_refl _)), if_neg e, if_neg e]
          · rw [nI_add]
            refine ih μ' ⟨h.l2, ?_, ?_, ?_, ?_, ?_, fun f hf => ?_, fun n hn => ?_, fun n hn => ?_⟩ (fun k hk => ?_) (fun l hl => ?_) (fun a b ha hb => ?_) (fun i j hi hj hil => ?_) (fun i j hi hj hil => ?_)
            · rw [r2 55 0 (by decide)]; exact h.lv
            · rw [r2 65 0 (by decide)]; exact h.lg
            · rw [r2 66 0 (by decide)]; exact h.fd
            · rw [r2 70 0 (by decide)]; exact h.no
            · rw [r2 75 0 (by decide)]; exact h.sd
            · rw [r2 67 0 (by decide)]; exact h.ar hf
            · rw [r2 71 0 (by decide)]; exact h.lo hn
            · rw [r2 72 0 (by decide)]; exact h.to hn
            · rw [r2 89 0 (by decide)]; exact hr k hk
            · rw [r2 90 0 (by decide)]; exact hw l hl
            · rw [r2 91 0 (by decide)]; exact hL a b ha hb
            · by_cases e : i = l
              · subst e; exact r3 j hj
              · rw [r1 _ (fun j2 hj2 => by omega), mL_93, if_neg (by omega)]; exact q1 i j hi hj (by omega)
            · rw [r1 _ (fun j2 hj2 => by omega), mL_93, if_neg (by omega)]; exact q2 i j hi hj (by omega)
        by_cases e : wN P S l = 0
        · rw [e] at hwl
          simp (disch := omega) only [h.lv, h.lg, inB_nI, cl_nI, nI_leF, ht, hwl, pk_mul, ↓mb_e, ↓reduceIte]
          have := fin (Int32.toInt64 (nI 4)) (by rw [oL_nI (by decide)]; unfold sp; rw [if_pos e])
          simpa only [nI_add, pk_mul] using this
        · have hwb := wN_le hk hS l
          simp (disch := omega) only [h.lv, h.lg, inB_nI, cl_nI, nI_leF, ht, hwl, nI_eqF, pk_mul, ↓mb_e, ↓reduceIte]
          have := fin (Int32.toInt64 (nI (4 * wN P S l))) (by rw [oL_nI (by omega)]; unfold sp; rw [if_neg e])
          simpa only [nI_add, pk_mul] using this
      · have hrl : ¬ Rh P S l := fun z => c ((hp l (by omega)).mpr z)
        rw [show (p l = false) = True from eq_true (by simpa using c)] at ht
        simp (disch := omega) only [h.lv, h.lg, inB_nI, cl_nI, nI_leF, ht, nI_add, ↓reduceIte]
        refine ih μ h hr hw hL (fun i j hi hj hil => ?_) (fun i j hi hj hil => q2 i j hi hj (by omega))
        by_cases e : i = l
        · subst e
          rw [q2 i j hi (by omega) (Or.inl (Nat.le_refl _))]
          by_cases e2 : i = j
          · subst e2; rw [if_pos rfl, aM_diag0 hi hrl]
          · rw [if_neg e2, aM_row hi hrl j (by omega) (fun z => e2 z.symm)]
        · exact q1 i j hi hj (by omega)
    · intro self μ h hr hw hL q1 q2
      unfold m_fillsTable_B34
      simp (disch := omega) only [h.lv, h.lg, inB_nI, cl_nI, nI_leT, ↓mb_e, hr 30 (by decide), hS.2.2.1, oL_nI, ↓reduceIte]
      have hs9 := hS.2.2.2.2
      rw [oL_nI (by omega)]
      refine ⟨_, rfl, fun i j hi hj => ?_⟩
      rw [mL_93]
      by_cases e : 5 * i + j = 4
      · rw [if_pos e, show i = 0 by omega, show j = 4 by omega, aM_4, if_pos rfl]
      · rw [if_neg e]
        by_cases ej : j = 4
        · subst ej
          rw [q2 i 4 hi (by decide) (Or.inr rfl), aM_4, if_neg (show ¬ i = 4 by omega), if_neg (show ¬ i = 0 by omega)]
        · by_cases ei : i < pLg P
          · exact q1 i j hi (by omega) ei
          · rw [q2 i j hi hj (Or.inl (by omega))]
            have hri : ¬ Rh P S i := fun z => ei (Rh_lt hk hS h0 z)
            by_cases e2 : i = j
            · subst e2; rw [if_pos rfl, aM_diag0 hi hri]
            · rw [if_neg e2, aM_row hi hri j hj (fun z => e2 z.symm)]
  unfold m_fillsTable m_fillsTable_L2
  refine fixN_up (fun k (self : Int32 → Mem → Option (Unit × Mem)) => ∀ μ, PlM μ lv P → RwM μ S → (∀ l, l < 4 → mI μ 90 0 l = nI (wN P S l)) → LdM μ P S → (∀ q, q < k → mL μ 93 0 q = oL (if q % 6 = 0 then 1 else 0)) → ∃ ν, self (nI k) μ = some ((), ν) ∧ TbM ν (aM P S)) 20 ?_ ?_ 60000 0 (by omega) (by omega) μ h hr hw hL (fun q hq => by omega)
  · intro k self hi ih μ h hr hw hL hq
    unfold m_fillsTable_B2
    by_cases e : k % 6 = 0
    · simp (disch := omega) only [nI_leF, nI_rem2, e, inB_nI, cl_nI, nI_add, ↓reduceIte]
      refine ih _ h hr hw hL (fun q hq2 => ?_)
      rw [mL_93]
      by_cases e2 : q = k
      · subst e2; rw [if_pos rfl, if_pos e]; rfl
      · rw [if_neg e2]; exact hq q (by omega)
    · simp (disch := omega) only [nI_leF, nI_rem2, nI_eqF, inB_nI, cl_nI, nI_add, ↓reduceIte]
      refine ih _ h hr hw hL (fun q hq2 => ?_)
      rw [mL_93]
      by_cases e2 : q = k
      · subst e2; rw [if_pos rfl, if_neg e]; rfl
      · rw [if_neg e2]; exact hq q (by omega)
  · intro self μ h hr hw hL hq
    unfold m_fillsTable_B2
    simp (disch := omega) only [nI_leT, ↓reduceIte]
    refine OUT μ h hr hw hL (fun i j hi hj => ?_)
    rw [hq _ (by omega)]
    congr 1
    by_cases e : i = j
    · rw [if_pos e, if_pos (by omega)]
    · rw [if_neg e, if_neg (by omega)]
theorem m_clears_e {μ : Mem} {A : Nat → Nat → Int} (hA : AB A) {k : Nat} (hk : k < 4) (hT : TbM μ (TK A k)) (hl : lastK A k ≠ 0) : ∃ μ', m_clears (nI k) (oL (lastK A k)) μ = some ((), μ') ∧ TbM μ' (TK A (k + 1)) := by
  have hb := bd_in (lastK_bd hA hk) (by decide)
  have hlz := oL_ne hb.1 hb.2 hl
  have IN : ∀ (i : Nat) (K : Mem → Option (Unit × Mem)) (μ : Mem), i < 4 → i ≠ k → (∀ a b, a < 4 → b < 5 → mL μ 93 0 (5 * a + b) = oL (TK A (if a < i then k + 1 else k) a b)) →
      (∀ μ', (∀ a b, a < 4 → b < 5 → mL μ' 93 0 (5 * a + b) = oL (TK A (if a < i + 1 then k + 1 else k) a b)) → ∃ ν, K μ' = some ((), ν) ∧ TbM ν (TK A (k + 1))) → ∃ ν, m_clears_L36 (nI k) (oL (lastK A k)) (oL (TK A k k k)) (nI i) (oL (TK A k i k)) K (nI 0) μ = some ((), ν) ∧ TbM ν (TK A (k + 1)) := by
    intro i K μ hi hik hb hK
    refine fixN_up (fun j (self : Int32 → Mem → Option (Unit × Mem)) => ∀ μ, (∀ a b, a < 4 → b < 5 → mL μ 93 0 (5 * a + b) = oL (TK A (if a < i ∨ (a = i ∧ b < j) then k + 1 else k) a b)) → ∃ ν, self (nI j) μ = some ((), ν) ∧ TbM ν (TK A (k + 1))) 5 ?_ ?_ 60000 0 (by omega) (by omega) μ (fun a b ha hb2 => by
      rw [hb a b ha hb2]
      congr 2
      by_cases z : a < i
      · rw [if_pos z, if_pos (Or.inl z)]
      · rw [if_neg z, if_neg (by omega)])
    · intro j self hj ih μ hq
      have h1 := hq i j hi hj
      have h2 := hq k j hk hj
      rw [if_neg (by omega)] at h1
      have h3 : oL (TK A (if k < i ∨ (k = i ∧ j < j) then k + 1 else k) k j) = oL (TK A k k j) := by
        by_cases z : k < i
        · rw [if_pos (Or.inl z), TK_same A hk]
        · rw [if_neg (by omega)]
      rw [h3] at h2
      unfold m_clears_B36
      simp (disch := omega) only [nI_leF, nI_eqF, pk_mul, nI_add, inB_nI, cl_nI, hlz, not_false_eq_true, h1, h2, el_step hA hk hi hik hj hl, ↓mb_e, ↓reduceIte]
      refine ih _ (fun a b ha hb2 => ?_)
      rw [mL_93]
      by_cases e : a = i ∧ b = j
      · rw [if_pos (by omega), e.1, e.2, if_pos (Or.inr ⟨rfl, Nat.lt_succ_self j⟩)]
      · rw [if_neg (by omega), hq a b ha hb2]
        congr 2
        by_cases z : a < i ∨ (a = i ∧ b < j)
        · rw [if_pos z, if_pos (by omega)]
        · rw [if_neg z, if_neg (by omega)]
    · intro self μ hq
      unfold m_clears_B36
      simp (disch := omega) only [nI_leT, ↓reduceIte]
      refine hK μ (fun a b ha hb2 => ?_)
      rw [hq a b ha hb2]
      congr 2
      by_cases z : a < i + 1
      · rw [if_pos z, if_pos (by omega)]
      · rw [if_neg z, if_neg (by omega)]
  unfold m_clears
  have hp : mL μ 93 0 (6 * k) = oL (TK A k k k) := by rw [← hT k k hk (by omega)]; congr 1; omega
  simp (disch := omega) only [pk_mul, inB_nI, cl_nI, hp, ↓reduceIte]
  refine fixN_up (fun i (self : Int32 → Mem → Option (Unit × Mem)) => ∀ μ, (∀ a b, a < 4 → b < 5 → mL μ 93 0 (5 * a + b) = oL (TK A (if a < i then k + 1 else k) a b)) → ∃ ν, self (nI i) μ = some ((), ν) ∧ TbM ν (TK A (k + 1))) 4 ?_ ?_ 60000 0 (by omega) (by omega) μ (fun a b ha hb2 => by rw [if_neg (Nat.not_lt_zero a)]; exact hT a b ha hb2)
  · intro i self hi ih μ hq
    have h1 := hq i k hi (by omega)
    rw [if_neg (Nat.lt_irrefl i)] at h1
    unfold m_clears_B14
    simp (disch := omega) only [nI_leF, pk_mul, nI_add, inB_nI, cl_nI, h1, ↓reduceIte]
    by_cases e : i = k
    · subst e
      unfold m_clears_L36
      rw [show 60000 = 59999 + 1 from rfl, fixN_s]
      unfold m_clears_B36
      simp (disch := omega) only [nI_leF, ↓reduceIte]
      refine ih μ (fun a b ha hb2 => ?_)
      rw [hq a b ha hb2]
      by_cases z : a = i
      · subst z; rw [if_neg (Nat.lt_irrefl a), if_pos (Nat.lt_succ_self a), TK_same A hk]
      · rw [if_c (show a < i ↔ a < i + 1 from ⟨fun _ => by omega, fun _ => by omega⟩)]
    · exact IN i _ μ hi e hq (fun μ' hq' => ih μ' hq')
  · intro self μ hq
    unfold m_clears_B14
    simp (disch := omega) only [nI_leT, ↓reduceIte]
    exact ⟨μ, rfl, fun a b ha hb2 => by rw [hq a b ha hb2, if_pos ha]⟩

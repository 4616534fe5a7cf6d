/-! swap -/
def swS (S : Nat → Int32) (i j : Nat) : Nat → Int32 := up (up S (18 + i) (nI (sW S j))) (18 + j) (nI (sW S i))
noncomputable def lkN (P : Pl) (S : Nat → Int32) : Nat := cntB (pFd P) (lack P S)
noncomputable def swJ (P : Pl) (S : Nat → Int32) (i : Nat) (b : Int32 × Nat) : Nat → Int32 × Nat
  | 0 => b
  | k + 1 => if lkN P (swS S i (i + 1 + k)) < (swJ P S i b k).2 then (nI (100 * i + (i + 1 + k)), lkN P (swS S i (i + 1 + k))) else swJ P S i b k
noncomputable def swO (P : Pl) (S : Nat → Int32) : Nat → Int32 × Nat
  | 0 => (-2, lkN P S)
  | i + 1 => swJ P S i (swO P S i) (pNo P - (i + 1))
noncomputable def qSwap (P : Pl) (S : Nat → Int32) : Int32 := (swO P S (pNo P)).1
theorem lkN_le (P : Pl) (S : Nat → Int32) : lkN P S ≤ pFd P := cntB_le _ _
theorem swJ_le {P : Pl} {S : Nat → Int32} {i : Nat} {b : Int32 × Nat} (hb : b.2 ≤ pFd P) : ∀ k, (swJ P S i b k).2 ≤ pFd P
  | 0 => hb
  | k + 1 => by
    have := swJ_le (S := S) (i := i) hb k
    have := lkN_le P (swS S i (i + 1 + k))
    show (if _ then _ else _ : Int32 × Nat).2 ≤ _
    split <;> assumption
theorem swO_le (P : Pl) (S : Nat → Int32) : ∀ i, (swO P S i).2 ≤ pFd P
  | 0 => lkN_le P S
  | i + 1 => swJ_le (swO_le P S i) _
theorem swS_ok {P : Pl} {S : Nat → Int32} (hk : PlOK P) (hS : StOK P S) {i j : Nat} (hi : i < pNo P) (hj : j < pNo P) : StOK P (swS S i j) := by
  have k3 := hk.2.2.1
  exact wS_ok hk (wS_ok hk hS (by omega) (hS.1 j hj).2) (by omega) (hS.1 i hi).2
theorem s_wouldSwap_e {μ : Mem} {p : Nat} {P : Pl} {S : Nat → Int32} (hk : PlOK P) (hS : StOK P S) (h : CCore μ p P S) {i j : Nat} (hi : i < pNo P) (hj : j < pNo P) : ∃ μ', s_wouldSwap (nI i) (nI j) μ = some ((), μ') ∧ CCore μ' p P S ∧ WoC μ' 1 p P (swS S i j) ∧ WaC μ' 1 P (swS S i j) := by
  have k3 := hk.2.2.1
  have main : ∃ μ', s_wouldSwap (nI i) (nI j) μ = some ((), μ') ∧ WoC μ' 1 p P (swS S i j) ∧ WaC μ' 1 P (swS S i j) := by
    obtain ⟨μ1, e1, c1, a1⟩ := copy1_e hk h
    have wi := (c1.wo.st.wi hi).trans (hS.1 i hi).1
    have wj := (c1.wo.st.wi hj).trans (hS.1 j hj).1
    have b1 := a1.wid hk (show i < 12 by omega) (nI (sW S j))
    have b2 := b1.wid hk (show j < 12 by omega) (nI (sW S i))
    obtain ⟨μ3, e3, a3, b3⟩ := wo_settle_e hk (swS_ok hk hS hi hj) b2
    have wi2 : mI (stI μ1 27 3 i (nI (sW S j))) 27 2 i = nI (sW S i) := by rw [mI_stI, if_neg (fun z => by omega)]; exact wi
    refine ⟨μ3, ?_, a3, b3⟩
    unfold s_wouldSwap
    simp (disch := omega) only [↓ob_eq e1, inB_nI, cl_nI, wj, ↓mb_e, wi2, ↓ob_eq e3, ↓reduceIte]
  obtain ⟨μ', e, a, b⟩ := main
  exact ⟨μ', e, h.fr (f_s_wouldSwap e) rfl, a, b⟩
theorem s_swap_e {μ : Mem} {p : Nat} {P : Pl} {S : Nat → Int32} (hk : PlOK P) (hS : StOK P S) (h : CCore μ p P S) : ∃ μ', s_swap μ = some (qSwap P S, μ') := by
  have k2 := hk.2.1
  have k3 := hk.2.2.1
  obtain ⟨μ1, e1⟩ := wo_lackingFields_e hk h.wo h.wa
  have c1 := h.fr (f_wo_lackingFields e1) rfl
  have e2 := j_bits_n (p := lack P S) (n := pFd P) (by omega) μ1
  unfold s_swap
  simp only [↓ob_eq e1, ↓ob_eq e2]
  refine fixN_up (fun i (self : Int32 → Int32 → Int32 → Mem → Option (Int32 × Mem)) => ∀ μ, CCore μ p P S → ∃ μ', self (swO P S i).1 (nI (swO P S i).2) (nI i) μ = some (qSwap P S, μ')) (pNo P) ?_ ?_ 60000 0 (by omega) (by omega) μ1 c1
  · intro i self hi ih μ h
    have hp2 := h.p2
    unfold s_swap_B16
    simp (disch := omega) only [h.pn, hp2, h.wo.pl.no, nI_leF, nI_add, ↓reduceIte]
    refine fixN_up (fun j (self2 : Int32 → Int32 → Int32 → Mem → Option (Int32 × Mem)) => i + 1 ≤ j → ∀ μ, CCore μ p P S → ∃ μ', self2 (swJ P S i (swO P S i) (j - (i + 1))).1 (nI (swJ P S i (swO P S i) (j - (i + 1))).2) (nI j) μ = some (qSwap P S, μ')) (pNo P) ?_ ?_ 60000 (i + 1) (by omega) (by omega) (by omega) μ h |> (fun q => by rw [Nat.sub_self] at q; exact q)
    · intro j self2 hj ih2 hij μ h
      have hp2 := h.p2
      obtain ⟨μ2, e2, c2, a2, b2⟩ := s_wouldSwap_e hk hS h hi hj
      obtain ⟨μ3, e3⟩ := wo_lackingFields_e hk a2 b2
      have c3 := c2.fr (f_wo_lackingFields e3) rfl
      have e4 := j_bits_n (p := lack P (swS S i j)) (n := pFd P) (by omega) μ3
      have ih2 := ih2 (by omega)
      have hle := swJ_le (S := S) (i := i) (swO_le P S i) (j - (i + 1))
      have hle2 := lkN_le P (swS S i j)
      have e4' : j_bitCount (bitI (pFd P) (lack P (swS S i j))) μ3 = some (nI (lkN P (swS S i j)), μ3) := e4
      have es : swJ P S i (swO P S i) (j + 1 - (i + 1)) = if lkN P (swS S i j) < (swJ P S i (swO P S i) (j - (i + 1))).2 then (nI (100 * i + j), lkN P (swS S i j)) else swJ P S i (swO P S i) (j - (i + 1)) := by
        rw [show j + 1 - (i + 1) = (j - (i + 1)) + 1 by omega]
        show (if lkN P (swS S i (i + 1 + (j - (i + 1)))) < _ then _ else _) = _
        rw [show i + 1 + (j - (i + 1)) = j by omega]
      unfold s_swap_B32
      by_cases c : lkN P (swS S i j) < (swJ P S i (swO P S i) (j - (i + 1))).2
      · rw [es, if_pos c] at ih2
        simp (disch := omega) only [h.pn, hp2, h.wo.pl.no, nI_leF, ↓ob_eq e2, ↓ob_eq e3, ↓ob_eq e4', pk_mul, nI_add, ↓reduceIte]
        exact ih2 _ c3
      · rw [es, if_neg c] at ih2
        simp (disch := omega) only [h.pn, hp2, h.wo.pl.no, nI_leF, nI_leT, ↓ob_eq e2, ↓ob_eq e3, ↓ob_eq e4', nI_add, ↓reduceIte]
        exact ih2 _ c3
    · intro self2 hij μ h
      have hp2 := h.p2
      unfold s_swap_B32
      simp (disch := omega) only [h.pn, hp2, h.wo.pl.no, nI_leT, nI_add, ↓reduceIte]
      exact ih μ h
  · intro self μ h
    have hp2 := h.p2
    unfold s_swap_B16
    simp (disch := omega) only [h.pn, hp2, h.wo.pl.no, nI_leT, ↓reduceIte]
    exact ⟨μ, rfl⟩
theorem m_trySwap {μ : Mem} {lv : Nat} {P : Pl} {S : Nat → Int32} (hk : PlOK P) (hS : StOK P S) (h : MCore μ lv P S) {i j : Nat} (hi : i < pNo P) (hj : j < pNo P) : ∃ μ1 μ3, m_copies μ = some ((), μ1) ∧ mI μ1 88 0 (18 + j) = nI (sW S j) ∧ mI (stI μ1 89 0 (18 + i) (nI (sW S j))) 88 0 (18 + i) = nI (sW S i) ∧ m_parts (stI (stI μ1 89 0 (18 + i) (nI (sW S j))) 89 0 (18 + j) (nI (sW S i))) = some ((), μ3) ∧ MCore μ3 lv P S ∧ MoW μ3 lv P (swS S i j) ∧ WaM μ3 P (swS S i j) := by
  have k3 := hk.2.2.1
  obtain ⟨μ1, e1, A1, W1, -, -, H1⟩ := m_copies_e hk hS h
  have g1 : ∀ (μ : Mem) (k : Nat) (v : Int32), Fr [(89, none, none)] μ (stI μ 89 0 k v) := fun μ k v => Fr.stI (Fr.rf _ _) (iT 0 rfl inA_nn)
  have r1 := A1.rw.up (18 + i) (nI (sW S j))
  have p1 := A1.pl.fr (g1 μ1 (18 + i) (nI (sW S j))) rfl rfl
  have l1 := A1.la.st89 (18 + i) (nI (sW S j))
  have H2 := H1.fr (g1 μ1 (18 + i) (nI (sW S j))) rfl
  have r2 := r1.up (18 + j) (nI (sW S i))
  have p2 := p1.fr (g1 (stI μ1 89 0 (18 + i) (nI (sW S j))) (18 + j) (nI (sW S i))) rfl rfl
  have l2 := l1.st89 (18 + j) (nI (sW S i))
  have H3 := H2.fr (g1 (stI μ1 89 0 (18 + i) (nI (sW S j))) (18 + j) (nI (sW S i))) rfl
  obtain ⟨μ3, e3, W3⟩ := m_parts_e hk (swS_ok hk hS hi hj) p2 r2
  have g3 := f_m_parts e3
  exact ⟨μ1, μ3, e1, (H1.nw _ (by omega)).trans (hS.1 j hj).1, (H2.nw _ (by omega)).trans (hS.1 i hi).1, e3, H3.fr g3 rfl, MoW.fo ⟨p2, l2, r2⟩ g3 rfl rfl, W3⟩
theorem m_lackingBits_2 {μ : Mem} {lv : Nat} {P : Pl} {S S0 : Nat → Int32} (hk : PlOK P) (hS : StOK P S) (h : MoW μ lv P S) (hw : WaM μ P S) (H : MCore μ lv P S0) : ∃ μ', m_lackingBits μ = some (bitI (pFd P) (lack P S), μ') ∧ MoW μ' lv P S ∧ WaM μ' P S ∧ MCore μ' lv P S0 := by
  obtain ⟨μ1, e1⟩ := m_lackingBits_e hk hS h hw
  have g := f_m_lackingBits e1
  exact ⟨μ1, e1, h.fo g rfl rfl, hw.fo g rfl rfl rfl, H.fr g rfl⟩
theorem m_swap_e {μ : Mem} {lv : Nat} {P : Pl} {S : Nat → Int32} (hk : PlOK P) (hS : StOK P S) (h : MCore μ lv P S) : ∃ μ', m_swap μ = some (qSwap P S, μ') := by
  have k2 := hk.2.1
  have k3 := hk.2.2.1
  obtain ⟨μ0, e0, A0, W0, -, -, H0⟩ := m_copies_e hk hS h
  obtain ⟨μ1, e1, -, -, H1⟩ := m_lackingBits_2 hk hS A0 W0 H0
  have e2 : m_bits (bitI (pFd P) (lack P S)) μ1 = some (nI (lkN P S), μ1) := m_bits_n (by omega) μ1
  unfold m_swap
  simp only [↓ob_eq e0, ↓ob_eq e1, ↓ob_eq e2]
  refine fixN_up (fun i (self : Int32 → Int32 → Int32 → Mem → Option (Int32 × Mem)) => ∀ μ, MCore μ lv P S → ∃ μ', self (nI (swO P S i).2) (swO P S i).1 (nI i) μ = some (qSwap P S, μ')) (pNo P) ?_ ?_ 60000 0 (by omega) (by omega) μ1 H1
  · intro i self hi ih μ h
    have hl2 := h.pl.l2
    unfold m_swap_B17
    simp (disch := omega) only [h.pl.lv, h.pl.no, inB_nI, cl_nI, nI_leF, nI_add, ↓reduceIte]
    refine fixN_up (fun j (self2 : Int32 → Int32 → Int32 → Mem → Option (Int32 × Mem)) => i + 1 ≤ j → ∀ μ, MCore μ lv P S → ∃ μ', self2 (nI (swJ P S i (swO P S i) (j - (i + 1))).2) (swJ P S i (swO P S i) (j - (i + 1))).1 (nI j) μ = some (qSwap P S, μ')) (pNo P) ?_ ?_ 60000 (i + 1) (by omega) (by omega) (by omega) μ h |> (fun q => by rw [Nat.sub_self] at q; exact q)
    · intro j self2 hj ih2 hij μ h
      have hl2 := h.pl.l2
      obtain ⟨μ2, μ3, e2, w1, w2, e3, H3, A3, W3⟩ := m_trySwap hk hS h hi hj
      obtain ⟨μ4, e4, A4, W4, H4⟩ := m_lackingBits_2 hk (swS_ok hk hS hi hj) A3 W3 H3
      obtain ⟨μ5, e5, A5, W5, H5⟩ := m_lackingBits_2 hk (swS_ok hk hS hi hj) A4 W4 H4
      have b4 : m_bits (bitI (pFd P) (lack P (swS S i j))) μ4 = some (nI (lkN P (swS S i j)), μ4) := m_bits_n (by omega) μ4
      have b5 : m_bits (bitI (pFd P) (lack P (swS S i j))) μ5 = some (nI (lkN P (swS S i j)), μ5) := m_bits_n (by omega) μ5
      have ih2 := ih2 (by omega)
      have hle := swJ_le (S := S) (i := i) (swO_le P S i) (j - (i + 1))
      have hle2 := lkN_le P (swS S i j)
      have es : swJ P S i (swO P S i) (j + 1 - (i + 1)) = if lkN P (swS S i j) < (swJ P S i (swO P S i) (j - (i + 1))).2 then (nI (100 * i + j), lkN P (swS S i j)) else swJ P S i (swO P S i) (j - (i + 1)) := by
        rw [show j + 1 - (i + 1) = (j - (i + 1)) + 1 by omega]
        show (if lkN P (swS S i (i + 1 + (j - (i + 1)))) < _ then _ else _) = _
        rw [show i + 1 + (j - (i + 1)) = j by omega]
      unfold m_swap_B35
      by_cases c : lkN P (swS S i j) < (swJ P S i (swO P S i) (j - (i + 1))).2
      · rw [es, if_pos c] at ih2
        simp (disch := omega) only [h.pl.lv, h.pl.no, inB_nI, cl_nI, nI_leF, ↓ob_eq e2, nI_add, w1, w2, ↓mb_e, ↓ob_eq e3, ↓ob_eq e4, ↓ob_eq b4, nI_ltT, ↓ob_eq e5, ↓ob_eq b5, pk_mul, ↓reduceIte]
        exact ih2 _ H5
      · rw [es, if_neg c] at ih2
        simp (disch := omega) only [h.pl.lv, h.pl.no, inB_nI, cl_nI, nI_leF, ↓ob_eq e2, nI_add, w1, w2, ↓mb_e, ↓ob_eq e3, ↓ob_eq e4, ↓ob_eq b4, nI_ltF, ↓reduceIte]
        exact ih2 _ H4
    · intro self2 hij μ h
      have hl2 := h.pl.l2
      unfold m_swap_B35
      simp (disch := omega) only [h.pl.lv, h.pl.no, inB_nI, cl_nI, nI_leT, nI_add, ↓reduceIte]
      exact ih μ h
  · intro self μ h
    have hl2 := h.pl.l2
    unfold m_swap_B17
    simp (disch := omega) only [h.pl.lv, h.pl.no, inB_nI, cl_nI, nI_leT, ↓reduceIte]
    exact ⟨μ, rfl⟩

/-! another drain; again -/
theorem WoC.qua {μ : Mem} {w p : Nat} {P : Pl} {S : Nat → Int32} (hk : PlOK P) (h : WoC μ w p P S) {j : Nat} (hj : j < 6) (v : Int32) : WoC (stI μ 29 (w + 2) j v) w p P (up S (6 + j) v) := by
  have k2 := hk.2.1
  have k3 := hk.2.2.1
  have o : ∀ k, k ≠ 6 + j → up S (6 + j) v k = S k := fun k hk => up_n _ _ hk
  refine ⟨h.p2, h.r, h.pl, h.la, fun n hn => ?_, fun f hf => ⟨?_, ?_, ?_⟩, ?_, ?_, ?_⟩
  · rw [o _ (by omega)]; exact h.st.wi hn
  · rw [o _ (by omega)]; exact h.st.dr hf
  · rw [mI_stI]
    by_cases e : f = j
    · subst e
      rw [if_pos ⟨rfl, rfl, rfl⟩]; exact (up_s _ _ _).symm
    · rw [if_neg (fun z => e z.2.2), o _ (by omega)]; exact h.st.qu hf
  · rw [o _ (by omega)]; exact h.st.gr hf
  · rw [o _ (by omega)]; exact h.st.sp
  · rw [o _ (by omega)]; exact h.st.da
  · rw [o _ (by omega)]; exact h.st.pd
theorem WoC.dra {μ : Mem} {w p : Nat} {P : Pl} {S : Nat → Int32} (hk : PlOK P) (h : WoC μ w p P S) {j : Nat} (hj : j < 6) (v : Int32) : WoC (stI μ 28 (w + 2) j v) w p P (up S j v) := by
  have k2 := hk.2.1
  have k3 := hk.2.2.1
  have o : ∀ k, k ≠ j → up S j v k = S k := fun k hk => up_n _ _ hk
  refine ⟨h.p2, h.r, h.pl, h.la, fun n hn => ?_, fun f hf => ⟨?_, ?_, ?_⟩, ?_, ?_, ?_⟩
  · rw [o _ (by omega)]; exact h.st.wi hn
  · rw [mI_stI]
    by_cases e : f = j
    · subst e
      rw [if_pos ⟨rfl, rfl, rfl⟩]; exact (up_s _ _ _).symm
    · rw [if_neg (fun z => e z.2.2), o _ (by omega)]; exact h.st.dr hf
  · rw [o _ (by omega)]; exact h.st.qu hf
  · rw [o _ (by omega)]; exact h.st.gr hf
  · rw [o _ (by omega)]; exact h.st.sp
  · rw [o _ (by omega)]; exact h.st.da
  · rw [o _ (by omega)]; exact h.st.pd
/-- a field's drain, set anew -/
theorem dS_ok {P : Pl} {S : Nat → Int32} (hk : PlOK P) (hS : StOK P S) {j d q : Nat} (hj : j < 6) (hd : d < pLg P) (hq : q ≤ 3) : StOK P (up (up S (6 + j) (nI q)) j (nI d)) := by
  have k1 := hk.1
  have k2 := hk.2.1
  have k3 := hk.2.2.1
  have o : ∀ k, k ≠ 6 + j → k ≠ j → up (up S (6 + j) (nI q)) j (nI d) k = S k := fun k a b => by rw [up_n _ _ b, up_n _ _ a]
  refine ⟨fun n hn => ?_, fun f hf => ?_, ?_⟩
  · have := hS.1 n hn
    unfold sW at this ⊢
    rw [o _ (by omega) (by omega)]; exact this
  · have := hS.2.1 f hf
    by_cases e : f = j
    · subst e
      unfold sQ sD sG at this ⊢
      rw [up_s, up_n _ _ (show 6 + f ≠ f by omega), up_s, o (12 + f) (by omega) (by omega), cl_nI (by omega), cl_nI (by omega)]
      exact ⟨rfl, hq, Or.inr ⟨rfl, hd⟩, this.2.2.2⟩
    · unfold sQ sD sG at this ⊢
      rw [o (6 + f) (by omega) (by omega), o f (by omega) (by omega), o (12 + f) (by omega) (by omega)]; exact this
  · have := hS.2.2
    unfold sS at this ⊢
    rw [o 30 (by omega) (by omega)]; exact this
theorem qS_ok {P : Pl} {S : Nat → Int32} (hk : PlOK P) (hS : StOK P S) {j q : Nat} (hj : j < pFd P) (hq : q ≤ 3) (hd : S j = nI (sD S j) ∧ sD S j < pLg P) : StOK P (up S (6 + j) (nI q)) := by
  have k2 := hk.2.1
  have e : up (up S (6 + j) (nI q)) j (nI (sD S j)) = up S (6 + j) (nI q) := funext fun k => by
    by_cases e : k = j
    · subst e; rw [up_s, up_n _ _ (show k ≠ 6 + k by omega)]; exact hd.1.symm
    · rw [up_n _ _ e]
  rw [← e]
  exact dS_ok hk hS (by omega) hd.2 hq
noncomputable def agS (S : Nat → Int32) (f : Nat) (q : Nat) : Nat → Int32 := if S f = -2 then up (up S (6 + f) (nI q)) f (nI 0) else up S (6 + f) (nI q)
theorem agS_ok {P : Pl} {S : Nat → Int32} (hk : PlOK P) (hS : StOK P S) {f q : Nat} (hf : f < pFd P) (hq : q ≤ 3) (h0 : 0 < pLg P) : StOK P (agS S f q) := by
  have k2 := hk.2.1
  unfold agS
  split
  · exact dS_ok hk hS (by omega) h0 hq
  · rename_i c
    exact qS_ok hk hS hf hq ((hS.2.1 f hf).2.2.1.resolve_left (fun z => c z.1))
noncomputable def qAgain (P : Pl) (S : Nat → Int32) (x y : Int32) : Int32 := if inB x (pFd P) = true then (if inR y (nI 0) (nI 3) = true then (if pLg P = 0 then -1 else flow P (agS S (cl x) (cl y)) (cl x)) else -1) else -1
theorem s_again_e {μ : Mem} {p : Nat} {P : Pl} {S : Nat → Int32} (hk : PlOK P) (hS : StOK P S) (h : CCore μ p P S) (x y : Int32) : ∃ μ', s_again x y μ = some (qAgain P S x y, μ') := by
  have k1 := hk.1
  have k2 := hk.2.1
  have hp2 := h.p2
  have e0 := s_isField_e hk h x
  have e1 := s_isFrom_r y (nI 0) (nI 3) μ
  unfold s_again qAgain
  rcases inB_cases x (show pFd P < 2147483648 by omega) with ⟨a, f, hf, e⟩ | ⟨a, -⟩
  · subst e
    rw [a] at e0
    have hf6 : f < 6 := by omega
    cases a2 : inR y (nI 0) (nI 3) with
    | false =>
      rw [a2] at e1
      exact ⟨μ, by simp only [↓ob_eq e0, ↓ob_eq e1, a, b01I, nI_10, Bool.false_eq_true, ↓reduceIte]⟩
    | true =>
      rw [a2] at e1
      obtain ⟨q, -, hq, rfl⟩ := inR_t (by omega) (by omega) a2
      by_cases z : pLg P = 0
      · exact ⟨μ, by simp only [↓ob_eq e0, ↓ob_eq e1, a, b01I, nI_10, h.pn, hp2, h.wo.pl.lg, z, ↓reduceIte]⟩
      · obtain ⟨μ1, e2, c1, a1⟩ := copy1_e hk h
        have b1 := a1.qua hk hf6 (nI q)
        have hd : mI (stI μ1 29 3 f (nI q)) 28 3 f = S f := a1.st.dr hf
        have hok := agS_ok hk hS hf hq (by omega)
        by_cases c : S f = -2
        · have b2 := b1.dra hk hf6 (nI 0)
          rw [show up (up S (6 + f) (nI q)) f (nI 0) = agS S f q from (if_pos c).symm] at b2
          obtain ⟨μ3, e3, a3, b3⟩ := wo_settle_e hk hok b2
          refine ⟨μ3, ?_⟩
          simp (disch := omega) only [↓ob_eq e0, ↓ob_eq e1, a, b01I, nI_10, h.pn, hp2, h.wo.pl.lg, nI_eqF, z, ↓ob_eq e2, inB_nI, cl_nI, hd, c, ↓mb_e, ↓ob_eq e3, b3.fw hf, ↓reduceIte]
        · rw [show up S (6 + f) (nI q) = agS S f q from (if_neg c).symm] at b1
          obtain ⟨μ3, e3, a3, b3⟩ := wo_settle_e hk hok b1
          refine ⟨μ3, ?_⟩
          simp (disch := omega) only [↓ob_eq e0, ↓ob_eq e1, a, b01I, nI_10, h.pn, hp2, h.wo.pl.lg, nI_eqF, z, ↓ob_eq e2, inB_nI, cl_nI, hd, c, ↓ob_eq e3, b3.fw hf, ↓reduceIte]
  · rw [a] at e0
    exact ⟨μ, by simp only [↓ob_eq e0, a, b01I, Bool.false_eq_true, ↓reduceIte]⟩
theorem m_again_e {μ : Mem} {lv : Nat} {P : Pl} {S : Nat → Int32} (hk : PlOK P) (hS : StOK P S) (h : MCore μ lv P S) (x y : Int32) : ∃ μ', m_again x y μ = some (qAgain P S x y, μ') := by
  have k1 := hk.1
  have k2 := hk.2.1
  have hl2 := h.pl.l2
  have e0 := m_isField_e hk h.pl x
  have e1 := m_in_r y (nI 0) (nI 3) μ
  unfold m_again qAgain
  rcases inB_cases x (show pFd P < 2147483648 by omega) with ⟨a, f, hf, e⟩ | ⟨a, -⟩
  · subst e
    rw [a] at e0
    have hf6 : f < 6 := by omega
    cases a2 : inR y (nI 0) (nI 3) with
    | false =>
      rw [a2] at e1
      exact ⟨μ, by simp only [↓ob_eq e0, ↓ob_eq e1, a, b01I, nI_10, Bool.false_eq_true, ↓reduceIte]⟩
    | true =>
      rw [a2] at e1
      obtain ⟨q, -, hq, rfl⟩ := inR_t (by omega) (by omega) a2
      by_cases z : pLg P = 0
      · refine ⟨μ, ?_⟩
        simp (disch := omega) only [↓ob_eq e0, ↓ob_eq e1, a, b01I, nI_10, h.pl.lv, inB_nI, cl_nI, h.pl.lg, z, ↓reduceIte]
      · obtain ⟨μ1, e2, A1, W1, -, -, H1⟩ := m_copies_e hk hS h
        have g1 : ∀ (μ : Mem) (k : Nat) (v : Int32), Fr [(89, none, none)] μ (stI μ 89 0 k v) := fun μ k v => Fr.stI (Fr.rf _ _) (iT 0 rfl inA_nn)
        have r1 := A1.rw.up (6 + f) (nI q)
        have p1 := A1.pl.fr (g1 μ1 (6 + f) (nI q)) rfl rfl
        have hd : mI (stI μ1 89 0 (6 + f) (nI q)) 89 0 f = S f := (r1 f (by omega)).trans (up_n _ _ (show f ≠ 6 + f by omega))
        have hok := agS_ok hk hS hf hq (by omega)
        have hst := (hS.2.1 f hf).2.2.1
        by_cases c : S f = -2
        · have r2 := r1.up f (nI 0)
          have p2 := p1.fr (g1 (stI μ1 89 0 (6 + f) (nI q)) f (nI 0)) rfl rfl
          rw [show up (up S (6 + f) (nI q)) f (nI 0) = agS S f q from (if_pos c).symm] at r2
          obtain ⟨μ3, e3, W3⟩ := m_parts_e hk hok p2 r2
          have g3 := f_m_parts e3
          have e4 := m_flowOf_e hk hok (p2.fr g3 rfl rfl) (r2.fr g3 rfl) W3 hf6
          refine ⟨μ3, ?_⟩
          have hneg : ¬ (nI 0 ≤ (-2 : Int32)) := by decide
          simp (disch := omega) only [↓ob_eq e0, ↓ob_eq e1, a, b01I, nI_10, h.pl.lv, inB_nI, cl_nI, h.pl.lg, nI_eqF, z, ↓ob_eq e2, nI_add, hd, c, hneg, ↓mb_e, ↓ob_eq e3, ↓ob_eq e4, ↓reduceIte]
        · have hd2 := hst.resolve_left (fun w => c w.1)
          have hpos : nI 0 ≤ S f := by rw [hd2.1]; exact nI_le (Nat.zero_le _) (by omega)
          rw [show up S (6 + f) (nI q) = agS S f q from (if_neg c).symm] at r1
          obtain ⟨μ3, e3, W3⟩ := m_parts_e hk hok p1 r1
          have g3 := f_m_parts e3
          have e4 := m_flowOf_e hk hok (p1.fr g3 rfl rfl) (r1.fr g3 rfl) W3 hf6
          refine ⟨μ3, ?_⟩
          simp (disch := omega) only [↓ob_eq e0, ↓ob_eq e1, a, b01I, nI_10, h.pl.lv, inB_nI, cl_nI, h.pl.lg, nI_eqF, z, ↓ob_eq e2, nI_add, hd, hpos, ↓ob_eq e3, ↓ob_eq e4, ↓reduceIte]
  · rw [a] at e0
    exact ⟨μ, by simp only [↓ob_eq e0, a, b01I, Bool.false_eq_true, ↓reduceIte]⟩

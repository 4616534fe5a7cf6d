/-! the reference's laws -/
def isR (μ : Mem) (s : Nat) (l : Rp) : Prop := ∀ i, i < l.length → mI μ 83 0 (s + i) = nI (l.getD i (0, 0)).1 ∧ mI μ 84 0 (s + i) = nI (l.getD i (0, 0)).2
theorem isR_h {μ : Mem} {s : Nat} {q : Nat × Nat} {l : Rp} (h : isR μ s (q :: l)) : mI μ 83 0 s = nI q.1 ∧ mI μ 84 0 s = nI q.2 := h 0 (by simp)
theorem isR_t {μ : Mem} {s : Nat} {q : Nat × Nat} {l : Rp} (h : isR μ s (q :: l)) : isR μ (s + 1) l := fun i hi => by
  have := h (i + 1) (by simp; omega)
  rw [show s + 1 + i = s + (i + 1) by omega]
  simpa using this
theorem isR_l {μ : Mem} {s : Nat} {A B : Rp} (h : isR μ s (A ++ B)) : isR μ s A := fun i hi => by
  have := h i (by simp; omega)
  simp only [List.getD, List.getElem?_append_left hi] at this
  exact this
theorem isR_r {μ : Mem} {s : Nat} {A B : Rp} (h : isR μ s (A ++ B)) : isR μ (s + A.length) B := fun i hi => by
  have := h (A.length + i) (by simp; omega)
  rw [show s + A.length + i = s + (A.length + i) by omega]
  simp only [List.getD, List.getElem?_append_right (Nat.le_add_right _ _), Nat.add_sub_cancel_left] at this
  exact this
theorem isR_fr {μ μ' : Mem} {s : Nat} {l : Rp} (h : isR μ s l) (h1 : mI μ' 83 0 = mI μ 83 0) (h2 : mI μ' 84 0 = mI μ 84 0) : isR μ' s l := fun i hi => by rw [h1, h2]; exact h i hi
def SM (μ : Mem) (st : List Int32) : Prop := ∀ i, i < st.length → mI μ 87 0 i = st.getD (st.length - 1 - i) 0
theorem SM.push {μ : Mem} {st : List Int32} (h : SM μ st) (x : Int32) : SM (stI μ 87 0 st.length x) (x :: st) := fun i hi => by
  rw [mI_stI]
  by_cases e : i = st.length
  · subst e; simp
  · rw [if_neg (fun z => e z.2.2), h i (by simp at hi; omega)]
    simp only [List.length_cons] at hi ⊢
    rw [show st.length + 1 - 1 - i = (st.length - 1 - i) + 1 by omega, List.getD_cons_succ]
theorem SM.top {μ : Mem} {a : Int32} {st : List Int32} (h : SM μ (a :: st)) : mI μ 87 0 st.length = a := by
  have := h st.length (by simp)
  simpa using this
theorem SM.pop {μ : Mem} {a : Int32} {st : List Int32} (h : SM μ (a :: st)) : SM μ st := fun i hi => by
  rw [h i (by simp; omega)]
  simp only [List.length_cons]
  rw [show st.length + 1 - 1 - i = (st.length - 1 - i) + 1 by omega, List.getD_cons_succ]
def T87 : List At := [(87, none, none), (55, none, some 49)]
theorem fr87 {μ0 μ : Mem} (g : Fr T87 μ0 μ) (k : Nat) (x : Int32) : Fr T87 μ0 (stI μ 87 0 k x) := Fr.stI g (iT 0 rfl inA_nn)
theorem mt_int {e : Int32} (self : Int32 → Int32 → Mem → Option (Int32 × Mem)) {μ : Mem} {at_ n d N : Nat} (he : e = nI N) (hN : N ≤ 840) (h0 : mI μ 83 0 at_ = nI 0) (h1 : mI μ 84 0 at_ = nI n) (ha : at_ < N) (h2 : d < 400) :
    m_termOf_B5 e self (nI d) (nI at_) μ = self (nI (d + 1)) (nI (at_ + 1)) (stI μ 87 0 d (nI n)) := by
  subst he
  unfold m_termOf_B5
  simp (disch := omega) only [nI_leF, inB_nI, cl_nI, h0, h1, nI_add, ↓reduceIte]
theorem mt_var {e : Int32} (self : Int32 → Int32 → Mem → Option (Int32 × Mem)) {μ : Mem} {at_ n d N : Nat} (he : e = nI N) (hN : N ≤ 840) (h0 : mI μ 83 0 at_ = nI 1) (h1 : mI μ 84 0 at_ = nI n) (hn : n < 9) (ha : at_ < N) (h2 : d < 400) :
    m_termOf_B5 e self (nI d) (nI at_) μ = self (nI (d + 1)) (nI (at_ + 1)) (stI μ 87 0 d (mI μ 86 0 n)) := by
  subst he
  unfold m_termOf_B5
  simp (disch := omega) only [nI_leF, nI_10, inB_nI, cl_nI, h0, h1, nI_add, ↓mb_e, ↓reduceIte]
theorem mt_op {e : Int32} (self : Int32 → Int32 → Mem → Option (Int32 × Mem)) {μ : Mem} {at_ k d N : Nat} {a b : Int32} (he : e = nI N) (hN : N ≤ 840) (h0 : mI μ 83 0 at_ = nI (k + 2)) (hk : k < 4) (ha : at_ < N) (h2 : d + 2 ≤ 400) (hA : mI μ 87 0 d = a) (hB : mI μ 87 0 (d + 1) = b) :
    m_termOf_B5 e self (nI (d + 2)) (nI at_) μ = if k = 3 ∧ b = nI 0 then some (nI 0, stI μ 55 0 49 (nI 1)) else self (nI (d + 1)) (nI (at_ + 1)) (stI μ 87 0 d (opV (k + 2) a b)) := by
  subst he
  have e1 : nI (d + 2) + (-1 : Int32) = nI (d + 1) := pk_m1 _
  have e3 : nI (d + 1) - nI 1 = nI d := pk_sub (by omega)
  unfold m_termOf_B5
  rcases (show k = 0 ∨ k = 1 ∨ k = 2 ∨ k = 3 by omega) with rfl | rfl | rfl | rfl
  · simp (disch := omega) [nI_leF, nI_leT, nI_eqF, inB_nI, cl_nI, h0, e1, e3, hA, hB, mb_e, vb_e, nI_add, opV]
  · simp (disch := omega) [nI_leF, nI_leT, nI_eqF, inB_nI, cl_nI, h0, e1, e3, hA, hB, mb_e, vb_e, nI_add, opV]
  · simp (disch := omega) [nI_leF, nI_leT, nI_eqF, inB_nI, cl_nI, h0, e1, e3, hA, hB, mb_e, vb_e, nI_add, opV]
  · by_cases hz : b = nI 0
    · simp (disch := omega) [nI_leF, nI_leT, nI_eqF, inB_nI, cl_nI, h0, e1, e3, hA, hB, hz, mb_e, vb_e, nI_add, opV]
    · have hz3 : ¬ b = 0 := hz
      simp (disch := omega) [nI_leF, nI_leT, nI_eqF, inB_nI, cl_nI, h0, e1, e3, hA, hB, hz, hz3, mb_e, vb_e, nI_add, opV]
def mtF (e : Int32) (n : Nat) : Int32 → Int32 → Mem → Option (Int32 × Mem) := fixN (fun _ _ _ => none) (m_termOf_B5 e) n
theorem mtF_s (e : Int32) (n : Nat) : mtF e (n + 1) = m_termOf_B5 e (mtF e n) := rfl
def mtR (e : Int32) (l : Rp) (st : List Int32) (at_ : Nat) (μ μ' : Mem) (fuel : Nat) : Prop := match rpn (mI μ 86 0) l st with
  | none => mtF e (fuel + l.length) (nI st.length) (nI at_) μ = some (nI 0, μ') ∧ mI μ' 55 0 49 = nI 1
  | some st' => SM μ' st' ∧ mtF e (fuel + l.length) (nI st.length) (nI at_) μ = mtF e fuel (nI st'.length) (nI (at_ + l.length)) μ' ∧ mI μ' 55 0 49 = mI μ 55 0 49
theorem mtR_c {e : Int32} {q : Nat × Nat} {t : Rp} {st st2 : List Int32} {at_ fuel : Nat} {μ μ1 μ' : Mem} (h : mtR e t st2 (at_ + 1) μ1 μ' fuel) (h86 : mI μ1 86 0 = mI μ 86 0) (h55 : mI μ1 55 0 49 = mI μ 55 0 49) (hr : rpn (mI μ 86 0) (q :: t) st = rpn (mI μ 86 0) t st2) (he : ∀ self, m_termOf_B5 e self (nI st.length) (nI at_) μ = self (nI st2.length) (nI (at_ + 1)) μ1) : mtR e (q :: t) st at_ μ μ' fuel := by
  unfold mtR at h ⊢
  rw [hr, ← h86, List.length_cons, show fuel + (t.length + 1) = fuel + t.length + 1 by omega, mtF_s, he, show at_ + (t.length + 1) = at_ + 1 + t.length by omega, ← h55]
  exact h
theorem mt_seg {N : Nat} (hN : N ≤ 840) : ∀ (l : Rp) (st : List Int32) (d : Nat) (μ : Mem) (at_ fuel : Nat), rpd l st.length = some d → isR μ at_ l → at_ + l.length ≤ N → st.length + l.length ≤ 400 → SM μ st → ∃ μ', Fr T87 μ μ' ∧ mtR (nI N) l st at_ μ μ' fuel
  | [], st, d, μ, at_, fuel, h, hi, h1, h2, hs => ⟨μ, Fr.rf _ _, hs, rfl, rfl⟩
  | (0, n) :: t, st, d, μ, at_, fuel, h, hi, h1, h2, hs => by
    simp only [rpd] at h
    split at h
    · simp only [List.length_cons] at h1 h2
      obtain ⟨i1, i2⟩ := isR_h hi
      obtain ⟨μ', g, r⟩ := mt_seg hN t (nI n :: st) d (stI μ 87 0 st.length (nI n)) (at_ + 1) fuel h (isR_t hi) (by omega) (by simp; omega) (hs.push _)
      exact ⟨μ', Fr.tr g (fr87 (Fr.rf _ _) _ _), mtR_c r rfl rfl rfl (fun self => mt_int self rfl hN i1 i2 (by omega) (by omega))⟩
    · cases h
  | (1, n) :: t, st, d, μ, at_, fuel, h, hi, h1, h2, hs => by
    simp only [rpd] at h
    split at h
    · rename_i hn
      simp only [List.length_cons] at h1 h2
      obtain ⟨i1, i2⟩ := isR_h hi
      obtain ⟨μ', g, r⟩ := mt_seg hN t (mI μ 86 0 n :: st) d (stI μ 87 0 st.length (mI μ 86 0 n)) (at_ + 1) fuel h (isR_t hi) (by omega) (by simp; omega) (hs.push _)
      exact ⟨μ', Fr.tr g (fr87 (Fr.rf _ _) _ _), mtR_c r rfl rfl rfl (fun self => mt_var self rfl hN i1 i2 hn (by omega) (by omega))⟩
    · cases h
  | (k + 2, n) :: t, st, d, μ, at_, fuel, h, hi, h1, h2, hs => by
    simp only [rpd] at h
    split at h
    · rename_i hk
      simp only [List.length_cons] at h1 h2
      obtain ⟨i1, i2⟩ := isR_h hi
      match st, hs, hk, h, h2 with
      | b :: a :: st, hs, hk, h, h2 =>
        have ha := hs.pop.top
        have hb := hs.top
        simp only [List.length_cons] at h h2 hb
        have he := fun self => mt_op self rfl hN i1 hk.1 (show at_ < N by omega) (show st.length + 2 ≤ 400 by omega) ha hb
        by_cases hz : k = 3 ∧ b = nI 0
        · refine ⟨stI μ 55 0 49 (nI 1), Fr.stI (Fr.rf _ _) (iT 1 rfl inA_ns), ?_⟩
          unfold mtR
          have hr : rpn (mI μ 86 0) ((k + 2, n) :: t) (b :: a :: st) = none := by simp only [rpn, if_pos hz]
          rw [hr]
          refine ⟨?_, by rw [mI_stI, if_pos ⟨rfl, rfl, rfl⟩]⟩
          show mtF (nI N) (fuel + (t.length + 1)) (nI (st.length + 2)) (nI at_) μ = some (nI 0, stI μ 55 0 49 (nI 1))
          rw [show fuel + (t.length + 1) = fuel + t.length + 1 by omega, mtF_s, he, if_pos hz]
        · obtain ⟨μ', g, r⟩ := mt_seg hN t (opV (k + 2) a b :: st) d (stI μ 87 0 st.length (opV (k + 2) a b)) (at_ + 1) fuel (by simpa using h) (isR_t hi) (by omega) (by simp; omega) (hs.pop.pop.push _)
          exact ⟨μ', Fr.tr g (fr87 (Fr.rf _ _) _ _), mtR_c r rfl rfl (by simp only [rpn, if_neg hz]) (fun self => by
            show m_termOf_B5 (nI N) self (nI (st.length + 2)) (nI at_) μ = _
            rw [he, if_neg hz]; rfl)⟩
      | [b], hs, hk, h, h2 => simp at hk
      | [], hs, hk, h, h2 => simp at hk
    · cases h
theorem m_termOf_e {μ : Mem} {s N : Nat} {l : Rp} (hl : rpOK l) (hi : isR μ s l) (hN : N = s + l.length) (hN2 : N ≤ 840) (h4 : l.length ≤ 400) : ∃ (x : Int32) (μ' : Mem), m_termOf (nI s) (nI N) μ = some (x, μ') ∧ Fr T87 μ μ' ∧ (match evR (mI μ 86 0) l with
    | none => mI μ' 55 0 49 = nI 1
    | some y => x = y ∧ mI μ' 55 0 49 = mI μ 55 0 49) := by
  subst hN
  obtain ⟨μ', g, r⟩ := mt_seg hN2 l [] 1 μ s (60000 - l.length) hl hi (Nat.le_refl _) (by simpa using h4) (fun i hi => by simp at hi)
  unfold mtR at r
  have e0 : m_termOf (nI s) (nI (s + l.length)) μ = mtF (nI (s + l.length)) (60000 - l.length + l.length) (nI 0) (nI s) μ := by
    rw [Nat.sub_add_cancel (by omega)]; rfl
  rcases evR_cases (mI μ 86 0) hl with ⟨e1, e2⟩ | ⟨x, e1, e2⟩
  · rw [e1] at r
    rw [e2]
    exact ⟨nI 0, μ', e0.trans r.1, g, r.2⟩
  · rw [e1] at r
    obtain ⟨r1, r2, r3⟩ := r
    rw [e2]
    refine ⟨x, μ', ?_, g, rfl, r3⟩
    refine (e0.trans r2).trans ?_
    rw [show 60000 - l.length = (60000 - l.length - 1) + 1 by omega, mtF_s]
    unfold m_termOf_B5
    rw [if_pos (Int32.le_refl _), show mI μ' 87 0 0 = x from r1.top]
def plainL (k : Nat) : Lw := match k with
  | 0 => ([], [(1, 1)])
  | 1 => ([], [(1, 0)])
  | 2 => ([], [(0, 1)])
  | _ => ([], [(0, 0)])
/-- the reference's branches from b on -/
def brM (μ : Mem) (e : Rp) : Nat → List (Rp × Rp × Rp) → Prop
  | b, [] => mI μ 78 0 b = nI 0 ∧ ∃ s, mI μ 81 0 b = nI s ∧ mI μ 82 0 b = nI (s + e.length) ∧ isR μ s e ∧ s + e.length ≤ 840 ∧ e.length ≤ 400
  | b, (x, y, z) :: t => mI μ 78 0 b = nI 1 ∧ (∃ s, mI μ 79 0 b = nI s ∧ mI μ 80 0 b = nI (s + x.length) ∧ mI μ 81 0 b = nI (s + x.length + y.length) ∧ mI μ 82 0 b = nI (s + x.length + y.length + z.length) ∧ isR μ s x ∧ isR μ (s + x.length) y ∧ isR μ (s + x.length + y.length) z ∧ s + x.length + y.length + z.length ≤ 840 ∧ x.length ≤ 400 ∧ y.length ≤ 400 ∧ z.length ≤ 400) ∧ brM μ e (b + 1) t
def LaM (μ : Mem) (lv : Nat) (P : Pl) : Prop := ∀ k, k < 4 → ∃ a, mI μ 76 0 (4 * lv + k) = nI a ∧ a ≤ 260 ∧ ((mI μ 77 0 (4 * lv + k) = nI a ∧ pLaw P k = plainL k) ∨ (mI μ 77 0 (4 * lv + k) = nI (a + (pLaw P k).1.length + 1) ∧ a + (pLaw P k).1.length + 1 ≤ 260 ∧ brM μ (pLaw P k).2 a (pLaw P k).1))
theorem brM_fr {μ μ' : Mem} (h : ∀ r, r ∈ [78, 79, 80, 81, 82, 83, 84] → mI μ' r 0 = mI μ r 0) {e : Rp} : ∀ {L : List (Rp × Rp × Rp)} {b : Nat}, brM μ e b L → brM μ' e b L
  | [], b, ⟨h1, s, h2, h3, h4, h5⟩ => by
    refine ⟨by rw [h 78 (by decide)]; exact h1, s, by rw [h 81 (by decide)]; exact h2, by rw [h 82 (by decide)]; exact h3, isR_fr h4 (h 83 (by decide)) (h 84 (by decide)), h5⟩
  | (x, y, z) :: t, b, ⟨h1, ⟨s, h2, h3, h4, h5, h6, h7, h8, h9⟩, ht⟩ => by
    refine ⟨by rw [h 78 (by decide)]; exact h1, ⟨s, by rw [h 79 (by decide)]; exact h2, by rw [h 80 (by decide)]; exact h3, by rw [h 81 (by decide)]; exact h4, by rw [h 82 (by decide)]; exact h5, isR_fr h6 (h 83 (by decide)) (h 84 (by decide)), isR_fr h7 (h 83 (by decide)) (h 84 (by decide)), isR_fr h8 (h 83 (by decide)) (h 84 (by decide)), h9⟩, brM_fr h ht⟩
theorem LaM.fo {μ μ' : Mem} {lv : Nat} {P : Pl} {T : List At} (h : LaM μ lv P) (g : Fr T μ μ') (o : offR [76, 77, 78, 79, 80, 81, 82, 83, 84] T = true) : LaM μ' lv P := fun k hk => by
  obtain ⟨a, h1, h2, h3⟩ := h k hk
  have w : ∀ r, [76, 77, 78, 79, 80, 81, 82, 83, 84].contains r = true → ∀ j, mI μ' r 0 j = mI μ r 0 j := fun r hr j => g.I (offR_f o hr _ _)
  refine ⟨a, by rw [w 76 rfl]; exact h1, h2, ?_⟩
  rcases h3 with ⟨h3, h4⟩ | ⟨h3, h4, h5⟩
  · exact Or.inl ⟨by rw [w 77 rfl]; exact h3, h4⟩
  · refine Or.inr ⟨by rw [w 77 rfl]; exact h3, h4, brM_fr (fun r hr => funext fun j => w r ?_ j) h5⟩
    simp at hr ⊢
    omega
theorem T87_fr {μ μ' : Mem} (g : Fr T87 μ μ') {r : Nat} (h87 : r ≠ 87) (h55 : r ≠ 55) : mI μ' r 0 = mI μ r 0 := funext fun k => g.I (by
  unfold inT T87 inA
  simp [Ne.symm h87, Ne.symm h55])
theorem m_law_br {at_ N : Nat} {e : Rp} (hat : at_ < 8) (hN : N ≤ 260) (he : rpOK e) : ∀ (L : List (Rp × Rp × Rp)), (∀ q ∈ L, rpOK q.1 ∧ rpOK q.2.1 ∧ rpOK q.2.2) → ∀ (μ : Mem) (b fuel : Nat), L.length < fuel → b + L.length + 1 = N → mI μ 77 0 at_ = nI N → mI μ 55 0 49 = nI 0 → brM μ e b L →
    ∃ μ', fixN (fun _ _ => none) (m_lawTells_B39 (nI at_) (fun (x36 : Int32) (μ37 : Mem) =>
if inB x36 260 = true then
ob (m_termOf (mI μ37 81 0 (cl x36)) (mI μ37 82 0 (cl x36)) μ37) fun r46 μ43 =>
if (mI μ43 55 0 49) = (nI 0) then
some (r46, μ43) else
some ((nI 0), μ43) else none)) fuel (nI b) μ = some (lawB (mI μ 86 0) e L, μ')
  | [], hL, μ, b, fuel, hf, hb, h77, h49, hbr => by
    obtain ⟨h78, s, h81, h82, hi, hs, h4⟩ := hbr
    obtain ⟨x, μ', e1, g, r⟩ := m_termOf_e he hi rfl hs h4
    simp only [List.length_nil] at hf hb
    obtain ⟨f2, rfl⟩ : ∃ f2, fuel = f2 + 1 := ⟨fuel - 1, by omega⟩
    rw [fixN_s, m_lawTells_B39]
    simp only [lawB]
    rw [← h81, ← h82] at e1
    cases hev : evR (mI μ 86 0) e with
    | none =>
      rw [hev] at r
      simp (disch := omega) only [inB_nI, cl_nI, h77, nI_leF, h78, ↓ob_eq e1, r, nI_10, ↓reduceIte]
      exact ⟨μ', rfl⟩
    | some y =>
      rw [hev] at r
      obtain ⟨rfl, r2⟩ := r
      rw [h49] at r2
      simp (disch := omega) only [inB_nI, cl_nI, h77, nI_leF, h78, ↓ob_eq e1, r2, ↓reduceIte]
      exact ⟨μ', rfl⟩
  | (x, y, z) :: t, hL, μ, b, fuel, hf, hb, h77, h49, hbr => by
    obtain ⟨hx, hy, hz⟩ : rpOK x ∧ rpOK y ∧ rpOK z := hL (x, y, z) List.mem_cons_self
    obtain ⟨h78, ⟨s, h79, h80, h81, h82, i1, i2, i3, hs, l1, l2, l3⟩, ht⟩ := hbr
    simp only [List.length_cons] at hf hb
    obtain ⟨u, μ1, e1, g1, r1⟩ := m_termOf_e hx i1 rfl (by omega) l1
    have i2' : isR μ1 (s + x.length) y := isR_fr i2 (T87_fr g1 (by decide) (by decide)) (T87_fr g1 (by decide) (by decide))
    obtain ⟨v, μ2, e2, g2, r2⟩ := m_termOf_e hy i2' rfl (by omega) l2
    have g12 := Fr.tr g2 g1
    have h86 : mI μ1 86 0 = mI μ 86 0 := T87_fr g1 (by decide) (by decide)
    have h86' : mI μ2 86 0 = mI μ 86 0 := T87_fr g12 (by decide) (by decide)
    have q80 : mI μ1 80 0 b = nI (s + x.length) := by rw [T87_fr g1 (by decide) (by decide)]; exact h80
    have q81 : mI μ1 81 0 b = nI (s + x.length + y.length) := by rw [T87_fr g1 (by decide) (by decide)]; exact h81
    rw [h86] at r2
    obtain ⟨f2, rfl⟩ : ∃ f2, fuel = f2 + 1 := ⟨fuel - 1, by omega⟩
    rw [fixN_s, m_lawTells_B39]
    simp only [lawB]
    rw [← h79, ← h80] at e1
    rw [← q80, ← q81] at e2
    rw [cl_nI (show b < 2147483648 by omega), cl_nI (show at_ < 2147483648 by omega)]
    have keep1 : mI μ1 55 0 49 = nI 1 → mI μ2 55 0 49 = nI 1 := fun q => by
      cases hev : evR (mI μ 86 0) y with
      | none => rw [hev] at r2; exact r2
      | some w => rw [hev] at r2; rw [r2.2]; exact q
    cases hev1 : evR (mI μ 86 0) x with
    | none =>
      rw [hev1] at r1
      simp (disch := omega) only [inB_nI, h77, nI_leF, h78, nI_10, ↓ob_eq e1, ↓ob_eq e2, keep1 r1, ↓reduceIte]
      exact ⟨μ2, rfl⟩
    | some u' =>
      rw [hev1] at r1
      obtain ⟨rfl, r1⟩ := r1
      cases hev2 : evR (mI μ 86 0) y with
      | none =>
        rw [hev2] at r2
        simp (disch := omega) only [inB_nI, h77, nI_leF, h78, nI_10, ↓ob_eq e1, ↓ob_eq e2, r2, ↓reduceIte]
        exact ⟨μ2, rfl⟩
      | some v' =>
        rw [hev2] at r2
        obtain ⟨rfl, r2⟩ := r2
        have q49 : mI μ2 55 0 49 = nI 0 := by rw [r2, r1]; exact h49
        by_cases hxy : u < v
        · have i3' : isR μ2 (s + x.length + y.length) z := isR_fr i3 (T87_fr g12 (by decide) (by decide)) (T87_fr g12 (by decide) (by decide))
          obtain ⟨w, μ3, e3, g3, r3⟩ := m_termOf_e hz i3' rfl hs l3
          have p81 : mI μ2 81 0 b = nI (s + x.length + y.length) := by rw [T87_fr g12 (by decide) (by decide)]; exact h81
          have p82 : mI μ2 82 0 b = nI (s + x.length + y.length + z.length) := by rw [T87_fr g12 (by decide) (by decide)]; exact h82
          rw [← p81, ← p82] at e3
          rw [h86'] at r3
          simp only [if_pos hxy]
          cases hev3 : evR (mI μ 86 0) z with
          | none =>
            rw [hev3] at r3
            simp (disch := omega) only [inB_nI, h77, nI_leF, h78, nI_10, ↓ob_eq e1, ↓ob_eq e2, q49, hxy, cl_nI, ↓ob_eq e3, r3, ↓reduceIte]
            exact ⟨μ3, rfl⟩
          | some w' =>
            rw [hev3] at r3
            obtain ⟨rfl, r3⟩ := r3
            rw [q49] at r3
            simp (disch := omega) only [inB_nI, h77, nI_leF, h78, nI_10, ↓ob_eq e1, ↓ob_eq e2, q49, hxy, cl_nI, ↓ob_eq e3, r3, ↓reduceIte]
            exact ⟨μ3, rfl⟩
        · simp only [if_neg hxy]
          have ht' : brM μ2 e (b + 1) t := brM_fr (fun r hr => T87_fr g12 (by intro z; subst z; simp at hr) (by intro z; subst z; simp at hr)) ht
          obtain ⟨μ3, e3⟩ := m_law_br hat hN he t (fun q hq => hL q (List.mem_cons_of_mem _ hq)) μ2 (b + 1) f2 (by omega) (by omega) (by rw [T87_fr g12 (by decide) (by decide)]; exact h77) q49 ht'
          rw [h86'] at e3
          simp (disch := omega) only [inB_nI, h77, nI_leF, h78, nI_10, ↓ob_eq e1, ↓ob_eq e2, q49, hxy, nI_add, ↓reduceIte]
          exact ⟨μ3, e3⟩
theorem m_lawTells_e {μ : Mem} {lv : Nat} {P : Pl} (hk : PlOK P) (h : PlM μ lv P) (hL : LaM μ lv P) {k : Nat} (hk4 : k < 4) {x : Int32} (hx : x = lawV (plainL k) (mI μ 86 0)) : ∃ μ', m_lawTells (nI k) x μ = some (lawV (pLaw P k) (mI μ 86 0), μ') := by
  have hl2 := h.l2
  obtain ⟨a, h76, ha, h3⟩ := hL k hk4
  have ok := hk.2.2.2.2.2 k
  unfold m_lawTells
  rcases h3 with ⟨h77, hp⟩ | ⟨h77, hN, hbr⟩
  · simp (disch := omega) only [h.lv, pk_mul, nI_add, inB_nI, cl_nI, h76, h77, ↓reduceIte]
    rw [hp, hx]; exact ⟨μ, rfl⟩
  · have q76 : mI (stI μ 55 0 49 (nI 0)) 76 0 (4 * lv + k) = nI a := h76
    obtain ⟨μ', e⟩ := m_law_br (at_ := 4 * lv + k) (by omega) hN ok.2 (pLaw P k).1 ok.1 (stI μ 55 0 49 (nI 0)) a 60000 (by omega) rfl h77 (by rw [mI_stI, if_pos ⟨rfl, rfl, rfl⟩]) (brM_fr (fun r hr => by
      funext j
      rw [mI_stI, if_neg]
      intro z
      rw [z.1] at hr
      simp at hr) hbr)
    simp (disch := omega) only [h.lv, pk_mul, nI_add, inB_nI, cl_nI, h76, h77, nI_eqF, q76, ↓vb_e, ↓reduceIte]
    exact ⟨μ', e⟩

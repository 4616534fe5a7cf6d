/-! the reference reads: a law's branches -/
def brI (μ : Mem) (D C b : Nat) (q : Rp × Rp × Rp) : Prop := mI μ 78 0 b = nI 1 ∧ ∃ s, D ≤ s ∧ mI μ 79 0 b = nI s ∧ mI μ 80 0 b = nI (s + q.1.length) ∧ mI μ 81 0 b = nI (s + q.1.length + q.2.1.length) ∧ mI μ 82 0 b = nI (s + q.1.length + q.2.1.length + q.2.2.length) ∧ isR μ s q.1 ∧ isR μ (s + q.1.length) q.2.1 ∧ isR μ (s + q.1.length + q.2.1.length) q.2.2 ∧ s + q.1.length + q.2.1.length + q.2.2.length ≤ C
def brE (μ : Mem) (D C b : Nat) (e : Rp) : Prop := mI μ 78 0 b = nI 0 ∧ ∃ s, D ≤ s ∧ mI μ 81 0 b = nI s ∧ mI μ 82 0 b = nI (s + e.length) ∧ isR μ s e ∧ s + e.length ≤ C
def brL (μ : Mem) (D C b : Nat) (L : List (Rp × Rp × Rp)) : Prop := ∀ (i : Nat) (q : Rp × Rp × Rp), L[i]? = some q → brI μ D C (b + i) q
/-- branches below B and codes below C stay -/
def LKp (B C : Nat) (μ μ' : Mem) : Prop := (∀ r j, 78 ≤ r → r ≤ 82 → j < B → mI μ' r 0 j = mI μ r 0 j) ∧ ∀ r j, r = 83 ∨ r = 84 → j < C → mI μ' r 0 j = mI μ r 0 j
theorem LK.kp {d k b c : Nat} {x y : Mem} (h : LK d k b c x y) : LKp (130 * d + b) (420 * d + c) x y := ⟨fun r j h1 h2 h3 => h.2.2.1 r j h1 h2 (by omega), fun r j h1 h2 => h.2.2.2 r j h1 (by omega)⟩
theorem isR.kp {B C : Nat} {μ μ' : Mem} {s : Nat} {l : Rp} (h : isR μ s l) (k : LKp B C μ μ') (hl : s + l.length ≤ C) : isR μ' s l := fun i hi => ⟨(k.2 83 _ (Or.inl rfl) (by omega)).trans (h i hi).1, (k.2 84 _ (Or.inr rfl) (by omega)).trans (h i hi).2⟩
theorem brI.kp {B C D C' b : Nat} {μ μ' : Mem} {q : Rp × Rp × Rp} (h : brI μ D C' b q) (k : LKp B C μ μ') (hb : b < B) (hc : C' ≤ C) : brI μ' D C b q := by
  obtain ⟨a1, s, a2, a3, a4, a5, a6, a7, a8, a9, b1⟩ := h
  exact ⟨(k.1 78 b (by omega) (by omega) hb).trans a1, s, a2, (k.1 79 b (by omega) (by omega) hb).trans a3, (k.1 80 b (by omega) (by omega) hb).trans a4, (k.1 81 b (by omega) (by omega) hb).trans a5, (k.1 82 b (by omega) (by omega) hb).trans a6, a7.kp k (by omega), a8.kp k (by omega), a9.kp k (by omega), by omega⟩
theorem brE.kp {B C D C' b : Nat} {μ μ' : Mem} {e : Rp} (h : brE μ D C' b e) (k : LKp B C μ μ') (hb : b < B) (hc : C' ≤ C) : brE μ' D C b e := by
  obtain ⟨a1, s, a2, a3, a4, a5, b1⟩ := h
  exact ⟨(k.1 78 b (by omega) (by omega) hb).trans a1, s, a2, (k.1 81 b (by omega) (by omega) hb).trans a3, (k.1 82 b (by omega) (by omega) hb).trans a4, a5.kp k (by omega), by omega⟩
theorem brL.kp {B C D C' b : Nat} {μ μ' : Mem} {L : List (Rp × Rp × Rp)} (h : brL μ D C' b L) (k : LKp B C μ μ') (hb : b + L.length ≤ B) (hc : C' ≤ C) : brL μ' D C b L := fun i q hq => by
  have hi : i < L.length := by
    rcases Nat.lt_or_ge i L.length with c | c
    · exact c
    · rw [List.getElem?_eq_none c] at hq; cases hq
  exact (h i q hq).kp k (by omega) hc
theorem brL.snoc {D C b : Nat} {μ : Mem} {L : List (Rp × Rp × Rp)} {q : Rp × Rp × Rp} (h : brL μ D C b L) (hq : brI μ D C (b + L.length) q) : brL μ D C b (L ++ [q]) := fun i p hp => by
  rcases Nat.lt_trichotomy i L.length with c | c | c
  · rw [List.getElem?_append_left c] at hp
    exact h i p hp
  · rw [List.getElem?_append_right (by omega), c, Nat.sub_self] at hp
    have : p = q := by simpa using hp.symm
    rw [this, c]; exact hq
  · rw [List.getElem?_eq_none (by simp; omega)] at hp
    cases hp
theorem brL_M {μ : Mem} {D C : Nat} (h840 : C ≤ 840) (h400 : C ≤ D + 400) {e : Rp} : ∀ {L : List (Rp × Rp × Rp)} {b : Nat}, brL μ D C b L → brE μ D C (b + L.length) e → brM μ e b L
  | [], b, h1, h2 => by
    obtain ⟨a1, s, a2, a3, a4, a5, a6⟩ := h2
    exact ⟨a1, s, a3, a4, a5, by omega, by omega⟩
  | (x, y, z) :: t, b, h1, h2 => by
    obtain ⟨a1, s, a2, a3, a4, a5, a6, a7, a8, a9, c1⟩ := h1 0 (x, y, z) rfl
    refine ⟨a1, ⟨s, a3, a4, a5, a6, a7, a8, a9, ?_, ?_, ?_, ?_⟩, brL_M h840 h400 (fun i q hq => ?_) ?_⟩
    · simp only at c1; omega
    · simp only at c1; omega
    · simp only at c1; omega
    · simp only at c1; omega
    · have := h1 (i + 1) q hq
      rw [show b + 1 + i = b + (i + 1) by omega]; exact this
    · rw [show b + 1 + t.length = b + (t.length + 1) by omega]; exact h2
/-- what a fault in a law leaves -/
def LEr (d k b c : Nat) (μ0 : Mem) (φ : Nat × Int32) (μ : Mem) : Prop := ErM φ μ ∧ LK d k b c μ0 μ
theorem m_must_er {φ : Nat × Int32} {μ : Mem} (h : ErM φ μ) (x : Int32) : m_must x μ = some ((), μ) := by
  unfold m_must
  rw [ob_eq (m_is_er h _), if_pos rfl, ob_eq (m_fail_er h _)]
theorem tlK_er {φ : Nat × Int32} {μ0 μ : Mem} {d k b b0 c0 : Nat} (d2 : d < 2) (h : ErM φ μ) (hb : mI μ 55 0 36 = nI (130 * d + b)) (b1 : b < 130) (bb : b0 ≤ b) (g : LK d k b0 c0 μ0 μ) (x1 x2 : Int32) : ∃ μ', tlK x1 x2 μ = some ((), μ') ∧ LEr d k b0 c0 μ0 φ μ' := by
  have gM : Fr [(78, none, none)] μ (stI μ 78 0 (130 * d + b) (nI 0 &&& 1)) := Fr.stI (Fr.rf _ _) (iT 0 rfl inA_nn)
  obtain ⟨μ1, e1, er1, -, l1⟩ := m_term_er (k := k) (c := c0) d2 (h.fr gM rfl rfl) ((gM.I rfl).trans hb) b1 (LK.rf d k b c0 _)
  unfold tlK
  rw [hb, if_pos (inB_nI (by omega) (by omega)), cl_nI (by omega), mb_e, ob_eq e1, ob_eq (m_must_er er1 _), if_neg er1.nle]
  exact ⟨μ1, rfl, er1, LK.tr (l1.mono bb (Nat.le_refl _)) (g.st (by omega) (by omega) (by omega))⟩
theorem self_er {φ : Nat × Int32} {μ0 μ : Mem} {d k b b0 c0 : Nat} (d2 : d < 2) (h : ErM φ μ) (hb : mI μ 55 0 36 = nI (130 * d + b)) (b1 : b < 130) (bb : b0 ≤ b) (g : LK d k b0 c0 μ0 μ) (y1 y2 x1 x2 x3 : Int32) {fuel : Nat} (hf : 0 < fuel) : ∃ μ', fixN (fun _ _ => none) (m_tellLaw_B12 y1 y2 (tlK x1 x2)) fuel x3 μ = some ((), μ') ∧ LEr d k b0 c0 μ0 φ μ' := by
  obtain ⟨f, rfl⟩ : ∃ f, fuel = f + 1 := ⟨fuel - 1, by omega⟩
  rw [fixN_s, lawB12, if_neg h.nz]
  exact tlK_er d2 h hb b1 bb g x1 x2
theorem tlE_er {φ : Nat × Int32} {μ0 μ : Mem} {d k b b0 c0 : Nat} (d2 : d < 2) (h : ErM φ μ) (hb : mI μ 55 0 36 = nI (130 * d + b)) (b1 : b < 129) (bb : b0 ≤ b) (g : LK d k b0 c0 μ0 μ) (y1 y2 x1 x2 x3 : Int32) {fuel : Nat} (hf : 0 < fuel) : ∃ μ', tlE (fixN (fun _ _ => none) (m_tellLaw_B12 y1 y2 (tlK x1 x2)) fuel) x3 μ = some ((), μ') ∧ LEr d k b0 c0 μ0 φ μ' := by
  obtain ⟨μ1, e1, er1, b2, l1⟩ := m_term_er (k := k) (c := c0) d2 h hb (by omega) (LK.rf d k b c0 _)
  unfold tlE
  rw [ob_eq e1, ob_eq (m_must_er er1 _)]
  exact self_er d2 er1 b2 (by omega) (by omega) (LK.tr (l1.mono bb (Nat.le_refl _)) g) y1 y2 x1 x2 _ hf
theorem tlD_er {φ : Nat × Int32} {μ0 μ : Mem} {d k b b0 c0 : Nat} (d2 : d < 2) (h : ErM φ μ) (hb : mI μ 55 0 36 = nI (130 * d + b)) (b1 : b < 129) (bb : b0 ≤ b) (g : LK d k b0 c0 μ0 μ) (y1 y2 x1 x2 x3 : Int32) {fuel : Nat} (hf : 0 < fuel) : ∃ μ', tlD (fixN (fun _ _ => none) (m_tellLaw_B12 y1 y2 (tlK x1 x2)) fuel) x3 μ = some ((), μ') ∧ LEr d k b0 c0 μ0 φ μ' := by
  unfold tlD
  rw [if_neg h.nz, ob_eq (m_must_er h _)]
  exact tlE_er d2 h hb b1 bb g y1 y2 x1 x2 x3 hf
theorem tlC_er {φ : Nat × Int32} {μ0 μ : Mem} {d k b b0 c0 : Nat} (d2 : d < 2) (h : ErM φ μ) (hb : mI μ 55 0 36 = nI (130 * d + b)) (b1 : b < 129) (bb : b0 ≤ b) (g : LK d k b0 c0 μ0 μ) (y1 y2 x1 x2 x3 : Int32) {fuel : Nat} (hf : 0 < fuel) : ∃ μ', tlC (fixN (fun _ _ => none) (m_tellLaw_B12 y1 y2 (tlK x1 x2)) fuel) x3 μ = some ((), μ') ∧ LEr d k b0 c0 μ0 φ μ' := by
  have gM : Fr [(80, none, none)] μ (stI μ 80 0 (130 * d + b) (mI μ 55 0 42)) := Fr.stI (Fr.rf _ _) (iT 0 rfl inA_nn)
  unfold tlC
  rw [ob_eq (m_must_er h _), hb, if_pos (inB_nI (by omega) (by omega)), cl_nI (by omega), mb_e]
  exact tlD_er d2 (h.fr gM rfl rfl) ((gM.I rfl).trans hb) b1 bb (g.st (by omega) (by omega) (by omega)) y1 y2 x1 x2 x3 hf
theorem tlB_er {φ : Nat × Int32} {μ0 μ : Mem} {d k b b0 c0 : Nat} (d2 : d < 2) (h : ErM φ μ) (hb : mI μ 55 0 36 = nI (130 * d + b)) (b1 : b < 129) (bb : b0 ≤ b) (g : LK d k b0 c0 μ0 μ) (y1 y2 x1 x2 x3 : Int32) {fuel : Nat} (hf : 0 < fuel) : ∃ μ', tlB (fixN (fun _ _ => none) (m_tellLaw_B12 y1 y2 (tlK x1 x2)) fuel) x3 μ = some ((), μ') ∧ LEr d k b0 c0 μ0 φ μ' := by
  generalize hM : stI μ 78 0 (130 * d + b) (nI 1 &&& 1) = M
  have gM : Fr [(78, none, none)] μ M := by rw [← hM]; exact Fr.stI (Fr.rf _ _) (iT 0 rfl inA_nn)
  have b2 : mI M 55 0 36 = nI (130 * d + b) := (gM.I rfl).trans hb
  generalize hN : stI M 79 0 (130 * d + b) (mI M 55 0 42) = N
  have gN : Fr [(79, none, none)] M N := by rw [← hN]; exact Fr.stI (Fr.rf _ _) (iT 0 rfl inA_nn)
  have er := (h.fr gM rfl rfl).fr gN rfl rfl
  have gO : Fr [(55, none, some 46)] N (stI N 55 0 46 (nI 0)) := Fr.stI (Fr.rf _ _) (iT 0 rfl inA_ns)
  unfold tlB
  rw [hb, if_pos (inB_nI (by omega) (by omega)), cl_nI (by omega), mb_e, hM, b2, if_pos (inB_nI (by omega) (by omega)), cl_nI (by omega), mb_e, hN, ob_eq (m_expression_er er)]
  have lN : LK d k b0 c0 μ0 N := by
    rw [← hN, ← hM]
    exact (g.st (by omega) (by omega) (by omega)).st (by omega) (by omega) (by omega)
  exact tlC_er d2 (er.fr gO rfl rfl) ((gO.I rfl).trans ((gN.I rfl).trans b2)) b1 bb (lN.fr gO (sbc (sa_m 8 rfl) sbn) rfl) y1 y2 x1 x2 x3 hf
/-- a law is told -/
def LwF (d k b0 c0 : Nat) (μ : Mem) (s : Sg) : Prop := ∃ cs : Nat, c0 ≤ cs ∧ mI μ 55 0 12 = nI 0 ∧ mI μ 55 0 36 = nI (130 * d + (b0 + (yW s k).1.length + 1)) ∧ mI μ 55 0 42 = nI (420 * d + cs) ∧ cs ≤ yT s ∧ 4 * (b0 + (yW s k).1.length + 1) ≤ yT s ∧ mI μ 76 0 (4 * d + k) = nI (130 * d + b0) ∧ mI μ 77 0 (4 * d + k) = nI (130 * d + (b0 + (yW s k).1.length + 1)) ∧ brL μ (420 * d) (420 * d + cs) (130 * d + b0) (yW s k).1 ∧ brE μ (420 * d) (420 * d + cs) (130 * d + b0 + (yW s k).1.length) (yW s k).2
def RLw (Z : Tks) (d k b0 c0 : Nat) (μ0 : Mem) (e : Rs) (μ : Mem) : Prop := RM Z e μ ∧ LK d k b0 c0 μ0 μ ∧ ∀ s, e = .ok s → LwF d k b0 c0 μ s
theorem LEr.rl {Z : Tks} {d k b0 c0 : Nat} {μ0 μ : Mem} {φ : Nat × Int32} (h : LEr d k b0 c0 μ0 φ μ) : RLw Z d k b0 c0 μ0 (.error φ) μ := ⟨h.1, h.2, fun s e => by cases e⟩
/-- in a law's telling -/
def LSt (Z : Tks) (d k b0 c0 : Nat) (μ0 : Mem) (b c : Nat) (s : Sg) (μ : Mem) : Prop := CuM Z μ s ∧ SgI Z s ∧ mI μ 55 0 12 = nI 0 ∧ mI μ 55 0 36 = nI (130 * d + b) ∧ mI μ 55 0 42 = nI (420 * d + c) ∧ c ≤ yT s ∧ LK d k b0 c0 μ0 μ ∧ mI μ 55 0 19 = nI d
theorem tlK_e {Z : Tks} {d k b0 c0 c : Nat} {μ0 μ : Mem} {s : Sg} {L : List (Rp × Rp × Rp)} (hz : ZOK Z) (d2 : d < 2) (k4 : k < 4) (h : LSt Z d k b0 c0 μ0 (b0 + L.length) c s μ) (hc : c0 ≤ c) (hb : 4 * (b0 + L.length) + 2 ≤ yT s) (hL : brL μ (420 * d) (420 * d + c) (130 * d + b0) L) : ∃ μ', tlK (nI k) (nI (130 * d + b0)) μ = some ((), μ') ∧ RLw Z d k b0 c0 μ0 (gLast Z k L s) μ' := by
  obtain ⟨a1, a2, a3, a4, a5, a6, a7, a8⟩ := h
  have s1 := a2.2.2.2.2.2.2.2.1
  generalize hM : stI μ 78 0 (130 * d + (b0 + L.length)) (nI 0 &&& 1) = M
  have gM : Fr [(78, none, none)] μ M := by rw [← hM]; exact Fr.stI (Fr.rf _ _) (iT 0 rfl inA_nn)
  have lM : LK d k (b0 + L.length) c μ M := by rw [← hM]; exact (LK.rf d k _ _ _).st (by omega) (by omega) (by omega)
  obtain ⟨μ1, e1, b1, l1, p1, q1, r1⟩ := m_term_e (b := b0 + L.length) (c := c) hz d2 (a1.fr gM rfl rfl rfl rfl rfl) a2 ((gM.I rfl).trans a3) ((gM.I rfl).trans a4) (by omega) ((gM.I rfl).trans a5) a6 lM
  have d1 : mI μ1 55 0 19 = nI d := (l1.1.I rfl).trans a8
  unfold tlK
  rw [a4, if_pos (inB_nI (by omega) (by omega)), cl_nI (by omega), mb_e, hM, ob_eq e1]
  unfold gLast
  cases eq : gE Z s with
  | error φ =>
    rw [eq] at r1
    have er1 : ErM φ μ1 := r1
    rw [ob_eq (m_must_er er1 _), if_neg er1.nle]
    exact ⟨μ1, rfl, er1, LK.tr (l1.mono (by omega) hc) a7, fun s e => by cases e⟩
  | ok w =>
    obtain ⟨a, r⟩ := w
    rw [eq] at r1
    obtain ⟨c2, hs2, m12, cd2, m81, m82⟩ := r1
    obtain ⟨g1, -, g3, g4, g5⟩ := gE_ok hz a2 eq
    have al := rpOK_1 g1
    obtain ⟨μ2, e2, r2, g2⟩ := m_must_e hz (e := .ok r) ⟨c2, hs2⟩ (show 30 < 43 by omega) (show 4 = kM 30 from rfl)
    have r2' : RM Z (gTake Z 30 r) μ2 := r2
    have d3 : mI μ2 55 0 19 = nI d := (g2.I rfl).trans d1
    show ∃ μ', _ ∧ RLw Z d k b0 c0 μ0 (bG (gTake Z 30 r) fun q => .ok (stLw k (L, a) q)) μ'
    rw [ob_eq e2]
    rcases r2'.k with ⟨q, eq2, c3, hs3⟩ | ⟨φ, eq2, c3⟩
    · obtain ⟨rfl, k1, k2⟩ := gTake_ok eq2
      have b3 : mI μ2 55 0 36 = nI (130 * d + (b0 + L.length + 1)) := (g2.I rfl).trans b1
      generalize hN : stI μ2 76 0 (4 * d + k) (nI (130 * d + b0)) = N
      have gN : Fr [(76, none, none)] μ2 N := by rw [← hN]; exact Fr.stI (Fr.rf _ _) (iT 0 rfl inA_nn)
      have d4 : mI N 55 0 19 = nI d := (gN.I rfl).trans d3
      have b4 : mI N 55 0 36 = nI (130 * d + (b0 + L.length + 1)) := (gN.I rfl).trans b3
      rw [c3.2.2.1, if_pos (Int32.le_refl _), d3, pk_mul, nI_add, if_pos (inB_nI (by omega) (by omega)), cl_nI (by omega), mb_e, hN, d4, pk_mul, nI_add, if_pos (inB_nI (by omega) (by omega)), cl_nI (by omega), mb_e, b4, eq2]
      generalize hO : stI N 77 0 (4 * d + k) (nI (130 * d + (b0 + L.length + 1))) = O
      have gO : Fr [(77, none, none)] N O := by rw [← hO]; exact Fr.stI (Fr.rf _ _) (iT 0 rfl inA_nn)
      have gg : Fr [(76, none, none), (77, none, none)] μ2 O := Fr.tr (gO.mono (sbc (sa_m 1 rfl) sbn)) (gN.mono (sbc (sa_m 0 rfl) sbn))
      have l2 : LK d k (b0 + L.length) c μ O := by
        rw [← hO, ← hN]
        exact ((l1.fr g2 TM_TL rfl).sk (Or.inl rfl)).sk (Or.inr rfl)
      have fr2 : Fr (TM ++ [(76, none, none), (77, none, none)]) μ1 O := by
        refine Fr.tr (gg.mono ?_) (g2.mono ?_)
        · exact sbc (sa_m 5 rfl) (sbc (sa_m 6 rfl) sbn)
        · exact sbc (sa_m 0 rfl) (sbc (sa_m 1 rfl) (sbc (sa_m 2 rfl) (sbc (sa_m 3 rfl) (sbc (sa_m 4 rfl) sbn))))
      have w1 : (yW (stLw k (L, a) (wyT r (yT r + 1))) k) = (L, a) := up_s _ _ _
      have yt : yT (stLw k (L, a) (wyT r (yT r + 1))) = yT r + 1 := rfl
      have lenb : 420 * d + c + a.length = 420 * d + (c + a.length) := by omega
      have cd3 : CdM (420 * d + c) O a := cd2.fr fr2 rfl rfl
      refine ⟨O, rfl, ⟨(c3.fr gg rfl rfl rfl rfl rfl).adv rfl rfl, hs3⟩, LK.tr (l2.mono (by omega) hc) a7, fun s' e => ?_⟩
      cases e
      unfold LwF
      rw [w1, yt]
      dsimp only
      refine ⟨c + a.length, by omega, (fr2.I rfl).trans m12, ?_, ?_, by omega, by omega, ?_, ?_, ?_, ?_⟩
      · exact (gO.I rfl).trans b4
      · rw [cd3.1, lenb]
      · rw [← hO, mI_stI, if_neg (by omega), ← hN, mI_stI, if_pos ⟨rfl, rfl, rfl⟩]
      · rw [← hO, mI_stI, if_pos ⟨rfl, rfl, rfl⟩]
      · have kp := l2.kp
        have := hL.kp kp (by show _ ≤ _; omega) (Nat.le_refl _)
        exact fun i q hq => by
          obtain ⟨x1, x, x2, x3, x4, x5, x6, x7, x8, x9, y1⟩ := this i q hq
          exact ⟨x1, x, x2, x3, x4, x5, x6, x7, x8, x9, by omega⟩
      · refine ⟨?_, 420 * d + c, by omega, ?_, ?_, cd3.2, by show _ ≤ _; omega⟩
        · refine (fr2.I rfl).trans ((p1 78 _ (Or.inl rfl)).trans ?_)
          rw [← hM, mI_stI, if_pos ⟨rfl, rfl, by omega⟩]
          rfl
        · refine (fr2.I rfl).trans ?_
          rw [show 130 * d + b0 + L.length = 130 * d + (b0 + L.length) by omega]; exact m81
        · refine (fr2.I rfl).trans ?_
          rw [show 130 * d + b0 + L.length = 130 * d + (b0 + L.length) by omega]; exact m82
    · rw [if_neg c3.nle, eq2]
      exact ⟨μ2, rfl, c3, LK.tr ((l1.fr g2 TM_TL rfl).mono (by omega) hc) a7, fun s e => by cases e⟩

/-! the reference reads: a whole law -/
theorem LSt.step {Z : Tks} {d k b0 c0 b c : Nat} {μ0 μ μ' : Mem} {s : Sg} (h : LSt Z d k b0 c0 μ0 b c s μ) {r : Sg} (g : Fr TM μ μ') (h1 : CuM Z μ' r) (h2 : SgI Z r) (h3 : yT s ≤ yT r) : LSt Z d k b0 c0 μ0 b c r μ' := by
  obtain ⟨a1, a2, a3, a4, a5, a6, a7, a8⟩ := h
  exact ⟨h1, h2, (g.I rfl).trans a3, (g.I rfl).trans a4, (g.I rfl).trans a5, by omega, a7.fr g TM_TL rfl, (g.I rfl).trans a8⟩
theorem LSt.exp {Z : Tks} {d k b0 c0 b c : Nat} {μ0 μ μ' : Mem} {s r : Sg} {a : Rp} (hz : ZOK Z) (h : LSt Z d k b0 c0 μ0 b c s μ) (d2 : d < 2) (hc : c0 ≤ c) (e : gE Z s = .ok (a, r)) (x : XR Z (420 * d + c) (420 * d + 420) μ (gE Z s) μ') : LSt Z d k b0 c0 μ0 b (c + a.length) r μ' ∧ isR μ' (420 * d + c) a ∧ LKp 1000 (420 * d + c) μ μ' ∧ yT s + 1 ≤ yT r := by
  obtain ⟨a1, a2, a3, a4, a5, a6, a7, a8⟩ := h
  obtain ⟨k1, g1, q⟩ := x
  rw [e] at q
  obtain ⟨q2, q3, q4, q5⟩ := q
  obtain ⟨g2, -, -, g4, g5⟩ := gE_ok hz a2 e
  have al := rpOK_1 g2
  refine ⟨⟨q2, q3, q5, (g1.I rfl).trans a4, by rw [q4.1, Nat.add_assoc], by omega, ?_, (g1.I rfl).trans a8⟩, q4.2, ⟨fun r j h1 h2 _ => g1.I (offR_f (R := [78, 79, 80, 81, 82]) rfl (by simp; omega) _ _), fun r j h1 h2 => k1 r j h1 (by omega)⟩, by omega⟩
  exact LK.tr ((LK.rf d k b0 c μ).x g1 k1 |>.mono (Nat.le_refl _) hc) a7
theorem m_exp_u {Z : Tks} {d k b0 c0 b c : Nat} {μ0 μ : Mem} {s : Sg} (hz : ZOK Z) (d2 : d < 2) (h : LSt Z d k b0 c0 μ0 b c s μ) : ∃ μ', m_expression μ = some ((), μ') ∧ XR Z (420 * d + c) (420 * d + 420) μ (gE Z s) μ' := by
  obtain ⟨a1, a2, a3, a4, a5, a6, a7, a8⟩ := h
  have s1 := a2.2.2.2.2.2.2.2.1
  exact m_expression_e hz a1 a2 a3 a5 (by omega) (by omega)
theorem XR.er {Z : Tks} {d k b0 c0 b c : Nat} {μ0 μ μ' : Mem} {s : Sg} {φ : Nat × Int32} (h : LSt Z d k b0 c0 μ0 b c s μ) (hc : c0 ≤ c) (e : gE Z s = .error φ) (x : XR Z (420 * d + c) (420 * d + 420) μ (gE Z s) μ') : ErM φ μ' ∧ mI μ' 55 0 36 = nI (130 * d + b) ∧ LK d k b0 c0 μ0 μ' := by
  obtain ⟨a1, a2, a3, a4, a5, a6, a7, a8⟩ := h
  obtain ⟨k1, g1, q⟩ := x
  rw [e] at q
  exact ⟨q, (g1.I rfl).trans a4, LK.tr ((LK.rf d k b0 c μ).x g1 k1 |>.mono (Nat.le_refl _) hc) a7⟩
theorem LKp.fr {B C : Nat} {x y z : Mem} {T : List At} (h : LKp B C x y) (g : Fr T y z) (o : offR [78, 79, 80, 81, 82, 83, 84] T = true) : LKp B C x z := ⟨fun r j h1 h2 h3 => (g.I (offR_f o (by simp; omega) _ _)).trans (h.1 r j h1 h2 h3), fun r j h1 h2 => (g.I (offR_f o (by simp; omega) _ _)).trans (h.2 r j h1 h2)⟩
theorem LKp.tr {B C : Nat} {x y z : Mem} (g : LKp B C y z) (h : LKp B C x y) : LKp B C x z := ⟨fun r j h1 h2 h3 => (g.1 r j h1 h2 h3).trans (h.1 r j h1 h2 h3), fun r j h1 h2 => (g.2 r j h1 h2).trans (h.2 r j h1 h2)⟩
theorem LKp.mono {B C B' C' : Nat} {x y : Mem} (h : LKp B C x y) (hb : B' ≤ B) (hc : C' ≤ C) : LKp B' C' x y := ⟨fun r j h1 h2 h3 => h.1 r j h1 h2 (by omega), fun r j h1 h2 => h.2 r j h1 (by omega)⟩
theorem LKp.rf (B C : Nat) (x : Mem) : LKp B C x x := ⟨fun _ _ _ _ _ => rfl, fun _ _ _ _ => rfl⟩
theorem LKp.st {B C : Nat} {x y : Mem} {r j : Nat} {v : Int32} (h : LKp B C x y) (hr : 78 ≤ r ∧ r ≤ 82) (hj : B ≤ j) : LKp B C x (stI y r 0 j v) := ⟨fun r' j' h1 h2 h3 => by rw [mI_stI, if_neg (by omega)]; exact h.1 r' j' h1 h2 h3, fun r' j' h1 h2 => by rw [mI_stI, if_neg (by omega)]; exact h.2 r' j' h1 h2⟩
theorem ifsM_e {Z : Tks} {d k b0 c0 : Nat} {μ0 : Mem} (hz : ZOK Z) (d2 : d < 2) (k4 : k < 4) : ∀ (n : Nat) (L : List (Rp × Rp × Rp)) (s : Sg) (c : Nat) (μ : Mem) (fuel : Nat), n < fuel → n ≤ 4 → LSt Z d k b0 c0 μ0 (b0 + L.length) c s μ → c0 ≤ c → 4 * (b0 + L.length) + 2 ≤ yT s → brL μ (420 * d) (420 * d + c) (130 * d + b0) L → ∃ μ', fixN (fun _ _ => none) (m_tellLaw_B12 (nI k) (nI (130 * d + b0)) (tlK (nI k) (nI (130 * d + b0)))) fuel (nI (4 - n)) μ = some ((), μ') ∧ RLw Z d k b0 c0 μ0 (gIfs Z k n L s) μ' := by
  intro n
  induction n with
  | zero =>
    intro L s c μ fuel hf hn h hc hb hL
    obtain ⟨fu, rfl⟩ : ∃ fu, fuel = fu + 1 := ⟨fuel - 1, by omega⟩
    have a1 := h.1
    have a2 := h.2.1
    rw [fixN_s, lawB12, a1.2.2.1, if_pos rfl, ob_eq (m_is_ok a1 a2 hz (show 11 < 44 by omega) (show 31 = kM 11 from rfl))]
    unfold gIfs
    by_cases z : tkd Z (yT s) = 11
    · obtain ⟨μ1, e1, er1, g1⟩ := m_fail_ok a1 a2 (c := 2) (Or.inr rfl)
      rw [decide_eq_true z, if_neg (show ¬ b01I true = nI 0 by decide), if_pos rfl, if_pos z, ob_eq e1, if_neg er1.nle]
      exact ⟨μ1, rfl, er1, h.2.2.2.2.2.2.1.fr g1 TM_TL rfl, fun s e => by cases e⟩
    · rw [decide_eq_false z, if_pos (show b01I false = nI 0 from rfl), if_neg z]
      exact tlK_e hz d2 k4 h hc hb hL
  | succ n ih =>
    intro L s c μ fuel hf hn h hc hb hL
    obtain ⟨fu, rfl⟩ : ∃ fu, fuel = fu + 1 := ⟨fuel - 1, by omega⟩
    have a1 := h.1
    have a2 := h.2.1
    have s1 := a2.2.2.2.2.2.2.2.1
    rw [fixN_s, lawB12, a1.2.2.1, if_pos rfl, ob_eq (m_is_ok a1 a2 hz (show 11 < 44 by omega) (show 31 = kM 11 from rfl))]
    unfold gIfs
    by_cases z : tkd Z (yT s) = 11
    · rw [decide_eq_true z, if_neg (show ¬ b01I true = nI 0 by decide), if_neg (nI_ne (show ¬ 4 - (n + 1) = 4 by omega) (by omega) (by omega)), a1.2.2.1, if_pos (Int32.le_refl _), if_pos z]
      obtain ⟨μ1, e1, r1, g1⟩ := m_goesOn_e (e := .ok s) ⟨a1, a2⟩ (fun r hr => by cases hr; omega)
      have r1' : RM Z (gPass Z s) μ1 := r1
      rw [ob_eq e1]
      rcases r1'.k with ⟨s2, q1, p1, p2⟩ | ⟨φ, q1, p1⟩
      rotate_left
      · rw [q1]
        obtain ⟨μ', e', x'⟩ := tlB_er (k := k) d2 p1 ((g1.I rfl).trans h.2.2.2.1) (by omega) (by omega) (h.2.2.2.2.2.2.1.fr g1 TM_TL rfl) (nI k) (nI (130 * d + b0)) (nI k) (nI (130 * d + b0)) (nI (4 - (n + 1))) (show 0 < fu by omega)
        exact ⟨μ', e', x'.rl⟩
      obtain ⟨rfl, -⟩ := gPass_ok q1
      have t2 : yT (wyT s (yT s + 1)) = yT s + 1 := rfl
      have h1 := h.step g1 p1 p2 (by omega)
      rw [q1]
      show ∃ μ', _ ∧ RLw Z d k b0 c0 μ0 (bV (gE Z (wyT s (yT s + 1))) _) μ'
      generalize hbb : b0 + L.length = b at *
      -- the test's beginning
      generalize hM : stI μ1 78 0 (130 * d + b) (nI 1 &&& 1) = M
      have gM : Fr [(78, none, none)] μ1 M := by rw [← hM]; exact Fr.stI (Fr.rf _ _) (iT 0 rfl inA_nn)
      have b2 : mI M 55 0 36 = nI (130 * d + b) := (gM.I rfl).trans h1.2.2.2.1
      have c2 : mI M 55 0 42 = nI (420 * d + c) := (gM.I rfl).trans h1.2.2.2.2.1
      generalize hN : stI M 79 0 (130 * d + b) (nI (420 * d + c)) = N
      have gN : Fr [(79, none, none)] M N := by rw [← hN]; exact Fr.stI (Fr.rf _ _) (iT 0 rfl inA_nn)
      have gMN : Fr [(78, none, none), (79, none, none)] μ1 N := Fr.tr (gN.mono (sbc (sa_m 1 rfl) sbn)) (gM.mono (sbc (sa_m 0 rfl) sbn))
      have h2 : LSt Z d k b0 c0 μ0 b c (wyT s (yT s + 1)) N := by
        obtain ⟨b1, b2, b3, b4, b5, b6, b7, b8⟩ := h1
        refine ⟨b1.fr gMN rfl rfl rfl rfl rfl, b2, (gMN.I rfl).trans b3, (gMN.I rfl).trans b4, (gMN.I rfl).trans b5, b6, ?_, (gMN.I rfl).trans b8⟩
        rw [← hN, ← hM]
        exact (b7.st (by omega) (by omega) (by omega)).st (by omega) (by omega) (by omega)
      have kpN : LKp (130 * d + b) (420 * d + c) μ N := by
        have : LKp (130 * d + b) (420 * d + c) μ μ1 := (LKp.rf _ _ _).fr g1 rfl
        rw [← hN, ← hM]
        exact (this.st (by omega) (Nat.le_refl _)).st (by omega) (Nat.le_refl _)
      have n78 : mI N 78 0 (130 * d + b) = nI 1 := by rw [← hN, mI_stI, if_neg (by omega), ← hM, mI_stI, if_pos ⟨rfl, rfl, rfl⟩]; rfl
      have n79 : mI N 79 0 (130 * d + b) = nI (420 * d + c) := by rw [← hN, mI_stI, if_pos ⟨rfl, rfl, rfl⟩]
      obtain ⟨μ2, e2, x2⟩ := m_exp_u hz d2 h2
      have headB : ∀ self x3, tlB self x3 μ1 = tlC self x3 μ2 := fun self x3 => by
        unfold tlB
        rw [h1.2.2.2.1, if_pos (inB_nI (by omega) (by omega)), cl_nI (by omega), mb_e, hM, b2, if_pos (inB_nI (by omega) (by omega)), cl_nI (by omega), mb_e, c2, hN, ob_eq e2]
      rw [headB]
      cases q2 : gE Z (wyT s (yT s + 1)) with
      | error φ =>
        obtain ⟨y1, y2, y3⟩ := XR.er h2 hc q2 x2
        obtain ⟨μ', e', x'⟩ := tlC_er (k := k) d2 y1 y2 (by omega) (by omega) y3 (nI k) (nI (130 * d + b0)) (nI k) (nI (130 * d + b0)) (nI (4 - (n + 1))) (show 0 < fu by omega)
        exact ⟨μ', e', x'.rl⟩
      | ok w =>
      obtain ⟨a, s3⟩ := w
      obtain ⟨h3, i3, kp3, t3⟩ := h2.exp hz d2 hc q2 x2
      have fr3 := x2.2.1
      show ∃ μ', _ ∧ RLw Z d k b0 c0 μ0 (bG (gTake Z 36 s3) _) μ'
      obtain ⟨μ3, e3, r3, g3⟩ := m_must_e hz (e := .ok s3) ⟨h3.1, h3.2.1⟩ (show 36 < 43 by omega) (show 13 = kM 36 from rfl)
      have r3' : RM Z (gTake Z 36 s3) μ3 := r3
      generalize hO : stI μ3 80 0 (130 * d + b) (mI μ3 55 0 42) = O
      have gO : Fr [(80, none, none)] μ3 O := by rw [← hO]; exact Fr.stI (Fr.rf _ _) (iT 0 rfl inA_nn)
      have b4 : mI μ3 55 0 36 = nI (130 * d + b) := (g3.I rfl).trans h3.2.2.2.1
      have headC : ∀ self x3, tlC self x3 μ2 = tlD self x3 O := fun self x3 => by
        unfold tlC
        rw [ob_eq e3, b4, if_pos (inB_nI (by omega) (by omega)), cl_nI (by omega), mb_e, hO]
      rw [headC]
      have lO : LK d k b0 c0 μ0 O := by rw [← hO]; exact (h3.2.2.2.2.2.2.1.fr g3 TM_TL rfl).st (by omega) (by omega) (by omega)
      rcases r3'.k with ⟨s4, q3, p3, p4⟩ | ⟨φ, q3, p3⟩
      rotate_left
      · rw [q3]
        obtain ⟨μ', e', x'⟩ := tlD_er (k := k) d2 (p3.fr gO rfl rfl) ((gO.I rfl).trans b4) (by omega) (by omega) lO (nI k) (nI (130 * d + b0)) (nI k) (nI (130 * d + b0)) (nI (4 - (n + 1))) (show 0 < fu by omega)
        exact ⟨μ', e', x'.rl⟩
      obtain ⟨rfl, -⟩ := gTake_ok q3
      have t4 : yT (wyT s3 (yT s3 + 1)) = yT s3 + 1 := rfl
      have h4' := h3.step g3 p3 p4 (by omega)
      have h4 : LSt Z d k b0 c0 μ0 b (c + a.length) (wyT s3 (yT s3 + 1)) O := by
        obtain ⟨b1, b2, b3, b4, b5, b6, b7, b8⟩ := h4'
        exact ⟨b1.fr gO rfl rfl rfl rfl rfl, b2, (gO.I rfl).trans b3, (gO.I rfl).trans b4, (gO.I rfl).trans b5, b6, lO, (gO.I rfl).trans b8⟩
      have kpO : LKp (130 * d + b) (420 * d + c + a.length) μ2 O := by
        have : LKp (130 * d + b) (420 * d + c + a.length) μ2 μ3 := (LKp.rf _ _ _).fr g3 rfl
        rw [← hO]
        exact this.st (by omega) (Nat.le_refl _)
      have c4 : mI μ3 55 0 42 = nI (420 * d + (c + a.length)) := h4'.2.2.2.2.1
      have n80 : mI O 80 0 (130 * d + b) = nI (420 * d + c + a.length) := by rw [← hO, mI_stI, if_pos ⟨rfl, rfl, rfl⟩, c4, Nat.add_assoc]
      rw [q3]
      show ∃ μ', _ ∧ RLw Z d k b0 c0 μ0 (bV (gE Z (wyT s3 (yT s3 + 1))) _) μ'
      obtain ⟨μ4, e4, x4⟩ := m_exp_u hz d2 h4
      have headD : ∀ self x3, tlD self x3 O = ob (m_must (nI 32) μ4) fun _ μ159 => tlE self x3 μ159 := fun self x3 => by
        unfold tlD
        rw [h4.1.2.2.1, if_pos rfl, ob_eq e4]
      rw [headD]
      have fr4 := x4.2.1
      cases q4 : gE Z (wyT s3 (yT s3 + 1)) with
      | error φ =>
        obtain ⟨y1, y2, y3⟩ := XR.er h4 (by omega) q4 x4
        rw [ob_eq (m_must_er y1 _)]
        obtain ⟨μ', e', x'⟩ := tlE_er (k := k) d2 y1 y2 (by omega) (by omega) y3 (nI k) (nI (130 * d + b0)) (nI k) (nI (130 * d + b0)) (nI (4 - (n + 1))) (show 0 < fu by omega)
        exact ⟨μ', e', x'.rl⟩
      | ok w =>
      obtain ⟨bb, s5⟩ := w
      obtain ⟨h5, i5, kp5, t5⟩ := h4.exp hz d2 (by omega) q4 x4
      show ∃ μ', _ ∧ RLw Z d k b0 c0 μ0 (bG (gTake Z 12 s5) _) μ'
      obtain ⟨μ5, e5, r5, g5⟩ := m_must_e hz (e := .ok s5) ⟨h5.1, h5.2.1⟩ (show 12 < 43 by omega) (show 32 = kM 12 from rfl)
      have r5' : RM Z (gTake Z 12 s5) μ5 := r5
      rw [ob_eq e5]
      rcases r5'.k with ⟨s6, q5, p5, p6⟩ | ⟨φ, q5, p5⟩
      rotate_left
      · rw [q5]
        obtain ⟨μ', e', x'⟩ := tlE_er (k := k) d2 p5 ((g5.I rfl).trans h5.2.2.2.1) (by omega) (by omega) (h5.2.2.2.2.2.2.1.fr g5 TM_TL rfl) (nI k) (nI (130 * d + b0)) (nI k) (nI (130 * d + b0)) (nI (4 - (n + 1))) (show 0 < fu by omega)
        exact ⟨μ', e', x'.rl⟩
      obtain ⟨rfl, -⟩ := gTake_ok q5
      have t6 : yT (wyT s5 (yT s5 + 1)) = yT s5 + 1 := rfl
      have h6 := h5.step g5 p5 p6 (by omega)
      rw [q5]
      show ∃ μ', _ ∧ RLw Z d k b0 c0 μ0 (bV (gE Z (wyT s5 (yT s5 + 1))) _) μ'
      have s61 := p6.2.2.2.2.2.2.2.1
      obtain ⟨μ6, e6, b6, l6, pk6, qk6, x6⟩ := m_term_e (k := k) hz d2 h6.1 h6.2.1 h6.2.2.1 h6.2.2.2.1 (by omega) h6.2.2.2.2.1 h6.2.2.2.2.2.1 (LK.rf d k b (c + a.length + bb.length) μ5)
      have l6' : LK d k b0 c0 μ0 μ6 := LK.tr (l6.mono (by omega) (by omega)) h6.2.2.2.2.2.2.1
      have headE : ∀ self x3, tlE self x3 μ5 = ob (m_must (nI 33) μ6) fun _ μ169 => self (x3 + (nI 1)) μ169 := fun self x3 => by
        unfold tlE
        rw [ob_eq e6]
      rw [headE, nI_add, show 4 - (n + 1) + 1 = 4 - n by omega]
      cases q6 : gE Z (wyT s5 (yT s5 + 1)) with
      | error φ =>
        rw [q6] at x6
        have er6 : ErM φ μ6 := x6
        rw [ob_eq (m_must_er er6 _)]
        obtain ⟨μ', e', x'⟩ := self_er (k := k) d2 er6 b6 (by omega) (by omega) l6' (nI k) (nI (130 * d + b0)) (nI k) (nI (130 * d + b0)) (nI (4 - n)) (show 0 < fu by omega)
        exact ⟨μ', e', x'.rl⟩
      | ok w =>
      obtain ⟨cc, s7⟩ := w
      rw [q6] at x6
      obtain ⟨x61, x62, x63, x64, x65, x66⟩ := x6
      obtain ⟨v1, -, -, v4, v5⟩ := gE_ok hz h6.2.1 q6
      have cl1 := rpOK_1 v1
      show ∃ μ', _ ∧ RLw Z d k b0 c0 μ0 (bG (gTake Z 13 s7) _) μ'
      obtain ⟨μ7, e7, r7, g7⟩ := m_must_e hz (e := .ok s7) ⟨x61, x62⟩ (show 13 < 43 by omega) (show 33 = kM 13 from rfl)
      have r7' : RM Z (gTake Z 13 s7) μ7 := r7
      rw [ob_eq e7]
      rcases r7'.k with ⟨s8, q7, p7, p8⟩ | ⟨φ, q7, p7⟩
      rotate_left
      · rw [q7]
        obtain ⟨μ', e', x'⟩ := self_er (k := k) d2 p7 ((g7.I rfl).trans b6) (by omega) (by omega) (l6'.fr g7 TM_TL rfl) (nI k) (nI (130 * d + b0)) (nI k) (nI (130 * d + b0)) (nI (4 - n)) (show 0 < fu by omega)
        exact ⟨μ', e', x'.rl⟩
      obtain ⟨rfl, -⟩ := gTake_ok q7
      have t8 : yT (wyT s7 (yT s7 + 1)) = yT s7 + 1 := rfl
      rw [q7]
      show ∃ μ', _ ∧ RLw Z d k b0 c0 μ0 (gIfs Z k n (L ++ [(a, bb, cc)]) (wyT s7 (yT s7 + 1))) μ'
      have ln : b0 + (L ++ [(a, bb, cc)]).length = b + 1 := by rw [List.length_append, List.length_singleton]; omega
      -- nothing told before changes
      have kp45 : LKp (130 * d + b) (420 * d + c) μ2 μ5 := ((kp5.mono (by omega) (by omega)).tr (kpO.mono (Nat.le_refl _) (by omega))).fr g5 rfl
      have kp56 : LKp (130 * d + b) (420 * d + (c + a.length + bb.length)) μ5 μ7 := l6.kp.fr g7 rfl
      have kpA : LKp (130 * d + b) (420 * d + c) μ μ7 := (kp56.mono (Nat.le_refl _) (by omega)).tr (kp45.tr ((kp3.mono (by omega) (Nat.le_refl _)).tr kpN))
      have f78 : mI μ7 78 0 (130 * d + b) = nI 1 := (g7.I rfl).trans ((pk6 78 _ (Or.inl rfl)).trans ((g5.I rfl).trans ((fr4.I rfl).trans ((gO.I rfl).trans ((g3.I rfl).trans ((fr3.I rfl).trans n78))))))
      have f79 : mI μ7 79 0 (130 * d + b) = nI (420 * d + c) := (g7.I rfl).trans ((pk6 79 _ (Or.inr (Or.inl rfl))).trans ((g5.I rfl).trans ((fr4.I rfl).trans ((gO.I rfl).trans ((g3.I rfl).trans ((fr3.I rfl).trans n79))))))
      have f80 : mI μ7 80 0 (130 * d + b) = nI (420 * d + c + a.length) := (g7.I rfl).trans ((pk6 80 _ (Or.inr (Or.inr rfl))).trans ((g5.I rfl).trans ((fr4.I rfl).trans n80)))
      have A1 : isR μ7 (420 * d + c) a := (i3.kp (B := 130 * d + b) ((kp5.mono (by omega) (by omega)).tr kpO) (Nat.le_refl _)).kp (B := 130 * d + b) (C := 420 * d + (c + a.length)) ((kp56.mono (Nat.le_refl _) (by omega)).tr ((LKp.rf _ _ _).fr g5 rfl)) (by omega)
      have A2 : isR μ7 (420 * d + c + a.length) bb := by
        rw [Nat.add_assoc]
        exact i5.kp (kp56.tr ((LKp.rf _ _ _).fr g5 rfl)) (by omega)
      have A3 : isR μ7 (420 * d + c + a.length + bb.length) cc := by
        have := (x64.fr g7 rfl rfl).2
        rw [show 420 * d + c + a.length + bb.length = 420 * d + (c + a.length + bb.length) by omega]; exact this
      have hL' : brL μ7 (420 * d) (420 * d + (c + a.length + bb.length + cc.length)) (130 * d + b0) (L ++ [(a, bb, cc)]) := by
        refine brL.snoc (fun i q hq => ?_) ?_
        · obtain ⟨y1, x, y2, y3, y4, y5, y6, y7, y8, y9, w1⟩ := hL.kp kpA (by omega) (Nat.le_refl _) i q hq
          exact ⟨y1, x, y2, y3, y4, y5, y6, y7, y8, y9, by omega⟩
        · rw [show 130 * d + b0 + L.length = 130 * d + b by omega]
          refine ⟨f78, 420 * d + c, by omega, f79, f80, ?_, ?_, A1, A2, A3, ?_⟩
          · refine ((g7.I rfl).trans x65).trans ?_
            show nI _ = nI (420 * d + c + a.length + bb.length)
            congr 1; omega
          · refine ((g7.I rfl).trans x66).trans ?_
            show nI _ = nI (420 * d + c + a.length + bb.length + cc.length)
            congr 1; omega
          · show 420 * d + c + a.length + bb.length + cc.length ≤ _
            omega
      refine ih (L ++ [(a, bb, cc)]) (wyT s7 (yT s7 + 1)) (c + a.length + bb.length + cc.length) μ7 fu (by omega) (by omega) ?_ (by omega) (by rw [ln]; omega) hL'
      rw [ln]
      have m42 : mI μ7 55 0 42 = nI (420 * d + (c + a.length + bb.length + cc.length)) := by
        rw [(x64.fr g7 rfl rfl).1]
        congr 1
        omega
      have := h6.2.2.2.2.2.1
      exact ⟨p7, p8, (g7.I rfl).trans x63, (g7.I rfl).trans b6, m42, by omega, l6'.fr g7 TM_TL rfl, (g7.I rfl).trans ((l6.1.I rfl).trans h6.2.2.2.2.2.2.2)⟩
    · rw [decide_eq_false z, if_pos (show b01I false = nI 0 from rfl), if_neg z]
      exact tlK_e hz d2 k4 h hc hb hL

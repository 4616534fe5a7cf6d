/-! the reference reads: laws -/
def TL : List At := [(55, none, some 11), (55, none, some 13), (55, none, some 14), (55, none, some 15), (55, none, some 16), (83, none, none), (84, none, none), (55, none, some 42), (55, none, some 46), (85, none, none), (55, none, some 12), (78, none, none), (79, none, none), (80, none, none), (81, none, none), (82, none, none), (55, none, some 36), (76, none, none), (77, none, none)]
theorem TX_TL : Sb TX TL := sbc (sa_m 0 rfl) (sbc (sa_m 1 rfl) (sbc (sa_m 2 rfl) (sbc (sa_m 3 rfl) (sbc (sa_m 4 rfl) (sbc (sa_m 5 rfl) (sbc (sa_m 6 rfl) (sbc (sa_m 7 rfl) (sbc (sa_m 8 rfl) (sbc (sa_m 9 rfl) (sbc (sa_m 10 rfl) sbn))))))))))
theorem TM_TL : Sb TM TL := sbt TM_TX TX_TL
/-- what a law's telling leaves as it is: from branch b and code c on it writes -/
def LK (d k b c : Nat) (μ μ' : Mem) : Prop := Fr TL μ μ' ∧ (∀ r j, r = 76 ∨ r = 77 → j ≠ 4 * d + k → mI μ' r 0 j = mI μ r 0 j) ∧ (∀ r j, 78 ≤ r → r ≤ 82 → ¬ (130 * d + b ≤ j ∧ j < 130 * d + 130) → mI μ' r 0 j = mI μ r 0 j) ∧ CdK (420 * d + c) (420 * d + 420) μ μ'
theorem LK.rf (d k b c : Nat) (μ : Mem) : LK d k b c μ μ := ⟨Fr.rf _ _, fun _ _ _ _ => rfl, fun _ _ _ _ _ => rfl, CdK.rf _ _ _⟩
theorem LK.tr {d k b c : Nat} {x y z : Mem} (g : LK d k b c y z) (h : LK d k b c x y) : LK d k b c x z := ⟨Fr.tr g.1 h.1, fun r j h1 h2 => (g.2.1 r j h1 h2).trans (h.2.1 r j h1 h2), fun r j h1 h2 h3 => (g.2.2.1 r j h1 h2 h3).trans (h.2.2.1 r j h1 h2 h3), g.2.2.2.tr h.2.2.2⟩
theorem LK.mono {d k b c b' c' : Nat} {x y : Mem} (h : LK d k b c x y) (hb : b' ≤ b) (hc : c' ≤ c) : LK d k b' c' x y := ⟨h.1, h.2.1, fun r j h1 h2 h3 => h.2.2.1 r j h1 h2 (by omega), fun r j h1 h2 => h.2.2.2 r j h1 (by omega)⟩
theorem LK.fr {d k b c : Nat} {x y z : Mem} {T : List At} (h : LK d k b c x y) (g : Fr T y z) (s : Sb T TL) (o : offR [76, 77, 78, 79, 80, 81, 82, 83, 84] T = true) : LK d k b c x z := LK.tr ⟨g.mono s, fun r j h1 _ => g.I (by rcases h1 with rfl | rfl <;> exact offR_f o rfl _ _), fun r j h1 h2 _ => g.I (offR_f o (by simp; omega) _ _), (CdK.rf _ _ _).fr g (offR_s o rfl)⟩ h
theorem LK.st {d k b c : Nat} {x y : Mem} {r j : Nat} {v : Int32} (h : LK d k b c x y) (hr : 78 ≤ r ∧ r ≤ 82) (h1 : 130 * d + b ≤ j) (h2 : j < 130 * d + 130) : LK d k b c x (stI y r 0 j v) := by
  obtain ⟨a1, a2, a3, a4⟩ := h
  refine ⟨Fr.stI a1 ?_, fun r' j' z1 z2 => ?_, fun r' j' z1 z2 z3 => ?_, fun r' j' z1 z2 => ?_⟩
  · have hr' : r = 78 ∨ r = 79 ∨ r = 80 ∨ r = 81 ∨ r = 82 := by omega
    rcases hr' with rfl | rfl | rfl | rfl | rfl
    · exact iT 11 rfl inA_nn
    · exact iT 12 rfl inA_nn
    · exact iT 13 rfl inA_nn
    · exact iT 14 rfl inA_nn
    · exact iT 15 rfl inA_nn
  · rw [mI_stI, if_neg (by omega)]; exact a2 r' j' z1 z2
  · rw [mI_stI, if_neg (by omega)]; exact a3 r' j' z1 z2 z3
  · rw [mI_stI, if_neg (by omega)]; exact a4 r' j' z1 z2
theorem LK.s36 {d k b c : Nat} {x y : Mem} {v : Int32} (h : LK d k b c x y) : LK d k b c x (stI y 55 0 36 v) := h.fr (T := [(55, none, some 36)]) (Fr.stI (Fr.rf _ _) (iT 0 rfl inA_ns)) (sbc (sa_m 16 rfl) sbn) rfl
theorem LK.sk {d k b c : Nat} {x y : Mem} {r : Nat} {v : Int32} (h : LK d k b c x y) (hr : r = 76 ∨ r = 77) : LK d k b c x (stI y r 0 (4 * d + k) v) := by
  obtain ⟨a1, a2, a3, a4⟩ := h
  refine ⟨Fr.stI a1 ?_, fun r' j' z1 z2 => ?_, fun r' j' z1 z2 z3 => ?_, fun r' j' z1 z2 => ?_⟩
  · rcases hr with rfl | rfl
    · exact iT 17 rfl inA_nn
    · exact iT 18 rfl inA_nn
  · rw [mI_stI, if_neg (by omega)]; exact a2 r' j' z1 z2
  · rw [mI_stI, if_neg (by omega)]; exact a3 r' j' z1 z2 z3
  · rw [mI_stI, if_neg (by omega)]; exact a4 r' j' z1 z2
theorem LK.x {d k b c : Nat} {x y z : Mem} (h : LK d k b c x y) (g : Fr TX y z) (q : CdK (420 * d + c) (420 * d + 420) y z) : LK d k b c x z := LK.tr ⟨g.mono TX_TL, fun r j h1 _ => g.I (by rcases h1 with rfl | rfl <;> exact offR_f (R := [76, 77]) rfl rfl _ _), fun r j h1 h2 _ => g.I (offR_f (R := [78, 79, 80, 81, 82]) rfl (by simp; omega) _ _), q⟩ h
theorem LK.sd {d k b c : Nat} {x y : Mem} (h : LK d k b c x y) (hk : k < 4) : Sd d x y := fun r j h1 h2 h3 => by
  obtain ⟨a1, a2, a3, a4⟩ := h
  have c : r ≤ 75 ∨ (r = 76 ∨ r = 77) ∨ (78 ≤ r ∧ r ≤ 82) ∨ (r = 83 ∨ r = 84) := by omega
  rcases c with c | c | c | c
  · exact a1.I (offR_f (R := [65, 66, 67, 68, 69, 70, 71, 72, 73, 74, 75]) rfl (by simp; omega) _ _)
  · have e : szr r = 4 := by rcases c with rfl | rfl <;> rfl
    rw [e] at h3
    exact a2 r j c (by omega)
  · have e : szr r = 130 := by
      have c' : r = 78 ∨ r = 79 ∨ r = 80 ∨ r = 81 ∨ r = 82 := by omega
      rcases c' with rfl | rfl | rfl | rfl | rfl <;> rfl
    rw [e] at h3
    exact a3 r j c.1 c.2 (by omega)
  · have e : szr r = 420 := by rcases c with rfl | rfl <;> rfl
    rw [e] at h3
    exact a4 r j c (by omega)
theorem rpOK_1 {e : Rp} (h : rpOK e) : 1 ≤ e.length := by
  cases e with
  | nil => cases h
  | cons q t => simp
def tlE (self : Int32 → Mem → Option (Unit × Mem)) (x3 : Int32) (μ159 : Mem) : Option (Unit × Mem) :=
ob (m_term μ159) fun _ μ164 =>
ob (m_must (nI 33) μ164) fun _ μ169 =>
self (x3 + (nI 1)) μ169
def tlD (self : Int32 → Mem → Option (Unit × Mem)) (x3 : Int32) (μ131 : Mem) : Option (Unit × Mem) :=
if (mI μ131 55 0 13) = (nI 0) then
ob (m_expression μ131) fun _ μ154 =>
ob (m_must (nI 32) μ154) fun _ μ159 =>
tlE self x3 μ159 else
ob (m_must (nI 32) μ131) fun _ μ136 =>
tlE self x3 μ136
def tlC (self : Int32 → Mem → Option (Unit × Mem)) (x3 : Int32) (μ119 : Mem) : Option (Unit × Mem) :=
ob (m_must (nI 13) μ119) fun _ μ124 =>
if inB (mI μ124 55 0 36) 260 = true then
mb (stI μ124 80 0 (cl (mI μ124 55 0 36)) (mI μ124 55 0 42)) fun μ131 =>
tlD self x3 μ131 else none
def tlB (self : Int32 → Mem → Option (Unit × Mem)) (x3 : Int32) (μ106 : Mem) : Option (Unit × Mem) :=
if inB (mI μ106 55 0 36) 260 = true then
mb (stI μ106 78 0 (cl (mI μ106 55 0 36)) ((nI 1) &&& 1)) fun μ113 =>
if inB (mI μ113 55 0 36) 260 = true then
mb (stI μ113 79 0 (cl (mI μ113 55 0 36)) (mI μ113 55 0 42)) fun μ117 =>
ob (m_expression μ117) fun _ μ119 =>
tlC self x3 μ119 else none else none
theorem lawB12 (x1 x2 : Int32) (k129 : Mem → Option (Unit × Mem)) (self : Int32 → Mem → Option (Unit × Mem)) (x3 : Int32) (μ : Mem) : m_tellLaw_B12 x1 x2 k129 self x3 μ = if (mI μ 55 0 13) = (nI 0) then
ob (m_is (nI 31) μ) fun r12 μ9 =>
if r12 = (nI 0) then
k129 μ9 else
if x3 = (nI 4) then
ob (m_fail (nI 2) μ9) fun _ μ98 =>
if (mI μ98 55 0 13) ≤ (nI 0) then
ob (m_goesOn μ98) fun _ μ106 =>
tlB self x3 μ106 else
some ((), μ98) else
if (mI μ9 55 0 13) ≤ (nI 0) then
ob (m_goesOn μ9) fun _ μ23 =>
tlB self x3 μ23 else
some ((), μ9) else
k129 μ := rfl
def tlK (x1 x2 : Int32) (μ183 : Mem) : Option (Unit × Mem) :=
if inB (mI μ183 55 0 36) 260 = true then
mb (stI μ183 78 0 (cl (mI μ183 55 0 36)) ((nI 0) &&& 1)) fun μ189 =>
ob (m_term μ189) fun _ μ191 =>
ob (m_must (nI 4) μ191) fun _ μ196 =>
if (mI μ196 55 0 13) ≤ (nI 0) then
if inB (((nI 4) * (mI μ196 55 0 19)) + x1) 8 = true then
mb (stI μ196 76 0 (cl (((nI 4) * (mI μ196 55 0 19)) + x1)) x2) fun μ206 =>
if inB (((nI 4) * (mI μ206 55 0 19)) + x1) 8 = true then
mb (stI μ206 77 0 (cl (((nI 4) * (mI μ206 55 0 19)) + x1)) (mI μ206 55 0 36)) fun μ210 =>
some ((), μ210) else none else none else
some ((), μ196) else none
theorem law_e0 (x1 : Int32) (μ : Mem) : m_tellLaw x1 μ = ob (m_must (nI 5) μ) fun _ μ1 => m_tellLaw_L12 x1 (mI μ1 55 0 36) (tlK x1 (mI μ1 55 0 36)) (nI 0) μ1 := rfl
/-- a term -/
theorem m_term_er {φ : Nat × Int32} {μ0 μ : Mem} {d k b c : Nat} (d2 : d < 2) (h : ErM φ μ) (hb : mI μ 55 0 36 = nI (130 * d + b)) (b1 : b < 130) (g : LK d k b c μ0 μ) : ∃ μ', m_term μ = some ((), μ') ∧ ErM φ μ' ∧ mI μ' 55 0 36 = nI (130 * d + (b + 1)) ∧ LK d k b c μ0 μ' := by
  generalize hM : stI μ 81 0 (130 * d + b) (mI μ 55 0 42) = M
  have gM : Fr [(81, none, none)] μ M := by rw [← hM]; exact Fr.stI (Fr.rf _ _) (iT 0 rfl inA_nn)
  have hE := h.fr gM rfl rfl
  have b2 : mI M 55 0 36 = nI (130 * d + b) := (gM.I rfl).trans hb
  have b3 : mI (stI M 82 0 (130 * d + b) (mI M 55 0 42)) 55 0 36 = nI (130 * d + b) := by rw [mI_stI, if_neg (by omega)]; exact b2
  unfold m_term
  rw [hb, if_pos (inB_nI (by omega) (by omega)), cl_nI (by omega), mb_e, hM, if_neg hE.nz, b2, if_pos (inB_nI (by omega) (by omega)), cl_nI (by omega), mb_e, b3, nI_add, mb_e]
  have lM : LK d k b c μ0 M := by rw [← hM]; exact g.st (by omega) (by omega) (by omega)
  have gN : Fr [(82, none, none), (55, none, some 36)] M (stI (stI M 82 0 (130 * d + b) (mI M 55 0 42)) 55 0 36 (nI (130 * d + b + 1))) := Fr.stI (Fr.stI (Fr.rf _ _) (iT 0 rfl inA_nn)) (iT 1 rfl inA_ns)
  exact ⟨_, rfl, hE.fr gN rfl rfl, by rw [mI_stI, if_pos ⟨rfl, rfl, rfl⟩]; rfl, (lM.st (by omega) (by omega) (by omega)).s36⟩
theorem m_term_e {Z : Tks} {μ0 μ : Mem} {d k b c : Nat} {s : Sg} (hz : ZOK Z) (d2 : d < 2) (h : CuM Z μ s) (hs : SgI Z s) (h12 : mI μ 55 0 12 = nI 0) (hb : mI μ 55 0 36 = nI (130 * d + b)) (b1 : b < 130) (hc : mI μ 55 0 42 = nI (420 * d + c)) (c1 : c ≤ yT s) (g : LK d k b c μ0 μ) : ∃ μ', m_term μ = some ((), μ') ∧ mI μ' 55 0 36 = nI (130 * d + (b + 1)) ∧ LK d k b c μ0 μ' ∧ (∀ r j, r = 78 ∨ r = 79 ∨ r = 80 → mI μ' r 0 j = mI μ r 0 j) ∧ (∀ r j, (r = 83 ∨ r = 84) → j < 420 * d + c → mI μ' r 0 j = mI μ r 0 j) ∧ (match gE Z s with
  | .ok (a, r) => CuM Z μ' r ∧ SgI Z r ∧ mI μ' 55 0 12 = nI 0 ∧ CdM (420 * d + c) μ' a ∧ mI μ' 81 0 (130 * d + b) = nI (420 * d + c) ∧ mI μ' 82 0 (130 * d + b) = nI (420 * d + c + a.length)
  | .error φ => ErM φ μ') := by
  have s1 := hs.2.2.2.2.2.2.2.1
  generalize hM : stI μ 81 0 (130 * d + b) (nI (420 * d + c)) = M
  have gM : Fr [(81, none, none)] μ M := by rw [← hM]; exact Fr.stI (Fr.rf _ _) (iT 0 rfl inA_nn)
  have cM : CuM Z M s := h.fr gM rfl rfl rfl rfl rfl
  obtain ⟨μ1, e1, k1, g1, q1⟩ := m_expression_e (c0 := 420 * d + c) (hi := 420 * d + 420) hz cM hs ((gM.I rfl).trans h12) ((gM.I rfl).trans hc) (by omega) (by omega)
  have b2 : mI μ1 55 0 36 = nI (130 * d + b) := (g1.I rfl).trans ((gM.I rfl).trans hb)
  have b3 : ∀ v, mI (stI μ1 82 0 (130 * d + b) v) 55 0 36 = nI (130 * d + b) := fun v => by rw [mI_stI, if_neg (by omega)]; exact b2
  have lM : LK d k b c μ0 M := by rw [← hM]; exact g.st (by omega) (by omega) (by omega)
  unfold m_term
  rw [hb, if_pos (inB_nI (by omega) (by omega)), cl_nI (by omega), mb_e, hc, hM, cM.2.2.1, if_pos rfl, ob_eq e1, b2, if_pos (inB_nI (by omega) (by omega)), cl_nI (by omega), mb_e, b3, nI_add, mb_e]
  generalize hN : stI (stI μ1 82 0 (130 * d + b) (mI μ1 55 0 42)) 55 0 36 (nI (130 * d + b + 1)) = N
  have gN : Fr [(82, none, none), (55, none, some 36)] μ1 N := by rw [← hN]; exact Fr.stI (Fr.stI (Fr.rf _ _) (iT 0 rfl inA_nn)) (iT 1 rfl inA_ns)
  refine ⟨N, rfl, ?_, ?_, fun r j hr => ?_, fun r j hr hj => ?_, ?_⟩
  · rw [← hN, mI_stI, if_pos ⟨rfl, rfl, rfl⟩]; rfl
  · rw [← hN]; exact ((lM.x g1 k1).st (by omega) (by omega) (by omega)).s36
  · rcases hr with rfl | rfl | rfl
    · exact (gN.I rfl).trans ((g1.I rfl).trans (gM.I rfl))
    · exact (gN.I rfl).trans ((g1.I rfl).trans (gM.I rfl))
    · exact (gN.I rfl).trans ((g1.I rfl).trans (gM.I rfl))
  · have e := k1 r j hr (by omega)
    rcases hr with rfl | rfl
    · exact (gN.I rfl).trans (e.trans (gM.I rfl))
    · exact (gN.I rfl).trans (e.trans (gM.I rfl))
  · cases eq : gE Z s with
    | error φ =>
      rw [eq] at q1
      exact (show ErM φ μ1 from q1).fr gN rfl rfl
    | ok w =>
      obtain ⟨a, r⟩ := w
      rw [eq] at q1
      obtain ⟨q2, q3, q4, q5⟩ := q1
      refine ⟨q2.fr gN rfl rfl rfl rfl rfl, q3, (gN.I rfl).trans q5, q4.fr gN rfl rfl, ?_, ?_⟩
      · refine (gN.I rfl).trans ((g1.I rfl).trans ?_)
        rw [← hM, mI_stI, if_pos ⟨rfl, rfl, rfl⟩]
      · rw [← hN, mI_stI, if_neg (by omega), mI_stI, if_pos ⟨rfl, rfl, rfl⟩]
        exact q4.1

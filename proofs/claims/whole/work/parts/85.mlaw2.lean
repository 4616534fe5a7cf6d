/-! the reference reads: a tell -/
def LwB (d : Nat) (μ : Mem) (br cs : Nat) (W : Nat → Lw) : Prop := ∀ k, k < 4 → ∃ a, mI μ 76 0 (4 * d + k) = nI a ∧ ((a = 0 ∧ mI μ 77 0 (4 * d + k) = nI 0 ∧ W k = plainL k) ∨ (130 * d ≤ a ∧ mI μ 77 0 (4 * d + k) = nI (a + (W k).1.length + 1) ∧ a + (W k).1.length + 1 ≤ 130 * d + br ∧ brL μ (420 * d) (420 * d + cs) a (W k).1 ∧ brE μ (420 * d) (420 * d + cs) (a + (W k).1.length) (W k).2))
def LwM (d : Nat) (μ : Mem) (s : Sg) : Prop := mI μ 55 0 12 = nI 0 ∧ ∃ br cs : Nat, mI μ 55 0 36 = nI (130 * d + br) ∧ mI μ 55 0 42 = nI (420 * d + cs) ∧ 4 * br ≤ yT s ∧ cs ≤ yT s ∧ LwB d μ br cs (yW s)
def LaS (d : Nat) (μ : Mem) (P : Pl) : Prop := ∃ br cs : Nat, br ≤ 100 ∧ cs ≤ 400 ∧ LwB d μ br cs (pLaw P)
theorem LwB.kp {d br cs br' cs' : Nat} {μ μ' : Mem} {W : Nat → Lw} (h : LwB d μ br cs W) (k : LKp (130 * d + br) (420 * d + cs) μ μ') (hb : br ≤ br') (hc : cs ≤ cs') {k0 : Nat} (hk : ∀ r j, r = 76 ∨ r = 77 → j ≠ 4 * d + k0 → mI μ' r 0 j = mI μ r 0 j) : ∀ k, k < 4 → k ≠ k0 → ∃ a, mI μ' 76 0 (4 * d + k) = nI a ∧ ((a = 0 ∧ mI μ' 77 0 (4 * d + k) = nI 0 ∧ W k = plainL k) ∨ (130 * d ≤ a ∧ mI μ' 77 0 (4 * d + k) = nI (a + (W k).1.length + 1) ∧ a + (W k).1.length + 1 ≤ 130 * d + br' ∧ brL μ' (420 * d) (420 * d + cs') a (W k).1 ∧ brE μ' (420 * d) (420 * d + cs') (a + (W k).1.length) (W k).2)) := fun i hi hne => by
  obtain ⟨a, h1, h2⟩ := h i hi
  have e : ∀ r, r = 76 ∨ r = 77 → mI μ' r 0 (4 * d + i) = mI μ r 0 (4 * d + i) := fun r hr => hk r _ hr (by omega)
  refine ⟨a, (e 76 (Or.inl rfl)).trans h1, ?_⟩
  rcases h2 with ⟨h2, h3, h4⟩ | ⟨h2, h3, h4, h5, h6⟩
  · exact Or.inl ⟨h2, (e 77 (Or.inr rfl)).trans h3, h4⟩
  · refine Or.inr ⟨h2, (e 77 (Or.inr rfl)).trans h3, by omega, fun j q hq => ?_, ?_⟩
    · obtain ⟨y1, x, y2, y3, y4, y5, y6, y7, y8, y9, w1⟩ := h5.kp k (by omega) (Nat.le_refl _) j q hq
      exact ⟨y1, x, y2, y3, y4, y5, y6, y7, y8, y9, by omega⟩
    · obtain ⟨y1, x, y2, y3, y4, y5, y6⟩ := h6.kp k (by omega) (Nat.le_refl _)
      exact ⟨y1, x, y2, y3, y4, y5, by omega⟩
theorem LwB.fr {d br cs : Nat} {μ μ' : Mem} {W : Nat → Lw} {T : List At} (h : LwB d μ br cs W) (g : Fr T μ μ') (o : offR [76, 77, 78, 79, 80, 81, 82, 83, 84] T = true) : LwB d μ' br cs W := fun k hk => by
  have kp : LKp (130 * d + br) (420 * d + cs) μ μ' := (LKp.rf _ _ _).fr g (offR_s o rfl)
  exact h.kp kp (Nat.le_refl _) (Nat.le_refl _) (k0 := 4) (fun r j hr _ => g.I (by rcases hr with rfl | rfl <;> exact offR_f o rfl _ _)) k hk (by omega)
theorem LwM.fr {d : Nat} {μ μ' : Mem} {s r : Sg} {T : List At} (h : LwM d μ s) (g : Fr T μ μ') (o : offR [76, 77, 78, 79, 80, 81, 82, 83, 84] T = true) (k1 : inT T 55 0 12 = false) (k2 : inT T 55 0 36 = false) (k3 : inT T 55 0 42 = false) (t : yT s ≤ yT r) (w : yW r = yW s) : LwM d μ' r := by
  obtain ⟨a, br, cs, b, c, e, f, h⟩ := h
  refine ⟨(g.I k1).trans a, br, cs, (g.I k2).trans b, (g.I k3).trans c, by omega, by omega, ?_⟩
  rw [w]
  exact h.fr g o
theorem m_tellLaw_e {Z : Tks} {d k : Nat} {μ : Mem} {s r : Sg} (hz : ZOK Z) (d2 : d < 2) (k4 : k < 4) (h : CuM Z μ r) (hs : SgI Z r) (d1 : mI μ 55 0 19 = nI d) (l : LwM d μ s) (t : yT s + 1 = yT r) (hw : yW r = yW s) : ∃ μ', m_tellLaw (nI k) μ = some ((), μ') ∧ RM Z (bG (gTake Z 31 r) (gIfs Z k 4 [])) μ' ∧ Sd d μ μ' ∧ Fr TL μ μ' ∧ ∀ s', bG (gTake Z 31 r) (gIfs Z k 4 []) = .ok s' → LwM d μ' s' := by
  obtain ⟨l12, b0, c0, l36, l42, lb, lc, lw⟩ := l
  have s1 := hs.2.2.2.2.2.2.2.1
  obtain ⟨μ1, e1, r1, g1⟩ := m_must_e hz (e := .ok r) ⟨h, hs⟩ (show 31 < 43 by omega) (show 5 = kM 31 from rfl)
  have r1' : RM Z (gTake Z 31 r) μ1 := r1
  have m36 : mI μ1 55 0 36 = nI (130 * d + b0) := (g1.I rfl).trans l36
  have lk1 : LK d k b0 c0 μ μ1 := (LK.rf d k b0 c0 μ).fr g1 TM_TL rfl
  rw [law_e0, ob_eq e1, m36]
  unfold m_tellLaw_L12
  rcases r1'.k with ⟨q, eq, c1, hs1⟩ | ⟨φ, eq, c1⟩
  · obtain ⟨rfl, -, -⟩ := gTake_ok eq
    have t1 : yT (wyT r (yT r + 1)) = yT r + 1 := rfl
    obtain ⟨μ', e2, r2, l2, f2⟩ := ifsM_e hz d2 k4 4 [] (wyT r (yT r + 1)) c0 μ1 60000 (by omega) (by omega) ⟨c1, hs1, (g1.I rfl).trans l12, m36, (g1.I rfl).trans l42, by omega, lk1, (g1.I rfl).trans d1⟩ (Nat.le_refl _) (by show 4 * (b0 + 0) + 2 ≤ _; omega) (fun i q hq => by cases hq)
    rw [eq]
    refine ⟨μ', e2, r2, l2.sd k4, l2.1, fun s' e => ?_⟩
    have e' : gIfs Z k 4 [] (wyT r (yT r + 1)) = .ok s' := e
    obtain ⟨cs, yc, y1, y2, y3, y4, y5, y6, y7, y8, y9⟩ := f2 s' e'
    obtain ⟨hI, Lw0, hw1, hw2, hw3⟩ := gIfs_I hz 4 [] (wyT r (yT r + 1)) s' hs1 (fun q hq => by cases hq) e'
    have W : ∀ i, i ≠ k → yW s' i = yW s i := fun i hi => by
      rw [hw2]
      show up (yW (wyT (wyT r (yT r + 1)) (yT s'))) k Lw0 i = _
      rw [up_n _ _ hi, ← hw]
      rfl
    refine ⟨y1, b0 + (yW s' k).1.length + 1, cs, y2, y3, y5, y4, fun i hi => ?_⟩
    by_cases c : i = k
    · subst c
      exact ⟨130 * d + b0, y6, Or.inr ⟨by omega, by rw [y7]; congr 1; omega, by omega, y8, y9⟩⟩
    · have := lw.kp l2.kp (show b0 ≤ b0 + (yW s' k).1.length + 1 by omega) yc (fun r j h1 h2 => l2.2.1 r j h1 h2) i hi c
      rw [W i c]
      exact this
  · obtain ⟨μ', e2, x2⟩ := self_er (k := k) d2 c1 m36 (by omega) (Nat.le_refl _) lk1 (nI k) (nI (130 * d + b0)) (nI k) (nI (130 * d + b0)) (nI 0) (show 0 < 60000 by omega)
    rw [eq]
    exact ⟨μ', e2, x2.1, x2.2.sd k4, x2.2.1, fun s' e => by cases e⟩
theorem gNum0 {Z : Tks} (hz : ZOK Z) (r : Sg) : gNum Z 0 9999 r = gTake Z 41 r := by
  unfold gNum
  cases e : gTake Z 41 r with
  | error φ => rfl
  | ok q =>
    obtain ⟨-, -, k⟩ := gTake_ok e
    have := hz.2.2.2.1 _ k
    show Except.ok (if _ then _ else _) = _
    rw [if_neg (by omega)]
theorem bG_er (e : Rs) {α : Type} (f : Sg → Rs) {φ : Nat × Int32} (h : e = .error φ) : bG e f = .error φ := by rw [h]; rfl
/-- a number is told, and what it is told of -/
theorem m_at_e {Z : Tks} {d r k a b : Nat} {μ : Mem} {s : Sg} (hz : ZOK Z) (h : CuM Z μ s) (hs : SgI Z s) (p : PnM d μ s) (k0 : tkd Z (yT s) ≠ 43) (hr : (r = 75 ∧ k = 0) ∨ (r = 74 ∧ k = 1)) (ha : a < 10000) (hb : b < 10000) : ∃ μ1 μ2 x μ', m_goesOn μ = some ((), μ1) ∧ m_bounded (nI a) (nI b) μ1 = some (x, μ2) ∧ m_must (nI 4) (stI μ2 r 0 d x) = some ((), μ') ∧ mI μ1 55 0 19 = nI d ∧ RQ Z d μ (bG (gPass Z s) fun r => bG (gNum Z a b r) fun q => bG (gTake Z 30 q) fun p => .ok (stAt 0 k (nI (tvl Z (yT r))) p)) μ' := by
  obtain ⟨pk, nm⟩ := p
  have d2 := pk.1
  obtain ⟨μ1, e1, r1, g1⟩ := m_goesOn_e (e := .ok s) ⟨h, hs⟩ (fun r hr => by cases hr; exact k0)
  have r1' : RM Z (gPass Z s) μ1 := r1
  obtain ⟨x, μ2, e2, r2, g2, v2⟩ := m_bounded_e hz r1' ha hb
  have pk2 := (pk.fr g1 rfl rfl).fr g2 rfl rfl
  generalize hM : stI μ2 r 0 d x = M
  have gM : Fr [(74, none, none), (75, none, none)] μ2 M := by
    rw [← hM]
    refine Fr.stI (Fr.rf _ _) ?_
    rcases hr with ⟨rfl, -⟩ | ⟨rfl, -⟩
    · exact iT 1 rfl inA_nn
    · exact iT 0 rfl inA_nn
  have rM := r2.fr gM rfl rfl rfl rfl rfl rfl
  obtain ⟨μ3, e3, r3, g3⟩ := m_must_e hz rM (show 30 < 43 by omega) (show 4 = kM 30 from rfl)
  have nm3 := (((nm.fr g1 rfl rfl).fr g2 rfl rfl).fr gM rfl rfl).fr g3 rfl rfl
  have pkM : PkM d M (yC s) (up2 (yA s) 0 k x) := by rw [← hM]; exact pk2.at hr x
  have pk3 := pkM.fr g3 rfl rfl
  have S3 : Sd d μ μ3 := by
    refine Sd.fr ?_ g3 rfl
    rw [← hM]
    refine (((Sd.rf _ _).fr g1 rfl).fr g2 rfl).st ?_
    rcases hr with ⟨rfl, -⟩ | ⟨rfl, -⟩
    · show 1 * d ≤ d ∧ d < 1 * d + 1; omega
    · show 1 * d ≤ d ∧ d < 1 * d + 1; omega
  have G3 : Fr TP μ μ3 := Fr.tr (g3.mono TM_TP) (Fr.tr (gM.mono (sbc (sa_m 17 rfl) (sbc (sa_m 18 rfl) sbn))) (Fr.tr (g2.mono TM_TP) (g1.mono TM_TP)))
  refine ⟨μ1, μ2, x, μ3, e1, e2, by rw [hM]; exact e3, (g1.I rfl).trans pk.2.1, ?_⟩
  by_cases c3 : mI μ3 55 0 13 = nI 0
  · obtain ⟨n, en, cn, hn⟩ := r3.ok0 c3
    obtain ⟨q, eq, et⟩ := bG_ok en
    obtain ⟨r', er, eu⟩ := bG_ok eq
    have xe := v2 _ _ er eu
    obtain ⟨rfl, k1⟩ := gPass_ok er
    have hs1 := hs.wyT k1 k0
    obtain ⟨hq, q2, q3, q4, q5, q6, -⟩ := gNum_I hs1 eu
    obtain ⟨rfl, k3, k4⟩ := gTake_ok et
    have gE : (bG (gPass Z s) fun r => bG (gNum Z a b r) fun q => bG (gTake Z 30 q) fun p => (.ok (stAt 0 k (nI (tvl Z (yT r))) p) : Rs)) = .ok (stAt 0 k x (wyT q (yT q + 1))) := by
      rw [er]
      show bG (gNum Z a b (wyT s (yT s + 1))) _ = _
      rw [eu]
      show bG (gTake Z 30 q) _ = _
      rw [et, xe]
      rfl
    rw [gE]
    refine ⟨⟨cn.adv rfl rfl, hn⟩, S3, G3, fun s' e => ?_⟩
    cases e
    unfold PnM
    rw [show yC (stAt 0 k x (wyT q (yT q + 1))) = yC s from q4, show yA (stAt 0 k x (wyT q (yT q + 1))) = up2 (yA s) 0 k x from by
      show up2 (yA q) 0 k x = _
      rw [q5]; rfl, show yN (stAt 0 k x (wyT q (yT q + 1))) = yN s from q3]
    exact ⟨pk3, nm3⟩
  · obtain ⟨φ, en, cn⟩ := r3.er0 c3
    have gE : (bG (gPass Z s) fun r => bG (gNum Z a b r) fun q => bG (gTake Z 30 q) fun p => (.ok (stAt 0 k (nI (tvl Z (yT r))) p) : Rs)) = .error φ := by
      cases er : gPass Z s with
      | error ψ =>
        rw [er] at en
        exact en
      | ok q =>
        rw [er] at en
        exact bG_bind _ _ _ (show bG (gNum Z a b q) (fun p => gTake Z 30 p) = .error φ from en)
    rw [gE]
    exact ⟨cn, S3, G3, fun s' e => by cases e⟩

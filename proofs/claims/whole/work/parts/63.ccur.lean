/-! the class reads: the cursor -/
def CuC (Z : Tks) (ip : Nat) (μ : Mem) (s : Sg) : Prop := TokC μ Z ∧ mR μ 12 0 3 = ip ∧ mI μ 12 0 4 = nI (yT s) ∧ mI μ 12 0 0 = nI 0 ∧ mI μ 12 0 5 = nI (yL s).1 ∧ mI μ 12 0 6 = (yL s).2
def ErC (φ : Nat × Int32) (μ : Mem) : Prop := mI μ 12 0 0 = nI φ.1 ∧ mI μ 12 0 1 = φ.2 ∧ (φ.1 = 1 ∨ φ.1 = 2)
def T12 : List At := [(12, none, some 0), (12, none, some 1), (12, none, some 4), (12, none, some 5), (12, none, some 6)]
def CX (f : Option (Int32 × Mem)) (Q : Sg → Mem → Prop) (e : Rs) : Prop := match e with
  | .ok s => ∃ μ, f = some (nI 1, μ) ∧ Q s μ
  | .error φ => ∃ μ, f = some (nI 0, μ) ∧ ErC φ μ
theorem nI_1n0 : ¬ nI 1 = nI 0 := by decide
theorem CX.b {f : Option (Int32 × Mem)} {Q Q' : Sg → Mem → Prop} {e : Rs} {K : Mem → Option (Int32 × Mem)} {g : Sg → Rs} (h : CX f Q e) (hk : ∀ s μ, e = .ok s → Q s μ → CX (K μ) Q' (g s)) : CX (ob f fun r μ => if r = nI 0 then some (nI 0, μ) else K μ) Q' (bG e g) := by
  unfold CX at h
  cases e with
  | ok s =>
    obtain ⟨μ, h1, h2⟩ := h
    rw [ob_eq h1, if_neg nI_1n0]
    exact hk s μ rfl h2
  | error φ =>
    obtain ⟨μ, h1, h2⟩ := h
    rw [ob_eq h1, if_pos rfl]
    exact ⟨μ, rfl, h2⟩
theorem CX.t {f : Option (Int32 × Mem)} {Q : Sg → Mem → Prop} {e : Rs} (h : CX f Q e) : CX (ob f fun r μ => if r = nI 0 ∨ r = nI 1 then some (r, μ) else none) Q e := by
  unfold CX at h
  cases e with
  | ok s =>
    obtain ⟨μ, h1, h2⟩ := h
    rw [ob_eq h1, if_pos (Or.inr rfl)]
    exact ⟨μ, rfl, h2⟩
  | error φ =>
    obtain ⟨μ, h1, h2⟩ := h
    rw [ob_eq h1, if_pos (Or.inl rfl)]
    exact ⟨μ, rfl, h2⟩
theorem CX.map {f : Option (Int32 × Mem)} {Q Q' : Sg → Mem → Prop} {e : Rs} {k : Sg → Sg} (h : CX f Q e) (hk : ∀ s μ, e = .ok s → Q s μ → Q' (k s) μ) : CX f Q' (bG e fun p => .ok (k p)) := by
  unfold CX at h
  cases e with
  | ok s =>
    obtain ⟨μ, h1, h2⟩ := h
    exact ⟨μ, h1, hk s μ rfl h2⟩
  | error φ => exact h
theorem CX.imp {f : Option (Int32 × Mem)} {Q Q' : Sg → Mem → Prop} {e : Rs} (h : CX f Q e) (hk : ∀ s μ, e = .ok s → Q s μ → Q' s μ) : CX f Q' e := by
  unfold CX at h
  cases e with
  | ok s =>
    obtain ⟨μ, h1, h2⟩ := h
    exact ⟨μ, h1, hk s μ rfl h2⟩
  | error φ => exact h
def QC (Z : Tks) (ip : Nat) (μ0 : Mem) (s : Sg) (μ : Mem) : Prop := CuC Z ip μ s ∧ Fr T12 μ0 μ
theorem TokC.fr {Z : Tks} {μ μ' : Mem} {T : List At} (h : TokC μ Z) (g : Fr T μ μ') (o : offR [14, 15, 16] T = true) : TokC μ' Z := fun i h1 h2 => by
  obtain ⟨a, b, c⟩ := h i h1 h2
  exact ⟨(g.I (offR_f o rfl _ _)).trans a, (g.I (offR_f o rfl _ _)).trans b, fun z => (g.L (offR_f o rfl _ _)).trans (c z)⟩
theorem CuC.fr {Z : Tks} {ip : Nat} {μ μ' : Mem} {s : Sg} {T : List At} (h : CuC Z ip μ s) (g : Fr T μ μ') (o : offR [12, 14, 15, 16] T = true) : CuC Z ip μ' s := by
  obtain ⟨a, b, c, d, e, f⟩ := h
  exact ⟨a.fr g (offR_s o rfl), (g.R (offR_f o rfl _ _)).trans b, (g.I (offR_f o rfl _ _)).trans c, (g.I (offR_f o rfl _ _)).trans d, (g.I (offR_f o rfl _ _)).trans e, (g.I (offR_f o rfl _ _)).trans f⟩
theorem rd_kind_e {Z : Tks} {ip : Nat} {μ : Mem} {s : Sg} (h : CuC Z ip μ s) (hs : SgI Z s) : rd_kind μ = some (nI (tkd Z (yT s)), μ) := by
  obtain ⟨a, b, c, d, e, f⟩ := h
  obtain ⟨-, -, -, -, -, -, -, s1, s2⟩ := hs
  unfold rd_kind
  rw [c, if_pos (inB_nI (by omega) (by omega)), cl_nI (by omega), (a _ s2 s1).1]
theorem rd_fail_e {Z : Tks} {ip : Nat} {μ : Mem} {s : Sg} (h : CuC Z ip μ s) (hs : SgI Z s) {c : Nat} (hc : c = 1 ∨ c = 2) {Q : Sg → Mem → Prop} : CX (rd_fail (nI c) μ) Q (gFl Z c s) := by
  obtain ⟨a, b, c1, d, e, f⟩ := h
  obtain ⟨-, -, -, -, -, -, -, s1, s2⟩ := hs
  have f1 : mI (stI μ 12 0 0 (nI c)) 12 0 4 = nI (yT s) := by rw [mI_stI, if_neg (by omega)]; exact c1
  have f2 : mI (stI μ 12 0 0 (nI c)) 15 0 (yT s) = nI (tpl Z (yT s)) := (a _ s2 s1).2.1
  refine ⟨stI (stI μ 12 0 0 (nI c)) 12 0 1 (nI (tpl Z (yT s))), ?_, ?_, ?_, hc⟩
  · unfold rd_fail
    simp (disch := omega) only [f1, inB_nI, cl_nI, f2, ↓mb_e, ↓reduceIte]
  · rw [mI_stI, if_neg (by omega), mI_stI, if_pos ⟨rfl, rfl, rfl⟩]
  · rw [mI_stI, if_pos ⟨rfl, rfl, rfl⟩]
theorem CuC.go {Z : Tks} {ip : Nat} {μ : Mem} {s : Sg} (h : CuC Z ip μ s) : QC Z ip μ (wyT s (yT s + 1)) (stI μ 12 0 4 (nI (yT s + 1))) := by
  obtain ⟨a, b, c1, d, e, f⟩ := h
  have g : Fr T12 μ (stI μ 12 0 4 (nI (yT s + 1))) := Fr.stI (Fr.rf _ _) (iT 2 rfl inA_ns)
  refine ⟨⟨a.fr g rfl, b, by rw [mI_stI, if_pos ⟨rfl, rfl, rfl⟩]; rfl, ?_, ?_, ?_⟩, g⟩
  · rw [mI_stI, if_neg (by omega)]; exact d
  · rw [mI_stI, if_neg (by omega)]; exact e
  · rw [mI_stI, if_neg (by omega)]; exact f
theorem rd_pass_e {Z : Tks} {ip : Nat} {μ : Mem} {s : Sg} (h : CuC Z ip μ s) (hs : SgI Z s) : CX (rd_pass μ) (QC Z ip μ) (gPass Z s) := by
  have c := h.2.2.1
  have s1 := hs.2.2.2.2.2.2.2.1
  unfold rd_pass gPass
  rw [c]
  by_cases z : yT s = 400
  · rw [if_pos z, if_neg (by rw [z]; decide)]
    exact (rd_fail_e h hs (Or.inr rfl)).t
  · rw [if_neg z, if_pos (nI_lt (by omega) (by omega)), nI_add]
    exact ⟨_, rfl, h.go⟩
theorem rd_take_e {Z : Tks} {ip : Nat} {μ : Mem} {s : Sg} (h : CuC Z ip μ s) (hs : SgI Z s) (hz : ZOK Z) {k : Nat} (hk : k < 44) : CX (rd_take (nI k) μ) (QC Z ip μ) (gTake Z k s) := by
  have k2 := hz.2.1 (yT s)
  unfold rd_take gTake
  rw [ob_eq (rd_kind_e h hs)]
  by_cases c : tkd Z (yT s) = k
  · rw [if_pos c, if_pos (by rw [c])]
    exact (rd_pass_e h hs).t
  · rw [if_neg c, if_neg (by rw [nI_eqF c (by omega) (by omega)]; exact id)]
    exact (rd_fail_e h hs (Or.inl rfl)).t
/-- behind a token: a later fault of it, its value -/
theorem rd_failLater_e {Z : Tks} {ip : Nat} {μ : Mem} {s : Sg} (h : CuC Z ip μ s) (hs : SgI Z s) {c i : Nat} (hi : yT s = i + 1) (hc : c ≤ 6) : ∃ μ', rd_failLater (nI c) μ = some ((), μ') ∧ CuC Z ip μ' (lat Z c i s) ∧ Fr T12 μ μ' := by
  have h0 := h
  obtain ⟨a, b, c1, d, e, f⟩ := h
  obtain ⟨-, -, -, -, -, s6, -, s1, s2⟩ := hs
  unfold rd_failLater lat
  rw [e]
  by_cases z : (yL s).1 = 0
  · have f1 : mI (stI μ 12 0 5 (nI c)) 12 0 4 = nI (i + 1) := by rw [mI_stI, if_neg (by omega), c1, hi]
    have f2 : mI (stI μ 12 0 5 (nI c)) 15 0 i = nI (tpl Z i) := (a i (by omega) (by omega)).2.1
    have g : Fr T12 μ (stI (stI μ 12 0 5 (nI c)) 12 0 6 (nI (tpl Z i))) := Fr.stI (Fr.stI (Fr.rf _ _) (iT 3 rfl inA_ns)) (iT 4 rfl inA_ns)
    rw [if_pos z, if_pos (by rw [z]), c1, hi, if_neg (by rw [nI_leF (by omega) (by omega)]; exact id)]
    refine ⟨_, ?_, ⟨a.fr g rfl, b, ?_, ?_, ?_, ?_⟩, g⟩
    · simp (disch := omega) only [f1, nI_sub1, Nat.add_sub_cancel, inB_nI, cl_nI, f2, ↓mb_e, ↓reduceIte]
    · rw [mI_stI, if_neg (by omega), mI_stI, if_neg (by omega)]; exact c1.trans (by rw [hi]; rfl)
    · rw [mI_stI, if_neg (by omega), mI_stI, if_neg (by omega)]; exact d
    · rw [mI_stI, if_neg (by omega), mI_stI, if_pos ⟨rfl, rfl, rfl⟩]; rfl
    · rw [mI_stI, if_pos ⟨rfl, rfl, rfl⟩]; rfl
  · rw [if_neg z, if_neg (by rw [nI_eqF z (by omega) (by omega)]; exact id)]
    exact ⟨μ, rfl, h0, Fr.rf _ _⟩
theorem rd_taken_e {Z : Tks} {ip : Nat} {μ : Mem} {s : Sg} (h : CuC Z ip μ s) (hs : SgI Z s) {i : Nat} (hi : yT s = i + 1) (hk : tkd Z i = 40 ∨ tkd Z i = 41) : rd_taken μ = some (oL ((tvl Z i : Nat) : Int), μ) := by
  obtain ⟨a, b, c1, d, e, f⟩ := h
  obtain ⟨-, -, -, -, -, s6, -, s1, s2⟩ := hs
  unfold rd_taken
  rw [c1, hi, if_neg (by rw [nI_leF (by omega) (by omega)]; exact id), nI_sub1 (by omega), Nat.add_sub_cancel, if_pos (inB_nI (by omega) (by omega)), cl_nI (by omega), (a i (by omega) (by omega)).2.2 hk]
theorem oL_cmp {a b : Nat} (ha : a < 1000000000000) (hb : b < 1000000000000) : (oL (a : Int) > oL (b : Int)) = (b < a) ∧ (oL (a : Int) = oL (b : Int)) = (a = b) := by
  refine ⟨?_, ?_⟩
  · show (oL (b : Int) < oL (a : Int)) = _
    rw [Int64.lt_iff_toInt_lt, oL_toInt (by omega) (by omega), oL_toInt (by omega) (by omega)]
    exact propext (by omega)
  · rw [oL_inj (by omega) (by omega) (by omega) (by omega)]
    exact propext (by omega)
theorem lg_lt {a b : Nat} (ha : a < 1000000000000) (hb : b < 1000000000000) : (lg_cmp (oL (a : Int)) (oL (b : Int)) < nI 0) = (a < b) := by
  obtain ⟨e1, e2⟩ := oL_cmp ha hb
  unfold lg_cmp
  simp only [e1, e2]
  by_cases c : b < a
  · rw [if_pos c]; exact propext ⟨fun z => absurd z (by decide), fun z => by omega⟩
  · rw [if_neg c]
    by_cases d : a = b
    · rw [if_pos d]; exact propext ⟨fun z => absurd z (by decide), fun z => by omega⟩
    · rw [if_neg d]; exact propext ⟨fun z => by omega, fun z => by decide⟩
theorem lg_le {a b : Nat} (ha : a < 1000000000000) (hb : b < 1000000000000) : (lg_cmp (oL (a : Int)) (oL (b : Int)) ≤ nI 0) = (a ≤ b) := by
  obtain ⟨e1, e2⟩ := oL_cmp ha hb
  unfold lg_cmp
  simp only [e1, e2]
  by_cases c : b < a
  · rw [if_pos c]; exact propext ⟨fun z => absurd z (by decide), fun z => by omega⟩
  · rw [if_neg c]
    by_cases d : a = b
    · rw [if_pos d]; exact propext ⟨fun z => by omega, fun z => by decide⟩
    · rw [if_neg d]; exact propext ⟨fun z => by omega, fun z => by decide⟩
theorem rd_takeNumber_e {Z : Tks} {ip : Nat} {μ : Mem} {s : Sg} (h : CuC Z ip μ s) (hs : SgI Z s) (hz : ZOK Z) {a b : Nat} (ha : a < 10000) (hb : b < 10000) : CX (rd_takeNumber (nI a) (nI b) μ) (QC Z ip μ) (gNum Z a b s) := by
  unfold rd_takeNumber gNum
  refine (rd_take_e h hs hz (show 41 < 44 by omega)).b (fun r ν e hq => ?_)
  obtain ⟨h1, g1⟩ := hq
  obtain ⟨rfl, k1, k2⟩ := gTake_ok e
  have hs1 := hs.wyT k1 (by omega)
  have tk := rd_taken_e h1 hs1 (i := yT s) rfl (Or.inr k2)
  have v4 := hz.2.2.2.1 _ k2
  obtain ⟨ν2, e2, h2, g2⟩ := rd_failLater_e h1 hs1 (c := 5) (i := yT s) rfl (by omega)
  rw [ob_eq tk, oL_nI (by omega), oL_nI (by omega)]
  by_cases c1 : tvl Z (yT s) < a
  · rw [if_pos (by rw [lg_lt (by omega) (by omega)]; exact c1), if_pos (Or.inl c1), ob_eq e2]
    exact ⟨ν2, rfl, h2, Fr.tr g2 g1⟩
  · rw [if_neg (by rw [lg_lt (by omega) (by omega)]; exact c1), ob_eq tk]
    by_cases c2 : tvl Z (yT s) ≤ b
    · rw [if_pos (by rw [lg_le (by omega) (by omega)]; exact c2), if_neg (by omega)]
      exact ⟨ν, rfl, h1, g1⟩
    · rw [if_neg (by rw [lg_le (by omega) (by omega)]; exact c2), if_pos (by omega), ob_eq e2]
      exact ⟨ν2, rfl, h2, Fr.tr g2 g1⟩

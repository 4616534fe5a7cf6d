/-! the class reads: expressions -/
theorem CuC.frk {Z : Tks} {ip : Nat} {μ μ' : Mem} {s : Sg} {T : List At} (h : CuC Z ip μ s) (g : Fr T μ μ') (o : offR [14, 15, 16] T = true) (k0 : inT T 12 0 0 = false) (k3 : inT T 12 0 3 = false) (k4 : inT T 12 0 4 = false) (k5 : inT T 12 0 5 = false) (k6 : inT T 12 0 6 = false) : CuC Z ip μ' s := by
  obtain ⟨a, b, c, d, e, f⟩ := h
  exact ⟨a.fr g o, (g.R k3).trans b, (g.I k4).trans c, (g.I k0).trans d, (g.I k5).trans e, (g.I k6).trans f⟩
def SKW (μ : Mem) (st : List Nat) : Prop := mI μ 12 0 8 = nI st.length ∧ ∀ i, i < st.length → mI μ 17 0 i = nI (st.getD (st.length - 1 - i) 0)
/-- the codes from s0 on, and those before as they were -/
def EC (μ0 : Mem) (ip s0 : Nat) (μ : Mem) (L : List Nat) : Prop := mI μ 18 ip 11 = nI (s0 + L.length) ∧ isC (mI μ 25 ip) s0 L ∧ ∀ k, k < s0 → mI μ 25 ip k = mI μ0 25 ip k
theorem isC_sn {f : Nat → Int32} {s c : Nat} {L : List Nat} (h : isC f s L) (h1 : f (s + L.length) = nI c) : isC f s (L ++ [c]) := fun i hi => by
  rw [List.getD_eq_getElem?_getD]
  rw [List.length_append, List.length_singleton] at hi
  by_cases z : i < L.length
  · rw [List.getElem?_append_left z, ← List.getD_eq_getElem?_getD]; exact h i z
  · have : i = L.length := by omega
    subst this
    rw [List.getElem?_append_right (Nat.le_refl _), Nat.sub_self]
    exact h1
def T25 (ip : Nat) : List At := [(25, some ip, none), (18, some ip, some 11)]
theorem addCode_e {μ0 μ : Mem} {ip s0 c : Nat} {L : List Nat} (h : EC μ0 ip s0 μ L) (hb : s0 + L.length ≤ 408) : ∃ μ', pl_addCode ip (nI c) μ = some ((), μ') ∧ Fr (T25 ip) μ μ' ∧ (s0 + L.length < 408 → EC μ0 ip s0 μ' (L ++ [c])) := by
  obtain ⟨h1, h2, h3⟩ := h
  unfold pl_addCode
  rw [h1]
  by_cases z : s0 + L.length = 408
  · rw [z, if_pos (Int32.le_refl _)]
    exact ⟨μ, rfl, Fr.rf _ _, fun y => by omega⟩
  · have f1 : mI (stI μ 25 ip (s0 + L.length) (nI c)) 18 ip 11 = nI (s0 + L.length) := by rw [mI_stI, if_neg (by omega)]; exact h1
    refine ⟨stI (stI μ 25 ip (s0 + L.length) (nI c)) 18 ip 11 (nI (s0 + L.length + 1)), ?_, Fr.stI (Fr.stI (Fr.rf _ _) (iT 0 rfl (by simp [inA]))) (iT 1 rfl (by simp [inA])), fun _ => ⟨?_, ?_, fun k hk => ?_⟩⟩
    · simp (disch := omega) only [nI_leF, inB_nI, cl_nI, f1, nI_add, ↓mb_e, ↓reduceIte]
    · rw [mI_stI, if_pos ⟨rfl, rfl, rfl⟩, List.length_append]; rfl
    · refine isC_sn (fun i hi => ?_) ?_
      · rw [mI_stI, if_neg (by omega), mI_stI, if_neg (by omega)]; exact h2 i hi
      · rw [mI_stI, if_neg (by omega), mI_stI, if_pos ⟨rfl, rfl, rfl⟩]
    · rw [mI_stI, if_neg (by omega), mI_stI, if_neg (by omega)]; exact h3 k hk
theorem rank_e (k : Nat) (hk : k < 1000) (μ : Mem) : rd_rank (nI k) μ = some (nI (rkT k), μ) := by
  unfold rd_rank rkT
  simp (disch := omega) only [nI_eqN]
  by_cases c1 : k = 34
  · rw [if_pos c1, if_pos (Or.inl c1)]
  by_cases c2 : k = 35
  · rw [if_neg c1, if_pos c2, if_pos (Or.inr c2)]
  by_cases c3 : k = 32
  · rw [if_neg c1, if_neg c2, if_pos c3, if_neg (by omega), if_pos (Or.inl c3)]
  by_cases c4 : k = 33
  · rw [if_neg c1, if_neg c2, if_neg c3, if_pos c4, if_neg (by omega), if_pos (Or.inr c4)]
  · rw [if_neg c1, if_neg c2, if_neg c3, if_neg c4, if_neg (by omega), if_neg (by omega)]
theorem SKW.top {μ : Mem} {k : Nat} {st : List Nat} (h : SKW μ (k :: st)) : mI μ 17 0 st.length = nI k := by
  have := h.2 st.length (by simp)
  simpa using this
theorem SKW.pop {μ : Mem} {k : Nat} {st : List Nat} (h : SKW μ (k :: st)) : SKW (stI μ 12 0 8 (nI st.length)) st := ⟨by rw [mI_stI, if_pos ⟨rfl, rfl, rfl⟩], fun i hi => by
  rw [mI_stI, if_neg (by omega), h.2 i (by simp; omega)]
  simp only [List.length_cons]
  rw [show st.length + 1 - 1 - i = (st.length - 1 - i) + 1 by omega, List.getD_cons_succ]⟩
theorem SKW.fr {μ μ' : Mem} {st : List Nat} {T : List At} (h : SKW μ st) (g : Fr T μ μ') (o1 : inT T 12 0 8 = false) (o2 : offR [17] T = true) : SKW μ' st := ⟨(g.I o1).trans h.1, fun i hi => (g.I (offR_f o2 rfl _ _)).trans (h.2 i hi)⟩
theorem SegK.mem : ∀ {st : List Nat}, SegK st → ∀ k, k ∈ st → k = 37 ∨ (32 ≤ k ∧ k ≤ 35)
  | k :: t, ⟨h, ht⟩, x, hx => by
    rcases List.mem_cons.mp hx with rfl | hx
    · rcases h with h | h
      · exact Or.inl h
      · exact Or.inr ⟨h.1, h.2.1⟩
    · exact SegK.mem ht x hx
theorem cdR_sn (l : Rp) (q : Nat × Nat) : cdR (l ++ [q]) = cdR l ++ [cdQ q] := by simp [cdR]
def TaW (ip : Nat) : List At := [(12, none, some 8), (25, some ip, none), (18, some ip, some 11)]
theorem addW_e {μ0 : Mem} {ip s0 : Nat} {L0 : List Nat} {r : Nat} (hr : 1 ≤ r) (hr2 : r ≤ 2) (i2 : ip < 2) : ∀ (st : List Nat) (out : Rp) (μ : Mem) (fuel : Nat), st.length < fuel → st.length ≤ 20 → SegK st → mR μ 12 0 3 = ip → SKW μ st → EC μ0 ip s0 μ (L0 ++ cdR out) → s0 + (L0 ++ cdR out).length + nOp st ≤ 408 → ∃ μ', fixN (fun _ => none) (rd_addWaiting_B0 (nI r)) fuel μ = some ((), μ') ∧ SKW μ' (popW r st out).1 ∧ EC μ0 ip s0 μ' (L0 ++ cdR (popW r st out).2) ∧ Fr (TaW ip) μ μ'
  | [], out, μ, fuel, hf, _, _, hi, hs, he, _ => by
    obtain ⟨f, rfl⟩ : ∃ f, fuel = f + 1 := ⟨fuel - 1, by omega⟩
    rw [fixN_s]
    refine ⟨μ, ?_, hs, he, Fr.rf _ _⟩
    unfold rd_addWaiting_B0
    rw [hs.1, List.length_nil, if_pos (Int32.le_refl _)]
  | k :: t, out, μ, fuel, hf, h20, ⟨hk, ht⟩, hi, hs, he, hb => by
    obtain ⟨f, rfl⟩ : ∃ f, fuel = f + 1 := ⟨fuel - 1, by omega⟩
    rw [fixN_s]
    rw [List.length_cons] at hf h20
    have k37 : k = 37 ∨ (32 ≤ k ∧ k ≤ 35) := by rcases hk with h | h <;> omega
    have kr := rank_e k (by omega) μ
    have h8 := hs.1
    rw [List.length_cons] at h8
    have tp := hs.top
    unfold rd_addWaiting_B0 popW
    simp (disch := omega) only [h8, nI_leF, nI_sub1, Nat.add_sub_cancel, inB_nI, cl_nI, tp, ↓ob_eq kr, ↓reduceIte]
    by_cases c : r ≤ rkT k
    · have hk2 : 32 ≤ k ∧ k ≤ 35 := rkT_pos (by omega)
      have n1 : nOp (k :: t) = 1 + nOp t := by show (if k = 37 then 0 else 1) + nOp t = _; rw [if_neg (by omega)]
      rw [n1] at hb
      rw [if_pos c, if_neg (by rw [nI_ltF c (by have := rkT_le k; omega)]; exact id)]
      have e1 : EC μ0 ip s0 (stI μ 12 0 8 (nI t.length)) (L0 ++ cdR out) := by
        obtain ⟨a, b, d⟩ := he
        exact ⟨by rw [mI_stI, if_neg (by omega)]; exact a, fun i hi => by rw [mI_stI, if_neg (by omega)]; exact b i hi, fun k hk => by rw [mI_stI, if_neg (by omega)]; exact d k hk⟩
      obtain ⟨μ2, a1, a2, a3⟩ := addCode_e (c := 20000 + k - 32) e1 (by omega)
      have f1 : mI (stI μ 12 0 8 (nI t.length)) 12 0 8 = nI t.length := by rw [mI_stI, if_pos ⟨rfl, rfl, rfl⟩]
      have f2 : mI (stI μ 12 0 8 (nI t.length)) 17 0 t.length = nI k := by rw [mI_stI, if_neg (by omega)]; exact tp
      have f3 : mR (stI μ 12 0 8 (nI t.length)) 12 0 3 = ip := hi
      have g1 : Fr (TaW ip) μ (stI μ 12 0 8 (nI t.length)) := Fr.stI (Fr.rf _ _) (iT 0 rfl inA_ns)
      have g2 : Fr (TaW ip) (stI μ 12 0 8 (nI t.length)) μ2 := a2.mono (sbc (sa_m 1 rfl) (sbc (sa_m 2 rfl) sbn))
      have e2 := a3 (by omega)
      have ec : L0 ++ cdR out ++ [20000 + k - 32] = L0 ++ cdR (out ++ [(k - 30, 0)]) := by
        rw [cdR_sn, List.append_assoc]
        congr 3
        unfold cdQ
        rw [if_neg (by show ¬ k - 30 = 0; omega), if_neg (by show ¬ k - 30 = 1; omega)]
        show 20000 + k - 32 = 19998 + (k - 30)
        omega
      rw [ec] at e2
      obtain ⟨μ3, b1, b2, b3, b4⟩ := addW_e hr hr2 i2 t (out ++ [(k - 30, 0)]) μ2 f (by omega) (by omega) ht ((a2.R (by simp [inT, inA, T25])).trans f3) ((hs.pop).fr a2 (by simp [inT, inA, T25]) rfl) e2 (by rw [← ec, List.length_append, List.length_singleton]; omega)
      refine ⟨μ3, ?_, b2, b3, Fr.tr b4 (Fr.tr g2 g1)⟩
      simp (disch := omega) only [f3, i2, f1, inB_nI, cl_nI, f2, nI_add, pk_sub, ↓ob_eq a1, ↓reduceIte]
      exact b1
    · rw [if_neg c, if_pos (nI_lt (by omega) (by omega))]
      exact ⟨μ, rfl, hs, he, Fr.rf _ _⟩
theorem rd_addW_e {μ0 μ : Mem} {ip s0 : Nat} {L0 : List Nat} {r : Nat} (hr : 1 ≤ r) (hr2 : r ≤ 2) (i2 : ip < 2) {st : List Nat} {out : Rp} (h20 : st.length ≤ 20) (hk : SegK st) (hi : mR μ 12 0 3 = ip) (hs : SKW μ st) (he : EC μ0 ip s0 μ (L0 ++ cdR out)) (hb : s0 + (L0 ++ cdR out).length + nOp st ≤ 408) : ∃ μ', rd_addWaiting (nI r) μ = some ((), μ') ∧ SKW μ' (popW r st out).1 ∧ EC μ0 ip s0 μ' (L0 ++ cdR (popW r st out).2) ∧ Fr (TaW ip) μ μ' :=
  addW_e hr hr2 i2 st out μ 60000 (by omega) h20 hk hi hs he hb
theorem putW_e {μ : Mem} {st : List Nat} (h : SKW μ st) (hl : st.length ≤ 20) (k : Nat) : ∃ μ', rd_putWaiting (nI k) μ = some ((), μ') ∧ SKW μ' (k :: st) ∧ Fr [(17, none, none), (12, none, some 8)] μ μ' := by
  have f1 : mI (stI μ 17 0 st.length (nI k)) 12 0 8 = nI st.length := by rw [mI_stI, if_neg (by omega)]; exact h.1
  refine ⟨stI (stI μ 17 0 st.length (nI k)) 12 0 8 (nI (st.length + 1)), ?_, ⟨by rw [mI_stI, if_pos ⟨rfl, rfl, rfl⟩, List.length_cons], fun i hi => ?_⟩, Fr.stI (Fr.stI (Fr.rf _ _) (iT 0 rfl inA_nn)) (iT 1 rfl inA_ns)⟩
  · unfold rd_putWaiting
    simp (disch := omega) only [h.1, nI_leF, inB_nI, cl_nI, f1, nI_add, ↓mb_e, ↓reduceIte]
  · rw [List.length_cons] at hi
    rw [mI_stI, if_neg (by omega), mI_stI]
    by_cases z : i = st.length
    · subst z
      rw [if_pos ⟨rfl, rfl, rfl⟩]
      simp
    · rw [if_neg (by omega), h.2 i (by omega)]
      simp only [List.length_cons]
      rw [show st.length + 1 - 1 - i = (st.length - 1 - i) + 1 by omega, List.getD_cons_succ]
def CV {α : Type} (f : Option (Int32 × Mem)) (Q : α → Sg → Mem → Prop) (e : Except (Nat × Int32) (α × Sg)) : Prop := match e with
  | .ok (a, s) => ∃ μ, f = some (nI 1, μ) ∧ Q a s μ
  | .error φ => ∃ μ, f = some (nI 0, μ) ∧ ErC φ μ
theorem CX.v {α : Type} {f : Option (Int32 × Mem)} {Q : Sg → Mem → Prop} {Q' : α → Sg → Mem → Prop} {e : Rs} {K : Mem → Option (Int32 × Mem)} {g : Sg → Except (Nat × Int32) (α × Sg)} (h : CX f Q e) (hk : ∀ s μ, e = .ok s → Q s μ → CV (K μ) Q' (g s)) : CV (ob f fun r μ => if r = nI 0 then some (nI 0, μ) else K μ) Q' (bE e g) := by
  unfold CX at h
  cases e with
  | ok s =>
    obtain ⟨μ, h1, h2⟩ := h
    rw [ob_eq h1, if_neg nI_1n0]
    exact hk s μ rfl h2
  | error φ =>
    obtain ⟨μ, h1, h2⟩ := h
    rw [ob_eq h1, if_pos rfl]
    exact ⟨μ, rfl, h2⟩
theorem CV.b {α : Type} {f : Option (Int32 × Mem)} {Q : α → Sg → Mem → Prop} {Q' : Sg → Mem → Prop} {e : Except (Nat × Int32) (α × Sg)} {K : Mem → Option (Int32 × Mem)} {g : α → Sg → Rs} (h : CV f Q e) (hk : ∀ a s μ, e = .ok (a, s) → Q a s μ → CX (K μ) Q' (g a s)) : CX (ob f fun r μ => if r = nI 0 then some (nI 0, μ) else K μ) Q' (bV e g) := by
  unfold CV at h
  cases e with
  | ok s =>
    obtain ⟨a, s⟩ := s
    obtain ⟨μ, h1, h2⟩ := h
    rw [ob_eq h1, if_neg nI_1n0]
    exact hk a s μ rfl h2
  | error φ =>
    obtain ⟨μ, h1, h2⟩ := h
    rw [ob_eq h1, if_pos rfl]
    exact ⟨μ, rfl, h2⟩
theorem fail_v {α : Type} {Z : Tks} {ip : Nat} {μ : Mem} {s : Sg} (h : CuC Z ip μ s) (hs : SgI Z s) {c : Nat} (hc : c = 1 ∨ c = 2) {Q : α → Sg → Mem → Prop} : CV (ob (rd_fail (nI c) μ) fun r μ => if r = nI 0 ∨ r = nI 1 then some (r, μ) else none) Q (.error (c, nI (tpl Z (yT s)))) := (rd_fail_e h hs hc (Q := fun _ _ => True)).t
theorem EC.fr {μ0 μ μ' : Mem} {ip s0 : Nat} {L : List Nat} {T : List At} (h : EC μ0 ip s0 μ L) (g : Fr T μ μ') (o : offR [18, 25] T = true) : EC μ0 ip s0 μ' L := ⟨(g.I (offR_f o rfl _ _)).trans h.1, fun i hi => (g.I (offR_f o rfl _ _)).trans (h.2.1 i hi), fun k hk => (g.I (offR_f o rfl _ _)).trans (h.2.2 k hk)⟩
theorem nI_ne {a b : Nat} (h : ¬ a = b) (ha : a < 2147483648) (hb : b < 2147483648) : ¬ nI a = nI b := fun z => h ((nI_eq ha hb).mp z)
theorem unit_e {Z : Tks} {ip : Nat} {μ0 μ : Mem} {s : Sg} {s0 : Nat} {L : List Nat} (h : CuC Z ip μ s) (hs : SgI Z s) (hz : ZOK Z) (i2 : ip < 2) (he : EC μ0 ip s0 μ L) (hb : s0 + L.length ≤ 408) : (unT (tkd Z (yT s)) (tvl Z (yT s)) = none ∧ rd_addUnit (nI (tkd Z (yT s))) μ = some (nI 0, μ)) ∨ ∃ q μ', unT (tkd Z (yT s)) (tvl Z (yT s)) = some q ∧ rd_addUnit (nI (tkd Z (yT s))) μ = some (nI 1, μ') ∧ Fr (T25 ip) μ μ' ∧ (s0 + L.length < 408 → EC μ0 ip s0 μ' (L ++ [cdQ q])) := by
  have k44 := hz.2.1 (yT s)
  have s1 := hs.2.2.2.2.2.2.2.1
  have s2 := hs.2.2.2.2.2.2.2.2
  unfold unT rd_addUnit
  by_cases c1 : tkd Z (yT s) = 41
  · have v4 := hz.2.2.2.1 _ c1
    have hv := (h.1 _ s2 s1).2.2 (Or.inr c1)
    obtain ⟨μ', e1, e2, e3⟩ := addCode_e (c := tvl Z (yT s)) he hb
    refine Or.inr ⟨(0, tvl Z (yT s)), μ', if_pos c1, ?_, e2, e3⟩
    rw [if_pos (by rw [c1]), h.2.1, if_pos i2, h.2.2.1, if_pos (inB_nI (by omega) (by omega)), cl_nI (by omega), hv, oL_i32 (by omega), ob_eq e1]
  · rw [if_neg c1, if_neg (nI_ne c1 (by omega) (by omega))]
    by_cases c2 : 14 ≤ tkd Z (yT s) ∧ tkd Z (yT s) ≤ 22
    · obtain ⟨μ', e1, e2, e3⟩ := addCode_e (c := 10000 + tkd Z (yT s) - 14) he hb
      have ce : 10000 + tkd Z (yT s) - 14 = cdQ (1, tkd Z (yT s) - 14) := by
        show _ = 10000 + (tkd Z (yT s) - 14)
        omega
      rw [ce] at e1 e3
      refine Or.inr ⟨(1, tkd Z (yT s) - 14), μ', if_pos c2, ?_, e2, e3⟩
      rw [if_neg (nI_nlt c2.1 (by omega)), if_neg (nI_nlt c2.2 (by omega)), h.2.1, if_pos i2, nI_add, pk_sub (by omega), ce, ob_eq e1]
    · refine Or.inl ⟨if_neg c2, ?_⟩
      by_cases c3 : tkd Z (yT s) < 14
      · rw [if_pos (nI_lt c3 (by omega))]
      · rw [if_neg (by rw [nI_ltF (by omega) (by omega)]; exact id), if_pos (nI_lt (by omega) (by omega))]
def QS (Z : Tks) (ip : Nat) (μ0 : Mem) (s0 : Nat) (L0 : List Nat) (e : Rp) (s : Sg) (μ : Mem) : Prop := CuC Z ip μ s ∧ EC μ0 ip s0 μ (L0 ++ cdR e) ∧ s0 + (L0 ++ cdR e).length ≤ 8 + yT s
def k143 (x190 : Int32) (μ191 : Mem) : Option (Int32 × Mem) :=
ob (rd_addWaiting (nI 1) μ191) fun _ μ195 =>
if x190 = (nI 0) then
some ((nI 1), μ195) else
ob (rd_fail (nI 1) μ195) fun r206 μ203 =>
if r206 = (nI 0) then
some ((nI 0), μ203) else
some ((nI 1), μ203)
theorem sum_e {Z : Tks} {μ0 : Mem} {ip s0 : Nat} {L0 : List Nat} (hz : ZOK Z) (i2 : ip < 2) (K181 : Mem → Option (Int32 × Mem)) : ∀ (f : Nat) (w : Bool) (op : Nat) (st : List Nat) (out : Rp) (s : Sg) (μ : Mem) (fuel i : Nat), f < fuel → SgI Z s → f = 401 - yT s → i + f ≤ 401 → CuC Z ip μ s → SKW μ st → SegK st → n37 st = op → op ≤ 6 → EC μ0 ip s0 μ (L0 ++ cdR out) → s0 + (L0 ++ cdR out).length + nOp st ≤ 8 + yT s → CV (fixN (fun _ _ _ _ => none) (rd_readSum_B11 k143 K181) fuel (nI op) (b01I w) (nI i) μ) (QS Z ip μ0 s0 L0) (eE Z f w op st out s)
  | 0, w, op, st, out, s, μ, fuel, i, _, hs, hf, _, _, _, _, _, _, _, _ => by
    have := hs.2.2.2.2.2.2.2.1
    omega
  | f + 1, true, op, st, out, s, μ, fuel, i, hfu, hs, hf, hi, h, hw, hg, ho, ho6, he, hb => by
    obtain ⟨fu, rfl⟩ : ∃ fu, fuel = fu + 1 := ⟨fuel - 1, by omega⟩
    have s1 := hs.2.2.2.2.2.2.2.1
    have k44 := hz.2.1 (yT s)
    have sl := hg.len
    rw [ho] at sl
    rw [fixN_s]
    unfold rd_readSum_B11 eE
    rw [if_neg (nI_nlt (show i ≤ 400 by omega) (by omega)), ob_eq (rd_kind_e h hs), if_neg (show ¬ b01I true = nI 0 by decide)]
    by_cases c1 : tkd Z (yT s) = 37
    · rw [if_pos c1, if_pos (congrArg nI c1)]
      by_cases c2 : op = 6
      · rw [if_pos c2, if_pos (congrArg nI c2)]
        exact fail_v h hs (Or.inr rfl)
      · have tl := topR_le st
        obtain ⟨μ1, e1, h1, g1⟩ := putW_e hw (show st.length ≤ 20 by omega) (tkd Z (yT s))
        have c : CuC Z ip μ1 s := h.frk g1 rfl rfl rfl rfl rfl rfl
        rw [if_neg c2, if_neg (nI_ne c2 (by omega) (by omega)), ob_eq e1]
        refine (rd_pass_e c hs).v (fun r ν e hq => ?_)
        obtain ⟨h2, g2⟩ := hq
        obtain ⟨rfl, g3⟩ := gPass_ok e
        rw [nI_add, nI_add]
        have t1 : yT (wyT s (yT s + 1)) = yT s + 1 := rfl
        have n1 : nOp (37 :: st) = nOp st := by show (if (37 : Nat) = 37 then 0 else 1) + nOp st = _; rw [if_pos rfl]; omega
        have n2 : n37 (37 :: st) = n37 st + 1 := by show (if (37 : Nat) = 37 then 1 else 0) + n37 st = _; rw [if_pos rfl]; omega
        rw [c1] at h1
        exact sum_e hz i2 K181 f true (op + 1) (37 :: st) out _ ν fu (i + 1) (by omega) (hs.wyT g3 (by omega)) (by omega) (by omega) h2 (h1.fr g2 rfl rfl) ⟨Or.inl rfl, hg⟩ (by omega) (by omega) ((he.fr g1 rfl).fr g2 rfl) (by omega)
    · rw [if_neg c1, if_neg (nI_ne c1 (by omega) (by omega)), if_neg (show ¬ b01I true = nI 0 by decide)]
      rcases unit_e h hs hz i2 he (by omega) with ⟨u, e1⟩ | ⟨q, μ1, u, e1, g1, e2⟩
      · rw [u, ob_eq e1, if_pos rfl]
        exact fail_v h hs (Or.inl rfl)
      · have k43 : tkd Z (yT s) ≠ 43 := fun z => by rw [z] at u; cases u
        have c : CuC Z ip μ1 s := h.frk g1 rfl rfl rfl rfl rfl rfl
        rw [u, ob_eq e1, if_neg nI_1n0]
        refine (rd_pass_e c hs).v (fun r ν e hq => ?_)
        obtain ⟨h2, g2⟩ := hq
        obtain ⟨rfl, g3⟩ := gPass_ok e
        have e3 := e2 (by omega)
        rw [List.append_assoc, ← cdR_sn] at e3
        have t1 : yT (wyT s (yT s + 1)) = yT s + 1 := rfl
        rw [nI_add]
        exact sum_e hz i2 K181 f false op st (out ++ [q]) _ ν fu (i + 1) (by omega) (hs.wyT g3 k43) (by omega) (by omega) h2 ((hw.fr g1 rfl rfl).fr g2 rfl rfl) hg ho ho6 (e3.fr g2 rfl) (by
          rw [cdR_sn, ← List.append_assoc, List.length_append, List.length_singleton]; omega)
  | f + 1, false, op, st, out, s, μ, fuel, i, hfu, hs, hf, hi, h, hw, hg, ho, ho6, he, hb => by
    obtain ⟨fu, rfl⟩ : ∃ fu, fuel = fu + 1 := ⟨fuel - 1, by omega⟩
    have s1 := hs.2.2.2.2.2.2.2.1
    have k44 := hz.2.1 (yT s)
    have sl := hg.len
    rw [ho] at sl
    have tl := topR_le st
    rw [fixN_s]
    unfold rd_readSum_B11 eE
    rw [if_neg (nI_nlt (show i ≤ 400 by omega) (by omega)), ob_eq (rd_kind_e h hs), if_pos (show b01I false = nI 0 from rfl), ob_eq (rank_e _ (by omega) μ)]
    have last : CV (k143 (nI op) μ) (QS Z ip μ0 s0 L0) (if op = 0 then .ok ((popW 1 st out).2, s) else .error (1, nI (tpl Z (yT s)))) := by
      obtain ⟨μ1, e1, h1, h2, g1⟩ := rd_addW_e (r := 1) (Nat.le_refl _) (by omega) i2 (show st.length ≤ 20 by omega) hg h.2.1 hw he (by omega)
      obtain ⟨p1, p2, p3, p4, p5, p6, -⟩ := popW_p (r := 1) (Nat.le_refl _) out hg
      have c : CuC Z ip μ1 s := h.frk g1 rfl rfl rfl rfl rfl rfl
      unfold k143
      rw [ob_eq e1]
      by_cases c3 : op = 0
      · rw [if_pos c3, if_pos (congrArg nI c3)]
        refine ⟨μ1, rfl, c, h2, ?_⟩
        simp only [List.length_append, cdR, List.length_map] at hb ⊢
        omega
      · rw [if_neg c3, if_neg (nI_ne c3 (by omega) (by omega))]
        obtain ⟨μ2, f1, f2⟩ := rd_fail_e c hs (c := 1) (Or.inl rfl) (Q := fun _ _ => True)
        rw [ob_eq f1, if_pos rfl]
        exact ⟨μ2, rfl, f2⟩
    by_cases c1 : rkT (tkd Z (yT s)) = 0
    · rw [if_pos c1, if_pos (nI_le (show rkT (tkd Z (yT s)) ≤ 0 by omega) (by omega))]
      by_cases c2 : tkd Z (yT s) = 38
      · rw [if_pos (congrArg nI c2)]
        by_cases c3 : 0 < op
        · rw [if_neg (nI_ge c3 (by omega)), if_pos (show tkd Z (yT s) = 38 ∧ 0 < op from ⟨c2, c3⟩)]
          obtain ⟨μ1, e1, h1, h2, g1⟩ := rd_addW_e (r := 1) (Nat.le_refl _) (by omega) i2 (show st.length ≤ 20 by omega) hg h.2.1 hw he (by omega)
          obtain ⟨p1, p2, p3, p4, p5, p6, -⟩ := popW_p (r := 1) (Nat.le_refl _) out hg
          have c : CuC Z ip μ1 s := h.frk g1 rfl rfl rfl rfl rfl rfl
          rcases p1.z p3 with ⟨z1, z2, z3⟩ | ⟨t, z1, z2, z3, z4⟩
          · omega
          · have h1' := h1
            rw [z1] at h1'
            have h8 : mI μ1 12 0 8 = nI (t.length + 1) := by rw [h1'.1, List.length_cons]
            have g2 : Fr [(12, none, some 8)] μ1 (stI μ1 12 0 8 (nI t.length)) := Fr.stI (Fr.rf _ _) (iT 0 rfl inA_ns)
            have c' : CuC Z ip (stI μ1 12 0 8 (nI t.length)) s := c.frk g2 rfl rfl rfl rfl rfl rfl
            rw [ob_eq e1, h8, nI_sub1 (by omega), Nat.add_sub_cancel, mb_e]
            refine (rd_pass_e c' hs).v (fun r ν e hq => ?_)
            obtain ⟨h3, g3⟩ := hq
            obtain ⟨rfl, g4⟩ := gPass_ok e
            have t1 : yT (wyT s (yT s + 1)) = yT s + 1 := rfl
            rw [nI_add, nI_m1 c3, z1, List.tail_cons]
            exact sum_e hz i2 K181 f false (op - 1) t _ _ ν fu (i + 1) (by omega) (hs.wyT g4 (by omega)) (by omega) (by omega) h3 (h1'.pop.fr g3 rfl rfl) z2 (by omega) (by omega) ((h2.fr g2 rfl).fr g3 rfl) (by
              simp only [List.length_append, cdR, List.length_map] at hb ⊢
              omega)
        · rw [if_pos (nI_le (show op ≤ 0 by omega) (by omega)), if_neg (show ¬ (tkd Z (yT s) = 38 ∧ 0 < op) from fun z => c3 z.2)]
          exact last
      · rw [if_neg (nI_ne c2 (by omega) (by omega)), if_neg (show ¬ (tkd Z (yT s) = 38 ∧ 0 < op) from fun z => c2 z.1)]
        exact last
    · have hk := rkT_pos c1
      have rk2 := rkT_le (tkd Z (yT s))
      obtain ⟨μ1, e1, h1, h2, g1⟩ := rd_addW_e (r := rkT (tkd Z (yT s))) (by omega) rk2 i2 (show st.length ≤ 20 by omega) hg h.2.1 hw he (by omega)
      obtain ⟨p1, p2, p3, p4, p5, p6, -⟩ := popW_p (r := rkT (tkd Z (yT s))) (by omega) out hg
      have pl := p1.len
      obtain ⟨μ2, e2, h3, g2⟩ := putW_e h1 (by omega) (tkd Z (yT s))
      have c : CuC Z ip μ1 s := h.frk g1 rfl rfl rfl rfl rfl rfl
      have c' : CuC Z ip μ2 s := c.frk g2 rfl rfl rfl rfl rfl rfl
      rw [if_neg c1, if_neg (nI_ge (show 0 < rkT (tkd Z (yT s)) by omega) (by omega)), ob_eq (rank_e _ (by omega) μ), ob_eq e1, ob_eq e2]
      refine (rd_pass_e c' hs).v (fun r ν e hq => ?_)
      obtain ⟨h4, g4⟩ := hq
      obtain ⟨rfl, g5⟩ := gPass_ok e
      have t1 : yT (wyT s (yT s + 1)) = yT s + 1 := rfl
      have nt : nOp (tkd Z (yT s) :: (popW (rkT (tkd Z (yT s))) st out).1) = 1 + nOp (popW (rkT (tkd Z (yT s))) st out).1 := by show (if _ = 37 then 0 else 1) + _ = _; rw [if_neg (by omega)]
      have mt : n37 (tkd Z (yT s) :: (popW (rkT (tkd Z (yT s))) st out).1) = n37 (popW (rkT (tkd Z (yT s))) st out).1 := by show (if _ = 37 then 1 else 0) + _ = _; rw [if_neg (by omega), Nat.zero_add]
      rw [nI_add]
      exact sum_e hz i2 K181 f true op _ _ _ ν fu (i + 1) (by omega) (hs.wyT g5 (by omega)) (by omega) (by omega) h4 (h3.fr g4 rfl rfl) ⟨Or.inr ⟨hk.1, hk.2, p3⟩, p1⟩ (by omega) ho6 ((h2.fr g2 rfl).fr g4 rfl) (by
        simp only [List.length_append, cdR, List.length_map] at hb ⊢
        omega)

/-! the class' laws: its codes and how it goes through them -/
def cdQ (q : Nat × Nat) : Nat := if q.1 = 0 then q.2 else if q.1 = 1 then 10000 + q.2 else 19998 + q.1
theorem cdQ_0 (n : Nat) : cdQ (0, n) = n := rfl
theorem cdQ_1 (n : Nat) : cdQ (1, n) = 10000 + n := rfl
theorem cdQ_k (k n : Nat) : cdQ (k + 2, n) = 20000 + k := by
  unfold cdQ
  rw [if_neg (by simp), if_neg (by simp)]
  omega
theorem sub_c (n : Nat) : nI (10000 + n) - nI 10000 = nI n := by rw [pk_sub (Nat.le_add_right _ _), Nat.add_sub_cancel_left]
def cdR (l : Rp) : List Nat := l.map cdQ
def cdL (e : Rp) : List (Rp × Rp × Rp) → List Nat
  | [] => cdR e ++ [20006]
  | (a, b, c) :: t => cdR a ++ (cdR b ++ (20004 :: (cdR c ++ (20005 :: cdL e t))))
def isC (f : Nat → Int32) (s : Nat) (L : List Nat) : Prop := ∀ i, i < L.length → f (s + i) = nI (L.getD i 0)
theorem isC_h {f : Nat → Int32} {s a : Nat} {L : List Nat} (h : isC f s (a :: L)) : f s = nI a := h 0 (by simp)
theorem isC_t {f : Nat → Int32} {s a : Nat} {L : List Nat} (h : isC f s (a :: L)) : isC f (s + 1) L := fun i hi => by
  have := h (i + 1) (by simp; omega)
  rw [show s + 1 + i = s + (i + 1) by omega]
  simpa using this
theorem isC_l {f : Nat → Int32} : ∀ {A : List Nat} {s : Nat} {B : List Nat}, isC f s (A ++ B) → isC f s A
  | A, s, B, h => fun i hi => by
    rw [h i (by simp; omega)]
    congr 1
    simp [List.getD, List.getElem?_append_left hi]
theorem isC_r {f : Nat → Int32} : ∀ {A : List Nat} {s : Nat} {B : List Nat}, isC f s (A ++ B) → isC f (s + A.length) B
  | A, s, B, h => fun i hi => by
    have := h (A.length + i) (by simp; omega)
    rw [show s + A.length + i = s + (A.length + i) by omega, this]
    congr 1
    simp [List.getD, List.getElem?_append_right]
/-- the class' stack at world w -/
def SK (μ : Mem) (w : Nat) (st : List Int32) : Prop := ∀ i, i < st.length → mI μ 43 w i = st.getD (st.length - 1 - i) 0
theorem SK.push {μ : Mem} {w : Nat} {st : List Int32} (h : SK μ w st) (x : Int32) : SK (stI μ 43 w st.length x) w (x :: st) := fun i hi => by
  rw [mI_stI]
  by_cases e : i = st.length
  · subst e; simp
  · rw [if_neg (fun z => e z.2.2), h i (by simp at hi; omega)]
    simp only [List.length_cons] at hi ⊢
    rw [show st.length + 1 - 1 - i = (st.length - 1 - i) + 1 by omega, List.getD_cons_succ]
theorem SK.top {μ : Mem} {w : Nat} {a : Int32} {st : List Int32} (h : SK μ w (a :: st)) : mI μ 43 w st.length = a := by
  have := h st.length (by simp)
  simpa using this
theorem SK.pop {μ : Mem} {w : Nat} {a : Int32} {st : List Int32} (h : SK μ w (a :: st)) : SK μ w st := fun i hi => by
  rw [h i (by simp; omega)]
  simp only [List.length_cons]
  rw [show st.length + 1 - 1 - i = (st.length - 1 - i) + 1 by omega, List.getD_cons_succ]
theorem SK.fr {μ μ' : Mem} {w : Nat} {st : List Int32} (h : SK μ w st) (g : ∀ k, mI μ' 43 w k = mI μ 43 w k) : SK μ' w st := fun i hi => by rw [g]; exact h i hi
/-- a place of the stack below the top written anew -/
theorem SK.set {μ : Mem} {w : Nat} {st : List Int32} (h : SK μ w st) {a b : Int32} (h2 : SK μ w (b :: a :: st)) (x : Int32) : SK (stI μ 43 w st.length x) w (x :: st) := h.push x
def T43 : List At := [(43, none, none)]
theorem fr43 {μ0 μ : Mem} (g : Fr T43 μ0 μ) (w k : Nat) (x : Int32) : Fr T43 μ0 (stI μ 43 w k x) := Fr.stI g (iT 0 rfl inA_nn)
/-- one code -/
theorem vo_int {w p cs : Nat} {K : Int32 → Mem → Option (Int32 × Mem)} (self : Int32 → Int32 → Mem → Option (Int32 × Mem)) {μ : Mem} {at_ n d : Nat} (hp2 : p < 2) (hcs : cs ≤ 408) (hp : mR μ 31 w 0 = p) (hc : mI μ 18 p 11 = nI cs) (hi0 : mI μ 25 p at_ = nI n) (hn : n < 10000) (h1 : at_ < cs) (h2 : d < 408) :
    wo_valueOf_B12 w K self (nI d) (nI at_) μ = self (nI (d + 1)) (nI (at_ + 1)) (stI μ 43 w d (nI n)) := by
  unfold wo_valueOf_B12
  simp (disch := omega) only [hp, hp2, hc, nI_leF, inB_nI, cl_nI, hi0, nI_add, mb_e, ↓reduceIte]
theorem vo_var {w p cs : Nat} {K : Int32 → Mem → Option (Int32 × Mem)} (self : Int32 → Int32 → Mem → Option (Int32 × Mem)) {μ : Mem} {at_ n d : Nat} (hp2 : p < 2) (hcs : cs ≤ 408) (hp : mR μ 31 w 0 = p) (hc : mI μ 18 p 11 = nI cs) (hi0 : mI μ 25 p at_ = nI (10000 + n)) (hn : n < 9) (h1 : at_ < cs) (h2 : d < 408) :
    wo_valueOf_B12 w K self (nI d) (nI at_) μ = self (nI (d + 1)) (nI (at_ + 1)) (stI μ 43 w d (mI μ 42 w n)) := by
  unfold wo_valueOf_B12
  simp (disch := omega) only [hp, hp2, hc, nI_leF, nI_leT, inB_nI, cl_nI, hi0, sub_c, nI_add, mb_e, ↓reduceIte]
theorem vo_op {w p cs : Nat} {K : Int32 → Mem → Option (Int32 × Mem)} (self : Int32 → Int32 → Mem → Option (Int32 × Mem)) {μ : Mem} {at_ k d : Nat} {a b : Int32} (hp2 : p < 2) (hcs : cs ≤ 408) (hp : mR μ 31 w 0 = p) (hc : mI μ 18 p 11 = nI cs) (hi0 : mI μ 25 p at_ = nI (20000 + k)) (hk : k < 4) (h1 : at_ < cs) (h2 : d + 2 < 408) (ha : mI μ 43 w d = a) (hb : mI μ 43 w (d + 1) = b) :
    wo_valueOf_B12 w K self (nI (d + 2)) (nI at_) μ = if k = 3 ∧ b = nI 0 then some (nI 0, μ) else self (nI (d + 1)) (nI (at_ + 1)) (stI μ 43 w d (opV (k + 2) a b)) := by
  have e1 : nI (d + 2) + (-1 : Int32) = nI (d + 1) := pk_m1 _
  have e2 : nI (d + 2) - nI 1 = nI (d + 1) := pk_sub (by omega)
  have e3 : nI (d + 1) - nI 1 = nI d := pk_sub (by omega)
  unfold wo_valueOf_B12
  rcases (show k = 0 ∨ k = 1 ∨ k = 2 ∨ k = 3 by omega) with rfl | rfl | rfl | rfl
  · simp (disch := omega) [hp, hp2, hc, nI_leF, nI_leT, nI_eqF, inB_nI, cl_nI, hi0, e1, e2, e3, ha, hb, wo_joined, ob_some, mb_e, nI_add, opV]
  · simp (disch := omega) [hp, hp2, hc, nI_leF, nI_leT, nI_eqF, inB_nI, cl_nI, hi0, e1, e2, e3, ha, hb, wo_joined, ob_some, mb_e, nI_add, opV]
  · simp (disch := omega) [hp, hp2, hc, nI_leF, nI_leT, nI_eqF, inB_nI, cl_nI, hi0, e1, e2, e3, ha, hb, wo_joined, ob_some, mb_e, nI_add, opV]
  · by_cases hz : b = nI 0
    · simp (disch := omega) [hp, hp2, hc, nI_leF, nI_leT, nI_eqF, inB_nI, cl_nI, hi0, e1, e2, e3, ha, hb, hz, wo_joined, ob_some, mb_e, nI_add, opV]
    · have hz3 : ¬ b = 0 := hz
      simp (disch := omega) [hp, hp2, hc, nI_leF, nI_leT, nI_eqF, inB_nI, cl_nI, hi0, e1, e2, e3, ha, hb, hz, hz3, wo_joined, ob_some, mb_e, nI_add, opV]
/-- what a walk over a stretch of codes does -/
def voF (w : Nat) (K : Int32 → Mem → Option (Int32 × Mem)) (n : Nat) : Int32 → Int32 → Mem → Option (Int32 × Mem) := fixN (fun _ _ _ => none) (wo_valueOf_B12 w K) n
theorem voF_s (w : Nat) (K : Int32 → Mem → Option (Int32 × Mem)) (n : Nat) : voF w K (n + 1) = wo_valueOf_B12 w K (voF w K n) := rfl
def voR (w : Nat) (K : Int32 → Mem → Option (Int32 × Mem)) (l : Rp) (st : List Int32) (at_ : Nat) (μ μ' : Mem) (fuel : Nat) : Prop := match rpn (mI μ 42 w) l st with
  | none => voF w K (fuel + l.length) (nI st.length) (nI at_) μ = some (nI 0, μ')
  | some st' => SK μ' w st' ∧ voF w K (fuel + l.length) (nI st.length) (nI at_) μ = voF w K fuel (nI st'.length) (nI (at_ + l.length)) μ'
theorem voR_c {w : Nat} {K : Int32 → Mem → Option (Int32 × Mem)} {q : Nat × Nat} {t : Rp} {st st2 : List Int32} {at_ fuel : Nat} {μ μ1 μ' : Mem} (h : voR w K t st2 (at_ + 1) μ1 μ' fuel) (h42 : mI μ1 42 w = mI μ 42 w) (hr : rpn (mI μ 42 w) (q :: t) st = rpn (mI μ 42 w) t st2) (he : ∀ self, wo_valueOf_B12 w K self (nI st.length) (nI at_) μ = self (nI st2.length) (nI (at_ + 1)) μ1) : voR w K (q :: t) st at_ μ μ' fuel := by
  unfold voR at h ⊢
  rw [hr, ← h42, List.length_cons, show fuel + (t.length + 1) = fuel + t.length + 1 by omega, voF_s, he, show at_ + (t.length + 1) = at_ + 1 + t.length by omega]
  exact h
theorem vo_seg {w p cs : Nat} {K : Int32 → Mem → Option (Int32 × Mem)} (hp2 : p < 2) (hcs : cs ≤ 408) : ∀ (l : Rp) (st : List Int32) (d : Nat) (μ : Mem) (at_ fuel : Nat), rpd l st.length = some d → mR μ 31 w 0 = p → mI μ 18 p 11 = nI cs → isC (mI μ 25 p) at_ (cdR l) → at_ + l.length ≤ cs → st.length ≤ at_ →
    SK μ w st → ∃ μ', Fr T43 μ μ' ∧ voR w K l st at_ μ μ' fuel
  | [], st, d, μ, at_, fuel, h, hp, hc, hi, h1, h2, hs => ⟨μ, Fr.rf _ _, hs, rfl⟩
  | (0, n) :: t, st, d, μ, at_, fuel, h, hp, hc, hi, h1, h2, hs => by
    simp only [rpd] at h
    split at h
    · rename_i hn
      simp only [List.length_cons] at h1 h2
      have hi2 : isC (mI μ 25 p) at_ (n :: cdR t) := hi
      obtain ⟨μ', g, r⟩ := vo_seg (K := K) hp2 hcs t (nI n :: st) d (stI μ 43 w st.length (nI n)) (at_ + 1) fuel h hp hc (isC_t hi2) (by omega) (by simp; omega) (hs.push _)
      exact ⟨μ', Fr.tr g (fr43 (Fr.rf _ _) _ _ _), voR_c r rfl rfl (fun self => vo_int self hp2 hcs hp hc (isC_h hi2) hn (by omega) (by omega))⟩
    · cases h
  | (1, n) :: t, st, d, μ, at_, fuel, h, hp, hc, hi, h1, h2, hs => by
    simp only [rpd] at h
    split at h
    · rename_i hn
      simp only [List.length_cons] at h1 h2
      have hi2 : isC (mI μ 25 p) at_ ((10000 + n) :: cdR t) := hi
      obtain ⟨μ', g, r⟩ := vo_seg (K := K) hp2 hcs t (mI μ 42 w n :: st) d (stI μ 43 w st.length (mI μ 42 w n)) (at_ + 1) fuel h hp hc (isC_t hi2) (by omega) (by simp; omega) (hs.push _)
      exact ⟨μ', Fr.tr g (fr43 (Fr.rf _ _) _ _ _), voR_c r rfl rfl (fun self => vo_var self hp2 hcs hp hc (isC_h hi2) hn (by omega) (by omega))⟩
    · cases h
  | (k + 2, n) :: t, st, d, μ, at_, fuel, h, hp, hc, hi, h1, h2, hs => by
    simp only [rpd] at h
    split at h
    · rename_i hk
      simp only [List.length_cons] at h1 h2
      have hi2 : isC (mI μ 25 p) at_ (cdQ (k + 2, n) :: cdR t) := hi
      rw [cdQ_k] at hi2
      match st, hs, hk, h, h2 with
      | b :: a :: st, hs, hk, h, h2 =>
        have ha := hs.pop.top
        have hb := hs.top
        simp only [List.length_cons] at h h2 hb
        have he := fun self => vo_op (K := K) self hp2 hcs hp hc (isC_h hi2) hk.1 (by omega) (by omega) ha hb
        by_cases hz : k = 3 ∧ b = nI 0
        · refine ⟨μ, Fr.rf _ _, ?_⟩
          unfold voR
          have hr : rpn (mI μ 42 w) ((k + 2, n) :: t) (b :: a :: st) = none := by simp only [rpn, if_pos hz]
          rw [hr]
          show voF w K (fuel + (t.length + 1)) (nI (st.length + 2)) (nI at_) μ = some (nI 0, μ)
          rw [show fuel + (t.length + 1) = fuel + t.length + 1 by omega, voF_s, he, if_pos hz]
        · obtain ⟨μ', g, r⟩ := vo_seg (K := K) hp2 hcs t (opV (k + 2) a b :: st) d (stI μ 43 w st.length (opV (k + 2) a b)) (at_ + 1) fuel (by simpa using h) hp hc (isC_t hi2) (by omega) (by simp; omega) (hs.pop.pop.push _)
          exact ⟨μ', Fr.tr g (fr43 (Fr.rf _ _) _ _ _), voR_c r rfl (by simp only [rpn, if_neg hz]) (fun self => by
            show wo_valueOf_B12 w K self (nI (st.length + 2)) (nI at_) μ = _
            rw [he, if_neg hz]; rfl)⟩
      | [b], hs, hk, h, h2 => simp at hk
      | [], hs, hk, h, h2 => simp at hk
    · cases h
theorem rpn_app (v : Nat → Int32) (r : List Int32) : ∀ (l : Rp) (d : Nat) (st : List Int32), rpd l st.length = some d → rpn v l (st ++ r) = (rpn v l st).map (· ++ r)
  | [], d, st, h => rfl
  | (0, n) :: t, d, st, h => by
    simp only [rpd] at h
    split at h
    · exact rpn_app v r t d (nI n :: st) h
    · cases h
  | (1, n) :: t, d, st, h => by
    simp only [rpd] at h
    split at h
    · exact rpn_app v r t d (v n :: st) h
    · cases h
  | (k + 2, n) :: t, d, st, h => by
    simp only [rpd] at h
    split at h
    · rename_i hk
      match st, hk, h with
      | b :: a :: st, hk, h =>
        simp only [rpn, List.cons_append]
        split
        · rfl
        · exact rpn_app v r t d (opV (k + 2) a b :: st) h
      | [b], hk, h => simp at hk
      | [], hk, h => simp at hk
    · cases h
theorem rpd_add (k : Nat) : ∀ (l : Rp) (d e : Nat), rpd l d = some e → rpd l (d + k) = some (e + k)
  | [], d, e, h => by simp only [rpd, Option.some.injEq] at h ⊢; omega
  | (0, n) :: t, d, e, h => by
    simp only [rpd] at h ⊢
    split at h
    · rename_i hn
      rw [if_pos hn, show d + k + 1 = d + 1 + k by omega]
      exact rpd_add k t _ _ h
    · cases h
  | (1, n) :: t, d, e, h => by
    simp only [rpd] at h ⊢
    split at h
    · rename_i hn
      rw [if_pos hn, show d + k + 1 = d + 1 + k by omega]
      exact rpd_add k t _ _ h
    · cases h
  | (j + 2, n) :: t, d, e, h => by
    simp only [rpd] at h ⊢
    split at h
    · rename_i hn
      rw [if_pos ⟨hn.1, by omega⟩, show d + k - 1 = d - 1 + k by omega]
      exact rpd_add k t _ _ h
    · cases h
theorem rpd_cd : ∀ (l : Rp) (d e : Nat), rpd l d = some e → ∀ x ∈ cdR l, x < 20004
  | [], d, e, h, x, hx => by simp [cdR] at hx
  | (0, n) :: t, d, e, h, x, hx => by
    simp only [rpd] at h
    split at h
    · rcases List.mem_cons.mp (show x ∈ n :: cdR t from hx) with rfl | hx
      · omega
      · exact rpd_cd t _ _ h x hx
    · cases h
  | (1, n) :: t, d, e, h, x, hx => by
    simp only [rpd] at h
    split at h
    · rcases List.mem_cons.mp (show x ∈ (10000 + n) :: cdR t from hx) with rfl | hx
      · omega
      · exact rpd_cd t _ _ h x hx
    · cases h
  | (k + 2, n) :: t, d, e, h, x, hx => by
    simp only [rpd] at h
    split at h
    · rename_i hk
      rcases List.mem_cons.mp (show x ∈ cdQ (k + 2, n) :: cdR t from hx) with rfl | hx
      · rw [cdQ_k]; omega
      · exact rpd_cd t _ _ h x hx
    · cases h
theorem rpOK_ne {l : Rp} (h : rpOK l) : 1 ≤ l.length := by
  match l, h with
  | [], h => simp [rpOK, rpd] at h
  | _ :: _, _ => simp
theorem evR_cases (v : Nat → Int32) {l : Rp} (h : rpOK l) : (rpn v l [] = none ∧ evR v l = none) ∨ ∃ x, rpn v l [] = some [x] ∧ evR v l = some x := by
  rcases rpn_d v l 0 1 [] h rfl with e | ⟨st, e, hl⟩
  · exact Or.inl ⟨e, by unfold evR; rw [e]⟩
  · match st, hl with
    | [x], _ => exact Or.inr ⟨x, e, by unfold evR; rw [e]⟩
theorem vo_end {w p cs : Nat} {K : Int32 → Mem → Option (Int32 × Mem)} (self : Int32 → Int32 → Mem → Option (Int32 × Mem)) {μ : Mem} {at_ n d : Nat} (hp2 : p < 2) (hcs : cs ≤ 408) (hp : mR μ 31 w 0 = p) (hc : mI μ 18 p 11 = nI cs) (hi0 : mI μ 25 p at_ = nI n) (hn : n = 20005 ∨ n = 20006) (h1 : at_ < cs) :
    wo_valueOf_B12 w K self (nI d) (nI at_) μ = K (nI d) μ := by
  unfold wo_valueOf_B12
  rcases hn with rfl | rfl
  · simp (disch := omega) only [hp, hp2, hc, nI_leF, nI_leT, inB_nI, cl_nI, hi0, nI_eqF, ↓reduceIte]
  · simp (disch := omega) only [hp, hp2, hc, nI_leF, nI_leT, inB_nI, cl_nI, hi0, nI_eqF, ↓reduceIte]
theorem vo_then {w p cs : Nat} {K : Int32 → Mem → Option (Int32 × Mem)} (self : Int32 → Int32 → Mem → Option (Int32 × Mem)) {μ : Mem} {at_ : Nat} (hp2 : p < 2) (hcs : cs ≤ 408) (hp : mR μ 31 w 0 = p) (hc : mI μ 18 p 11 = nI cs) (hi0 : mI μ 25 p at_ = nI 20004) (h1 : at_ < cs) :
    wo_valueOf_B12 w K self (nI 2) (nI at_) μ = if mI μ 43 w 0 < mI μ 43 w 1 then self (nI 0) (nI (at_ + 1)) μ else ob (pl_elseBehind p (nI at_) μ) fun r μ1 => ob (j_max (nI at_) r μ1) fun r2 μ2 => self (nI 0) (r2 + nI 1) μ2 := by
  have e1 : nI 2 + (-2 : Int32) = nI 0 := rfl
  have e2 : nI 0 + nI 1 = nI 1 := rfl
  unfold wo_valueOf_B12
  by_cases hz : mI μ 43 w 0 < mI μ 43 w 1
  · simp (disch := omega) only [hp, hp2, hc, nI_leF, nI_leT, nI_eqF, inB_nI, cl_nI, hi0, e1, e2, Int32.not_le.mpr hz, hz, nI_add, ↓reduceIte]
  · simp (disch := omega) only [hp, hp2, hc, nI_leF, nI_leT, nI_eqF, inB_nI, cl_nI, hi0, e1, e2, Int32.not_lt.mp hz, hz, nI_add, ↓reduceIte]
theorem pl_elseBehind_e {μ : Mem} {p cs : Nat} (hcs : cs ≤ 408) (hc : mI μ 18 p 11 = nI cs) {L R : List Nat} {at_ : Nat} (hi : isC (mI μ 25 p) at_ (L ++ 20005 :: R)) (hL : ∀ x ∈ L, x ≠ 20005 ∧ x < 21000) (h1 : at_ + L.length < cs) : pl_elseBehind p (nI at_) μ = some (nI (at_ + L.length), μ) := by
  unfold pl_elseBehind pl_elseBehind_L2
  have key := fixN_up (F := Int32 → Mem → Option (Int32 × Mem)) (bot := fun _ _ => none) (b := pl_elseBehind_B2 p) (fun i (self : Int32 → Mem → Option (Int32 × Mem)) => self (nI (at_ + i)) μ = some (nI (at_ + L.length), μ)) L.length ?_ ?_ 60000 0 (by omega) (by omega)
  · exact key
  · intro i self hi2 ih
    have e : mI μ 25 p (at_ + i) = nI (L.getD i 0) := isC_l hi i hi2
    have hm := hL (L.getD i 0) (by rw [List.getD_eq_getElem?_getD, List.getElem?_eq_getElem hi2]; simp)
    unfold pl_elseBehind_B2
    simp (disch := omega) only [hc, nI_leF, inB_nI, cl_nI, e, nI_eqF, hm.1, nI_add, ↓reduceIte]
    exact ih
  · intro self
    have e : mI μ 25 p (at_ + L.length) = nI 20005 := isC_h (isC_r hi)
    unfold pl_elseBehind_B2
    simp (disch := omega) only [hc, nI_leF, inB_nI, cl_nI, e, ↓reduceIte]
theorem j_max_e (a b : Int32) (μ : Mem) : j_max a b μ = some (if a < b then b else a, μ) := by
  unfold j_max
  split <;> rfl
theorem j_min_e (a b : Int32) (μ : Mem) : j_min a b μ = some (if b < a then b else a, μ) := by
  unfold j_min
  split <;> rfl
def Kv (w : Nat) : Int32 → Mem → Option (Int32 × Mem) := fun x μ => if x ≤ nI 0 then some (nI 0, μ) else if inB (x - nI 1) 408 = true then some (mI μ 43 w (cl (x - nI 1)), μ) else none
theorem Kv_1 (w : Nat) (μ : Mem) : Kv w (nI 1) μ = some (mI μ 43 w 0, μ) := by
  unfold Kv
  rw [if_neg (by decide), if_pos (by decide)]
  rfl
theorem cdR_len (l : Rp) : (cdR l).length = l.length := List.length_map _
theorem vo_law {w p cs : Nat} (hp2 : p < 2) (hcs : cs ≤ 408) {e : Rp} (he : rpOK e) : ∀ (br : List (Rp × Rp × Rp)), (∀ q ∈ br, rpOK q.1 ∧ rpOK q.2.1 ∧ rpOK q.2.2) → ∀ (μ : Mem) (at_ fuel : Nat), mR μ 31 w 0 = p → mI μ 18 p 11 = nI cs → isC (mI μ 25 p) at_ (cdL e br) → at_ + (cdL e br).length ≤ cs → (cdL e br).length < fuel →
    ∃ μ', Fr T43 μ μ' ∧ voF w (Kv w) fuel (nI 0) (nI at_) μ = some (lawB (mI μ 42 w) e br, μ')
  | [], hb, μ, at_, fuel, hp, hc, hi, h1, hf => by
    simp only [cdL, List.length_append, cdR_len, List.length_cons, List.length_nil] at hi h1 hf
    obtain ⟨μ', g, r⟩ := vo_seg (K := Kv w) hp2 hcs e [] 1 μ at_ (fuel - e.length) he hp hc (isC_l hi) (by omega) (by simp) (fun i hi => by simp at hi)
    rw [show voF w (Kv w) fuel = voF w (Kv w) (fuel - e.length + e.length) by rw [Nat.sub_add_cancel (by omega)]]
    have hk := isC_r hi
    rw [cdR_len] at hk
    simp only [lawB]
    rcases evR_cases (mI μ 42 w) he with ⟨e1, e2⟩ | ⟨x, e1, e2⟩
    · unfold voR at r
      rw [e1] at r
      exact ⟨μ', g, by rw [e2]; exact r⟩
    · unfold voR at r
      rw [e1] at r
      obtain ⟨r1, r2⟩ := r
      refine ⟨μ', g, ?_⟩
      rw [e2]
      refine Eq.trans r2 ?_
      rw [show fuel - e.length = (fuel - e.length - 1) + 1 by omega, voF_s, vo_end _ hp2 hcs ((g.R rfl).trans hp) ((g.I rfl).trans hc) ((g.I rfl).trans (isC_h hk)) (Or.inr rfl) (by omega)]
      show Kv w (nI 1) μ' = _
      rw [Kv_1, show mI μ' 43 w 0 = x from r1.top]; rfl
  | (a, b, c) :: t, hb, μ, at_, fuel, hp, hc, hi, h1, hf => by
    obtain ⟨ha, hb2, hc2⟩ := hb (a, b, c) List.mem_cons_self
    simp only [cdL, List.length_append, cdR_len, List.length_cons] at hi h1 hf
    have n1 : 1 ≤ a.length := rpOK_ne ha
    obtain ⟨μ1, g1, r1⟩ := vo_seg (K := Kv w) hp2 hcs a [] 1 μ at_ (fuel - a.length) ha hp hc (isC_l hi) (by omega) (by simp) (fun i hi => by simp at hi)
    have hi2 := isC_r hi
    rw [cdR_len] at hi2
    rw [show voF w (Kv w) fuel = voF w (Kv w) (fuel - a.length + a.length) by rw [Nat.sub_add_cancel (by omega)]]
    simp only [lawB]
    unfold voR at r1
    rcases evR_cases (mI μ 42 w) ha with ⟨e1, e2⟩ | ⟨x, e1, e2⟩
    · rw [e1] at r1
      exact ⟨μ1, g1, by rw [e2]; exact r1⟩
    · rw [e1] at r1
      obtain ⟨s1, q1⟩ := r1
      have hi2' : isC (mI μ1 25 p) (at_ + a.length) (cdR b ++ (20004 :: (cdR c ++ (20005 :: cdL e t)))) := fun i hi => (g1.I rfl).trans (hi2 i hi)
      obtain ⟨μ2, g2, r2⟩ := vo_seg (K := Kv w) hp2 hcs b [x] 2 μ1 (at_ + a.length) (fuel - a.length - b.length) (rpd_add 1 b 0 1 hb2) ((g1.R rfl).trans hp) ((g1.I rfl).trans hc) (isC_l hi2') (by omega) (by simp; omega) s1
      have h42 : mI μ1 42 w = mI μ 42 w := funext fun k => g1.I rfl
      unfold voR at r2
      rw [h42, show [x] = ([] : List Int32) ++ [x] from rfl, rpn_app _ [x] b 1 [] hb2] at r2
      rcases evR_cases (mI μ 42 w) hb2 with ⟨e3, e4⟩ | ⟨y, e3, e4⟩
      · rw [e3] at r2
        refine ⟨μ2, Fr.tr g2 g1, ?_⟩
        rw [e2, e4]
        refine Eq.trans q1 ?_
        rw [show voF w (Kv w) (fuel - a.length) = voF w (Kv w) (fuel - a.length - b.length + b.length) by rw [Nat.sub_add_cancel (by omega)]]
        exact r2
      · rw [e3] at r2
        obtain ⟨s2, q2⟩ := r2
        have g12 := Fr.tr g2 g1
        have hi3 := isC_r hi2
        rw [cdR_len] at hi3
        have hx : mI μ2 43 w 0 = x := s2.pop.top
        have hy : mI μ2 43 w 1 = y := s2.top
        rw [e2, e4]
        have step : voF w (Kv w) (fuel - a.length + a.length) (nI 0) (nI at_) μ = voF w (Kv w) (fuel - a.length - b.length) (nI 2) (nI (at_ + a.length + b.length)) μ2 := by
          refine Eq.trans q1 ?_
          rw [show voF w (Kv w) (fuel - a.length) = voF w (Kv w) (fuel - a.length - b.length + b.length) by rw [Nat.sub_add_cancel (by omega)]]
          exact q2
        have hp2' := (g12.R (r := 31) (i := w) (k := 0) rfl).trans hp
        have hc2' := (g12.I (r := 18) (i := p) (k := 11) rfl).trans hc
        have h42' : mI μ2 42 w = mI μ 42 w := funext fun k => g12.I rfl
        have hi3' : isC (mI μ2 25 p) (at_ + a.length + b.length) (20004 :: (cdR c ++ (20005 :: cdL e t))) := fun i hi => (g12.I rfl).trans (hi3 i hi)
        rw [step, show fuel - a.length - b.length = (fuel - a.length - b.length - 1) + 1 by omega, voF_s, vo_then _ hp2 hcs hp2' hc2' (isC_h hi3') (by omega), hx, hy]
        by_cases hxy : x < y
        · simp only [if_pos hxy]
          have hi4 := isC_t hi3'
          obtain ⟨μ3, g3, r3⟩ := vo_seg (K := Kv w) hp2 hcs c [] 1 μ2 (at_ + a.length + b.length + 1) (fuel - a.length - b.length - 1 - c.length) hc2 hp2' hc2' (isC_l hi4) (by omega) (by simp) (fun i hi => by simp at hi)
          refine ⟨μ3, Fr.tr g3 g12, ?_⟩
          rw [show voF w (Kv w) (fuel - a.length - b.length - 1) = voF w (Kv w) (fuel - a.length - b.length - 1 - c.length + c.length) by rw [Nat.sub_add_cancel (by omega)]]
          unfold voR at r3
          rw [h42'] at r3
          rcases evR_cases (mI μ 42 w) hc2 with ⟨e5, e6⟩ | ⟨z, e5, e6⟩
          · rw [e5] at r3
            rw [e6]; exact r3
          · rw [e5] at r3
            obtain ⟨s3, q3⟩ := r3
            have hi5 := isC_r hi4
            rw [cdR_len] at hi5
            rw [e6]
            refine Eq.trans q3 ?_
            rw [show fuel - a.length - b.length - 1 - c.length = (fuel - a.length - b.length - 1 - c.length - 1) + 1 by omega, voF_s, vo_end _ hp2 hcs ((g3.R rfl).trans hp2') ((g3.I rfl).trans hc2') ((g3.I rfl).trans (isC_h hi5)) (Or.inl rfl) (by omega)]
            show Kv w (nI 1) μ3 = _
            rw [Kv_1, show mI μ3 43 w 0 = z from s3.top]; rfl
        · simp only [if_neg hxy]
          have hel := pl_elseBehind_e (L := 20004 :: cdR c) (R := cdL e t) hcs hc2' hi3' (fun z hz => by
            rcases List.mem_cons.mp hz with rfl | hz
            · decide
            · have := rpd_cd c _ _ hc2 z hz
              omega) (by simp [cdR_len]; omega)
          rw [hel, ob_some, j_max_e, ob_some]
          have hmx : (if nI (at_ + a.length + b.length) < nI (at_ + a.length + b.length + (20004 :: cdR c).length) then nI (at_ + a.length + b.length + (20004 :: cdR c).length) else nI (at_ + a.length + b.length)) = nI (at_ + a.length + b.length + (20004 :: cdR c).length) := if_pos (nI_lt (by simp) (by simp [cdR_len]; omega))
          rw [hmx, nI_add]
          have hi6 : isC (mI μ2 25 p) (at_ + a.length + b.length + (20004 :: cdR c).length + 1) (cdL e t) := isC_t (isC_r (A := 20004 :: cdR c) hi3')
          obtain ⟨μ3, g3, r3⟩ := vo_law hp2 hcs he t (fun q hq => hb q (List.mem_cons_of_mem _ hq)) μ2 (at_ + a.length + b.length + (20004 :: cdR c).length + 1) (fuel - a.length - b.length - 1) hp2' hc2' hi6 (by simp [cdR_len]; omega) (by omega)
          rw [h42'] at r3
          exact ⟨μ3, Fr.tr g3 g12, r3⟩
/-- the class' laws at row p -/
def LaC (μ : Mem) (p : Nat) (P : Pl) : Prop := ∃ cs : Nat, cs ≤ 408 ∧ mI μ 18 p 11 = nI cs ∧ ∀ k, k < 4 → ∃ s : Nat, mI μ 24 p k = nI s ∧ s + (cdL (pLaw P k).2 (pLaw P k).1).length ≤ cs ∧ isC (mI μ 25 p) s (cdL (pLaw P k).2 (pLaw P k).1)
theorem wo_valueOf_e {μ : Mem} {w p : Nat} {P : Pl} (hp : mR μ 31 w 0 = p) (hp2 : p < 2) (hk : PlOK P) (hL : LaC μ p P) {k : Nat} (h : k < 4) : ∃ μ', wo_valueOf w (nI k) μ = some (lawV (pLaw P k) (mI μ 42 w), μ') := by
  obtain ⟨cs, h1, h2, h3⟩ := hL
  obtain ⟨s, h4, h5, h6⟩ := h3 k h
  have ok := hk.2.2.2.2.2 k
  obtain ⟨μ', -, e⟩ := vo_law hp2 h1 ok.2 (pLaw P k).1 ok.1 μ s 60000 hp h2 h6 h5 (by omega)
  refine ⟨μ', ?_⟩
  unfold wo_valueOf
  simp (disch := omega) only [hp, hp2, inB_nI, cl_nI, h4, ↓reduceIte]
  exact e

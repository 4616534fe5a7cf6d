/-! the reference reads: names -/
def NmM (μ : Mem) (N : List (Nat × Nat)) : Prop := mI μ 55 0 20 = nI N.length ∧ ∀ (k : Nat) (q : Nat × Nat), N[k]? = some q → mL μ 63 0 k = oL ((q.1 : Nat) : Int) ∧ mI μ 64 0 k = nI q.2
theorem NmM.fr {μ μ' : Mem} {N : List (Nat × Nat)} {T : List At} (h : NmM μ N) (g : Fr T μ μ') (o : offR [63, 64] T = true) (k : inT T 55 0 20 = false) : NmM μ' N := ⟨(g.I k).trans h.1, fun k q hq => ⟨(g.L (offR_f o rfl _ _)).trans (h.2 k q hq).1, (g.I (offR_f o rfl _ _)).trans (h.2 k q hq).2⟩⟩
theorem NOK.at : ∀ {N : List (Nat × Nat)} {i j i' j' : Nat}, NOK i j N i' j' → ∀ q ∈ N, q.2 < i' ∨ q.2 < 10 + j'
  | [], i, j, i', j', h, q, hq => by cases hq
  | p :: t, i, j, i', j', h, q, hq => by
    rcases h with ⟨h1, h⟩ | ⟨h1, h⟩
    · rcases List.mem_cons.mp hq with rfl | hq
      · have := NOK.le h; omega
      · exact NOK.at h q hq
    · rcases List.mem_cons.mp hq with rfl | hq
      · have := NOK.le h; omega
      · exact NOK.at h q hq
theorem SgI.nm {Z : Tks} {s : Sg} (h : SgI Z s) : (yN s).length = (yC s).1 + (yC s).2.1 ∧ ∀ q ∈ yN s, q.1 < 1000000000000 ∧ q.2 < 16 := by
  obtain ⟨s0, s1, s2, s3, s4, -⟩ := h
  have len := (s3.len (by omega)).2.2
  refine ⟨by omega, fun q hq => ⟨s4 q hq, ?_⟩⟩
  have := s3.at q hq
  omega
theorem lkW_d (b v : Nat) {N : List (Nat × Nat)} {k : Nat} (h : k < N.length) : lkW b v (N.drop k) = if N[k].1 = v ∧ b ≤ N[k].2 ∧ N[k].2 < b + 10 then nI (N[k].2 - b) else lkW b v (N.drop (k + 1)) := by
  rw [List.drop_eq_getElem_cons h]
  rfl
theorem lg_is {a b : Nat} (ha : a < 1000000000000) (hb : b < 1000000000000) : (lg_cmp (oL (a : Int)) (oL (b : Int)) = nI 0) ↔ a = b := by
  rw [lg_eq, (oL_cmp ha hb).2]
theorem m_foundOf_e {μ : Mem} {N : List (Nat × Nat)} (h : NmM μ N) (hl : N.length ≤ 10) (hq : ∀ q ∈ N, q.1 < 1000000000000 ∧ q.2 < 16) {i v b : Nat} (hi : i ≤ 400) (hm : mL μ 61 0 i = oL ((v : Nat) : Int)) (hv : v < 1000000000000) (hb : b = 0 ∨ b = 10) : m_foundOf (nI i) (nI b) μ = some (lkW b v N, μ) := by
  unfold m_foundOf
  refine fixN_up (fun k (self : Int32 → Mem → Option (Int32 × Mem)) => self (nI k) μ = some (lkW b v (N.drop k), μ)) N.length ?_ ?_ 60000 0 (by omega) (by omega)
  · intro k self hk ih
    obtain ⟨f1, f2⟩ := h.2 k N[k] (List.getElem?_eq_getElem hk)
    obtain ⟨b1, b2⟩ := hq N[k] (List.getElem_mem hk)
    rw [lkW_d b v hk]
    unfold m_foundOf_B2
    rw [h.1, if_neg (nI_ge hk (by omega)), if_pos (inB_nI (by omega) (by omega)), if_pos (inB_nI (by omega) (by omega)), cl_nI (by omega), cl_nI (by omega), f1, hm, f2, nI_add, nI_add]
    by_cases c1 : N[k].1 = v
    · rw [if_pos ((lg_is b1 hv).mpr c1)]
      by_cases c2 : b ≤ N[k].2
      · rw [if_neg (nI_nlt c2 (by omega))]
        by_cases c3 : N[k].2 < b + 10
        · rw [if_neg (nI_ge c3 (by omega)), if_pos ⟨c1, c2, c3⟩, pk_sub c2]
        · rw [if_pos (nI_le (by omega) (by omega)), if_neg (fun z => c3 z.2.2)]
          exact ih
      · rw [if_pos (nI_lt (by omega) (by omega)), if_neg (fun z => c2 z.2.1)]
        exact ih
    · rw [if_neg (fun z => c1 ((lg_is b1 hv).mp z)), if_neg (fun z => c1 z.1)]
      exact ih
  · intro self
    unfold m_foundOf_B2
    rw [h.1, if_pos (Int32.le_refl _), List.drop_length]
    rfl
theorem lat_t (Z : Tks) (c i : Nat) (s : Sg) : lat Z c i (lat Z c i s) = lat Z c i s := by
  by_cases h : (yL s).1 = 0
  · by_cases hc : c = 0
    · unfold lat; rw [if_pos h]; subst hc; rfl
    · have := lat_nz (Z := Z) (i := i) (s := s) hc
      rw [show lat Z c i (lat Z c i s) = if (yL (lat Z c i s)).1 = 0 then (yT (lat Z c i s), (c, nI (tpl Z i)), yN (lat Z c i s), yC (lat Z c i s), yA (lat Z c i s), yW (lat Z c i s)) else lat Z c i s from rfl, if_neg this]
  · have e : lat Z c i s = s := if_neg h
    rw [e, e]
/-- an earlier later fault -/
def Lj (Z : Tks) (c i : Nat) (s : Sg) : Prop := (yL s).1 ≤ 6 ∧ ((yL s).1 ≠ 0 → ∃ j, (yL s).2 = nI (tpl Z j) ∧ (j < i ∨ (j = i ∧ (yL s).1 ≤ c)))
theorem Lj.la1 {Z : Tks} {c i : Nat} {s : Sg} (hc : c ≤ 6) (h : Lj Z c i s) : Lj Z c i (lat Z c i s) := by
  by_cases z : (yL s).1 = 0
  · have e : yL (lat Z c i s) = (c, nI (tpl Z i)) := by unfold lat; rw [if_pos z]; rfl
    unfold Lj
    rw [e]
    exact ⟨hc, fun _ => ⟨i, rfl, Or.inr ⟨rfl, Nat.le_refl _⟩⟩⟩
  · have e : lat Z c i s = s := if_neg z
    rw [e]; exact h
theorem SgI.lj {Z : Tks} {s : Sg} (h : SgI Z s) (c : Nat) {i : Nat} (hi : yT s ≤ i) : Lj Z c i s := ⟨h.2.2.2.2.2.1, fun z => by
  obtain ⟨j, a, b⟩ := h.2.2.2.2.2.2.1 z
  exact ⟨j, b, Or.inl (by omega)⟩⟩
theorem Lj.T {Z : Tks} {c i : Nat} {s : Sg} (h : Lj Z c i s) (t : Nat) : Lj Z c i (wyT s t) := h
def latB (Z : Tks) (c i : Nat) (b : Bool) (s : Sg) : Sg := if b = true then lat Z c i s else s
theorem m_named_er {φ : Nat × Int32} {μ : Mem} (h : ErM φ μ) (x : Int32) : m_named_L12 x (nI 0) μ = some (x, μ) := by
  unfold m_named_L12
  rw [show 60000 = 59999 + 1 from rfl, fixN_s]
  unfold m_named_B12
  by_cases c : mI μ 55 0 20 ≤ nI 0
  · rw [if_pos c]
  · rw [if_neg c, if_neg h.nz]
theorem m_named_e {Z : Tks} {μ : Mem} {e : Rs} (hz : ZOK Z) (h : RM Z e μ) (hn : ∀ s, e = .ok s → NmM μ (yN s)) : ∃ r μ', m_named μ = some (r, μ') ∧ RM Z (bG e (gNew Z)) μ' ∧ Fr TM μ μ' ∧ ∀ s q, e = .ok s → gNew Z s = .ok q → r = nI (yT s) := by
  obtain ⟨μ1, e1, r1, g1⟩ := m_must_e hz h (show 40 < 43 by omega) (show 1 = kM 40 from rfl)
  unfold m_named
  rw [ob_eq e1]
  rcases h.k with ⟨s, rfl, hc, hs⟩ | ⟨φ, rfl, hc⟩
  · have r1' : RM Z (gTake Z 40 s) μ1 := r1
    show ∃ r μ', _ ∧ RM Z (gNew Z s) μ' ∧ _
    unfold gNew
    rcases r1'.k with ⟨r, er, c1, hs1⟩ | ⟨φ, er, c1⟩
    · obtain ⟨rfl, k1, k2⟩ := gTake_ok er
      have n1 := (hn s rfl).fr g1 rfl rfl
      obtain ⟨nl, nq⟩ := hs.nm
      have s0 := hs.1
      have s1 := hs.2.1
      have v4 := hz.2.2.2.2.1 _ k2
      have t1 := hs.2.2.2.2.2.2.2.1
      have t2 := hs.2.2.2.2.2.2.2.2
      rw [hc.2.1, er]
      have main : ∃ μ', m_named_L12 (nI (yT s)) (nI 0) μ1 = some (nI (yT s), μ') ∧ CuM Z μ' (latB Z 3 (yT s) (inN (tvl Z (yT s)) (yN s)) (wyT s (yT s + 1))) ∧ Fr TM μ1 μ' := by
        unfold m_named_L12
        refine fixN_up (fun k (self : Int32 → Mem → Option (Int32 × Mem)) => ∀ ν, CuM Z ν (latB Z 3 (yT s) (inN (tvl Z (yT s)) ((yN s).take k)) (wyT s (yT s + 1))) → Fr TM μ1 ν → ∃ μ', self (nI k) ν = some (nI (yT s), μ') ∧ CuM Z μ' (latB Z 3 (yT s) (inN (tvl Z (yT s)) (yN s)) (wyT s (yT s + 1))) ∧ Fr TM μ1 μ') (yN s).length ?_ ?_ 60000 0 (by omega) (by omega) μ1 c1 (Fr.rf _ _)
        · intro k self hk ih ν hc2 g2
          have n2 := n1.fr g2 rfl rfl
          obtain ⟨f1, f2⟩ := n2.2 k (yN s)[k] (List.getElem?_eq_getElem hk)
          obtain ⟨b1, b2⟩ := nq (yN s)[k] (List.getElem_mem hk)
          have f3 : mL ν 61 0 (yT s) = oL ((tvl Z (yT s) : Nat) : Int) := (hc2.1 _ t2 t1).2.2.2 k2
          have tk : inN (tvl Z (yT s)) ((yN s).take (k + 1)) = (inN (tvl Z (yT s)) ((yN s).take k) || ((yN s)[k].1 == tvl Z (yT s))) := by
            rw [List.take_succ_eq_append_getElem hk]
            unfold inN
            rw [List.any_append]
            simp
          unfold m_named_B12
          rw [n2.1, if_neg (nI_ge hk (by omega)), hc2.2.2.1, if_pos rfl, if_pos (inB_nI (by omega) (by omega)), if_pos (inB_nI (by omega) (by omega)), cl_nI (by omega), cl_nI (by omega), f1, f3, nI_add]
          by_cases c2 : (yN s)[k].1 = tvl Z (yT s)
          · rw [if_pos ((lg_is b1 v4).mpr c2)]
            have lj : Lj Z 3 (yT s) (latB Z 3 (yT s) (inN (tvl Z (yT s)) ((yN s).take k)) (wyT s (yT s + 1))) := by
              have l0 : Lj Z 3 (yT s) (wyT s (yT s + 1)) := (hs.lj 3 (Nat.le_refl _)).T _
              unfold latB
              split
              · exact l0.la1 (by omega)
              · exact l0
            obtain ⟨ν2, e3, c3, g3⟩ := m_wrong_e hz hc2 lj.1 (c := 3) (i := yT s) (by omega) t1 t2 lj.2
            rw [ob_eq e3]
            refine ih ν2 ?_ (Fr.tr g3 g2)
            rw [tk, beq_iff_eq.mpr c2, Bool.or_true]
            have el : lat Z 3 (yT s) (latB Z 3 (yT s) (inN (tvl Z (yT s)) ((yN s).take k)) (wyT s (yT s + 1))) = latB Z 3 (yT s) true (wyT s (yT s + 1)) := by
              unfold latB
              split
              · rw [if_pos rfl]; exact lat_t _ _ _ _
              · rw [if_pos rfl]
            rw [el] at c3
            exact c3
          · rw [if_neg (fun z => c2 ((lg_is b1 v4).mp z))]
            refine ih ν ?_ g2
            rw [tk, beq_false_of_ne c2, Bool.or_false]
            exact hc2
        · intro self ν hc2 g2
          have n2 := n1.fr g2 rfl rfl
          unfold m_named_B12
          rw [n2.1, if_pos (Int32.le_refl _)]
          rw [List.take_length] at hc2
          exact ⟨ν, rfl, hc2, g2⟩
      obtain ⟨μ', e3, c3, g3⟩ := main
      refine ⟨nI (yT s), μ', e3, ?_, Fr.tr g3 g1, fun s' q e4 _ => by cases e4; rfl⟩
      have gn : gNew Z s = .ok (latB Z 3 (yT s) (inN (tvl Z (yT s)) (yN s)) (wyT s (yT s + 1))) := by
        unfold gNew
        rw [er]
        rfl
      have := (gNew_I hs gn).1
      exact ⟨c3, this⟩
    · rw [er, m_named_er c1]
      refine ⟨_, μ1, rfl, c1, g1, fun s' q e4 e5 => ?_⟩
      cases e4
      rw [er] at e5
      cases e5
  · rw [m_named_er r1]
    exact ⟨_, μ1, rfl, r1, g1, fun s q e4 => by cases e4⟩
theorem m_roomFor_e {Z : Tks} {μ : Mem} {s : Sg} (h : CuM Z μ s) (hs : SgI Z s) (k0 : tkd Z (yT s) ≠ 43) {n m : Nat} (hn : n < 100) (hm : m < 100) : ∃ μ', m_roomFor (nI n) (nI m) μ = some ((), μ') ∧ RM Z (if n = m then gFl Z 2 s else gPass Z s) μ' ∧ Fr TM μ μ' := by
  unfold m_roomFor
  by_cases c : n = m
  · obtain ⟨μ1, e1, c1, g1⟩ := m_fail_ok h hs (c := 2) (Or.inr rfl)
    rw [if_pos c, if_pos (congrArg nI c), ob_eq e1, if_neg c1.nz]
    exact ⟨μ1, rfl, c1, g1⟩
  · obtain ⟨μ1, e1, c1, g1⟩ := m_goesOn_e (e := .ok s) ⟨h, hs⟩ (fun r hr => by cases hr; exact k0)
    rw [if_neg c, if_neg (nI_ne c (by omega) (by omega)), h.2.2.1, if_pos rfl, ob_eq e1]
    exact ⟨μ1, rfl, c1, g1⟩
def TE : List At := [(55, none, some 11), (55, none, some 13), (55, none, some 14), (55, none, some 15), (55, none, some 16), (55, none, some 20), (63, none, none), (64, none, none)]
theorem TM_TE : Sb TM TE := sbc (sa_m 0 rfl) (sbc (sa_m 1 rfl) (sbc (sa_m 2 rfl) (sbc (sa_m 3 rfl) (sbc (sa_m 4 rfl) sbn))))
theorem m_endsName_e {Z : Tks} {μ : Mem} {e : Rs} {N : List (Nat × Nat)} {r : Int32} {v a : Nat} (hz : ZOK Z) (h : RM Z e μ) (hn : NmM μ N) (hl : N.length < 10) (ha : a < 100) (hr : ∀ s, e = .ok s → ∃ i, r = nI i ∧ i ≤ 400 ∧ i ≤ Z.1.length ∧ tkd Z i = 40 ∧ tvl Z i = v) : ∃ μ', m_endsName r (nI a) μ = some ((), μ') ∧ RM Z (bG e (gTake Z 30)) μ' ∧ Fr TE μ μ' ∧ ∀ q, bG e (gTake Z 30) = .ok q → NmM μ' (N ++ [(v, a)]) := by
  obtain ⟨μ1, e1, r1, g1⟩ := m_must_e hz h (show 30 < 43 by omega) (show 4 = kM 30 from rfl)
  unfold m_endsName
  rw [ob_eq e1]
  rcases r1.k with ⟨q, eq, c1, hs1⟩ | ⟨φ, eq, c1⟩
  · obtain ⟨s, es, et⟩ := bG_ok eq
    obtain ⟨i, rfl, i1, i2, i3, i4⟩ := hr s es
    have n1 := hn.fr g1 rfl rfl
    have f1 : mL μ1 61 0 i = oL ((v : Nat) : Int) := by rw [← i4]; exact (c1.1 i i2 i1).2.2.2 i3
    rw [c1.2.2.1, if_pos (Int32.le_refl _), if_pos (inB_nI (by omega) (by omega)), n1.1, if_pos (inB_nI (by omega) (by omega)), cl_nI (by omega), cl_nI (by omega), mb_e, f1]
    have f2 : mI (stL μ1 63 0 N.length (oL ((v : Nat) : Int))) 55 0 20 = nI N.length := n1.1
    have f3 : mI (stI (stL μ1 63 0 N.length (oL ((v : Nat) : Int))) 64 0 N.length (nI a)) 55 0 20 = nI N.length := by rw [mI_stI, if_neg (by omega)]; exact n1.1
    rw [f2, if_pos (inB_nI (by omega) (by omega)), cl_nI (by omega), mb_e, f3, nI_add]
    have g : Fr TE μ (stI (stI (stL μ1 63 0 N.length (oL ((v : Nat) : Int))) 64 0 N.length (nI a)) 55 0 20 (nI (N.length + 1))) := Fr.stI (Fr.stI (Fr.stL (g1.mono TM_TE) (iT 6 rfl inA_nn)) (iT 7 rfl inA_nn)) (iT 5 rfl inA_ns)
    have g2 : Fr [(55, none, some 20), (63, none, none), (64, none, none)] μ1 (stI (stI (stL μ1 63 0 N.length (oL ((v : Nat) : Int))) 64 0 N.length (nI a)) 55 0 20 (nI (N.length + 1))) := Fr.stI (Fr.stI (Fr.stL (Fr.rf _ _) (iT 1 rfl inA_nn)) (iT 2 rfl inA_nn)) (iT 0 rfl inA_ns)
    refine ⟨_, rfl, ?_, g, fun q _ => ⟨by rw [mI_stI, if_pos ⟨rfl, rfl, rfl⟩, List.length_append]; rfl, fun k p hp => ?_⟩⟩
    · rw [eq]
      exact ⟨c1.fr g2 rfl rfl rfl rfl rfl, hs1⟩
    · rw [mI_stI, if_neg (by omega), mI_stI, mL_stI, mL_stI, mL_stL]
      rcases Nat.lt_trichotomy k N.length with c | c | c
      · rw [List.getElem?_append_left c] at hp
        rw [if_neg (by omega), if_neg (by omega)]
        exact n1.2 k p hp
      · rw [List.getElem?_append_right (by omega), c, Nat.sub_self] at hp
        have : p = (v, a) := by simpa using hp.symm
        subst this
        rw [if_pos ⟨rfl, rfl, c⟩, if_pos ⟨rfl, rfl, c⟩]
        exact ⟨rfl, rfl⟩
      · rw [List.getElem?_eq_none (by simp; omega)] at hp
        cases hp
  · rw [if_neg c1.nle, eq]
    exact ⟨μ1, rfl, c1, g1.mono TM_TE, fun q e2 => by cases e2⟩
theorem m_known_e {Z : Tks} {μ : Mem} {e : Rs} {b : Nat} (hz : ZOK Z) (hb : b = 0 ∨ b = 10) (h : RM Z e μ) (hn : ∀ s, e = .ok s → NmM μ (yN s)) : ∃ r μ', m_known (nI b) μ = some (r, μ') ∧ RM Z (bG e (gKn Z b)) μ' ∧ Fr TM μ μ' ∧ ∀ s q, e = .ok s → gKn Z b s = .ok q → r = lkW b (tvl Z (yT s)) (yN s) := by
  obtain ⟨μ1, e1, r1, g1⟩ := m_must_e hz h (show 40 < 43 by omega) (show 1 = kM 40 from rfl)
  unfold m_known
  rw [ob_eq e1]
  rcases h.k with ⟨s, rfl, hc, hs⟩ | ⟨φ, rfl, hc⟩
  · have r1' : RM Z (gTake Z 40 s) μ1 := r1
    show ∃ r μ', _ ∧ RM Z (gKn Z b s) μ' ∧ _
    rcases r1'.k with ⟨r, er, c1, hs1⟩ | ⟨φ, er, c1⟩
    · obtain ⟨rfl, k1, k2⟩ := gTake_ok er
      have n1 := (hn s rfl).fr g1 rfl rfl
      obtain ⟨nl, nq⟩ := hs.nm
      have s0 := hs.1
      have s1 := hs.2.1
      have v4 := hz.2.2.2.2.1 _ k2
      have t1 := hs.2.2.2.2.2.2.2.1
      have t2 := hs.2.2.2.2.2.2.2.2
      have lk := lkW_c (v := tvl Z (yT s)) hs.2.2.2.1 (by omega) (by omega) hb
      have fo := m_foundOf_e n1 (by omega) nq (show yT s ≤ 400 from t1) ((c1.1 _ t2 t1).2.2.2 k2) v4 hb
      have vr : ∀ s' q, (Except.ok s : Rs) = .ok s' → gKn Z b s' = .ok q → lkW b (tvl Z (yT s)) (yN s) = lkW b (tvl Z (yT s')) (yN s') := fun s' q e4 _ => by cases e4; rfl
      rw [c1.2.2.1, if_pos (Int32.le_refl _), hc.2.1, ob_eq fo]
      by_cases c2 : lkW b (tvl Z (yT s)) (yN s) = -1
      · have lj : Lj Z 4 (yT s) (wyT s (yT s + 1)) := (hs.lj 4 (Nat.le_refl _)).T _
        obtain ⟨ν2, e3, c3, g3⟩ := m_wrong_e hz c1 lj.1 (c := 4) (i := yT s) (by omega) t1 t2 lj.2
        have gn : gKn Z b s = .ok (lat Z 4 (yT s) (wyT s (yT s + 1))) := by
          unfold gKn
          rw [er]
          show Except.ok (if _ then _ else _) = _
          rw [if_pos c2]
        rw [if_neg (by rw [c2]; decide), ob_eq e3, gn]
        refine ⟨_, ν2, rfl, ⟨c3, (gKn_I hs gn).1⟩, Fr.tr g3 g1, ?_⟩
        exact vr
      · have gn : gKn Z b s = .ok (wyT s (yT s + 1)) := by
          unfold gKn
          rw [er]
          show Except.ok (if _ then _ else _) = _
          rw [if_neg c2]
        rw [if_pos (by
          rcases lk with lk | ⟨k, h1, h2⟩
          · exact absurd lk c2
          · rw [h2]
            refine nI_le (Nat.zero_le _) ?_
            split at h1 <;> omega), gn]
        exact ⟨_, μ1, rfl, ⟨c1, hs1⟩, g1, vr⟩
    · have gn : gKn Z b s = .error φ := by
        unfold gKn
        rw [er]
        rfl
      rw [if_neg c1.nle, gn]
      exact ⟨_, μ1, rfl, c1, g1, fun s' q e4 e5 => by cases e4; rw [gn] at e5; cases e5⟩
  · have r1' : ErM φ μ1 := r1
    rw [if_neg r1'.nle]
    exact ⟨_, μ1, rfl, r1, g1, fun s q e4 => by cases e4⟩
theorem m_toTold_e {Z : Tks} {μ : Mem} {e : Rs} (hz : ZOK Z) (h : RM Z e μ) (hn : ∀ s, e = .ok s → NmM μ (yN s)) : ∃ r μ', m_toTold μ = some (r, μ') ∧ RM Z (bG e (gTo Z)) μ' ∧ Fr TM μ μ' ∧ ∀ s q, e = .ok s → gTo Z s = .ok q → r = toV Z s := by
  unfold m_toTold
  rcases h.k with ⟨s, rfl, hc, hs⟩ | ⟨φ, rfl, hc⟩
  · show ∃ r μ', _ ∧ RM Z (gTo Z s) μ' ∧ _
    rw [ob_eq (m_is_ok hc hs hz (show 10 < 44 by omega) (show 25 = kM 10 from rfl))]
    by_cases z : tkd Z (yT s) = 10
    · obtain ⟨μ1, e1, r1, g1⟩ := m_goesOn_e h (fun r hr => by cases hr; omega)
      have gn : gTo Z s = gPass Z s := by unfold gTo; rw [if_pos z]
      rw [decide_eq_true z, if_neg (show ¬ b01I true = nI 0 by decide), ob_eq e1, gn]
      exact ⟨_, μ1, rfl, r1, g1, fun s' q e4 _ => by cases e4; unfold toV; rw [if_pos z]⟩
    · obtain ⟨μ1, e1, r1, g1⟩ := m_must_e hz h (show 40 < 43 by omega) (show 1 = kM 40 from rfl)
      rw [decide_eq_false z, if_pos (show b01I false = nI 0 from rfl), ob_eq e1]
      have r1' : RM Z (gTake Z 40 s) μ1 := r1
      rcases r1'.k with ⟨r, er, c1, hs1⟩ | ⟨φ, er, c1⟩
      · obtain ⟨rfl, k1, k2⟩ := gTake_ok er
        have n1 := (hn s rfl).fr g1 rfl rfl
        obtain ⟨nl, nq⟩ := hs.nm
        have s0 := hs.1
        have s1 := hs.2.1
        have v4 := hz.2.2.2.2.1 _ k2
        have t1 := hs.2.2.2.2.2.2.2.1
        have t2 := hs.2.2.2.2.2.2.2.2
        have lk0 := lkW_c (b := 0) (v := tvl Z (yT s)) hs.2.2.2.1 (by omega) (by omega) (Or.inl rfl)
        have lk1 := lkW_c (b := 10) (v := tvl Z (yT s)) hs.2.2.2.1 (by omega) (by omega) (Or.inr rfl)
        have m1 := (c1.1 _ t2 t1).2.2.2 k2
        have fo0 := m_foundOf_e n1 (by omega) nq (show yT s ≤ 400 from t1) m1 v4 (b := 0) (Or.inl rfl)
        have fo1 := m_foundOf_e n1 (by omega) nq (show yT s ≤ 400 from t1) m1 v4 (b := 10) (Or.inr rfl)
        have pos : ∀ {b : Nat}, (b = 0 ∨ b = 10) → (lkW b (tvl Z (yT s)) (yN s) = -1 ∨ ∃ k, k < (if b = 0 then (yC s).1 else (yC s).2.1) ∧ lkW b (tvl Z (yT s)) (yN s) = nI k) → lkW b (tvl Z (yT s)) (yN s) ≠ -1 → nI 0 ≤ lkW b (tvl Z (yT s)) (yN s) := fun hb lk c2 => by
          rcases lk with lk | ⟨k, h1, h2⟩
          · exact absurd lk c2
          · rw [h2]
            refine nI_le (Nat.zero_le _) ?_
            split at h1 <;> omega
        have gn0 : gTo Z s = .ok (if lkW 0 (tvl Z (yT s)) (yN s) = -1 ∧ lkW 10 (tvl Z (yT s)) (yN s) = -1 then lat Z 4 (yT s) (wyT s (yT s + 1)) else wyT s (yT s + 1)) := by
          unfold gTo
          rw [if_neg z, er]
          rfl
        have vr : ∀ x, x = toV Z s → ∀ s' q, (Except.ok s : Rs) = .ok s' → gTo Z s' = .ok q → x = toV Z s' := fun x hx s' q e4 _ => by cases e4; exact hx
        rw [c1.2.2.1, if_pos (Int32.le_refl _), hc.2.1, ob_eq fo0, ob_eq fo1]
        by_cases c2 : lkW 0 (tvl Z (yT s)) (yN s) = -1
        · have tv : nI 10 + lkW 10 (tvl Z (yT s)) (yN s) = toV Z s := by unfold toV; rw [if_neg z, if_pos c2]
          have lt0 : lkW 0 (tvl Z (yT s)) (yN s) < nI 0 := by rw [c2]; decide
          rw [if_neg (show ¬ nI 0 ≤ lkW 0 (tvl Z (yT s)) (yN s) by rw [c2]; decide)]
          by_cases c3 : lkW 10 (tvl Z (yT s)) (yN s) = -1
          · have lj : Lj Z 4 (yT s) (wyT s (yT s + 1)) := (hs.lj 4 (Nat.le_refl _)).T _
            obtain ⟨ν2, e3, c4, g3⟩ := m_wrong_e hz c1 lj.1 (c := 4) (i := yT s) (by omega) t1 t2 lj.2
            rw [if_pos ⟨c2, c3⟩] at gn0
            rw [if_neg (show ¬ nI 0 ≤ lkW 10 (tvl Z (yT s)) (yN s) by rw [c3]; decide), ob_eq e3, if_pos lt0, gn0]
            exact ⟨_, ν2, rfl, ⟨c4, (gTo_I hs gn0).1⟩, Fr.tr g3 g1, vr _ tv⟩
          · rw [if_neg (fun y => c3 y.2)] at gn0
            rw [if_pos (pos (Or.inr rfl) lk1 c3), if_pos lt0, gn0]
            exact ⟨_, μ1, rfl, ⟨c1, hs1⟩, g1, vr _ tv⟩
        · have tv : lkW 0 (tvl Z (yT s)) (yN s) = toV Z s := by unfold toV; rw [if_neg z, if_neg c2]
          have p0 := pos (Or.inl rfl) lk0 c2
          rw [if_neg (fun y => c2 y.1)] at gn0
          rw [if_pos p0, if_neg (Int32.not_lt.mpr p0), gn0]
          exact ⟨_, μ1, rfl, ⟨c1, hs1⟩, g1, vr _ tv⟩
      · have gn : gTo Z s = .error φ := by
          unfold gTo
          rw [if_neg z, er]
          rfl
        rw [if_neg c1.nle, gn]
        exact ⟨_, μ1, rfl, c1, g1, fun s' q e4 e5 => by cases e4; rw [gn] at e5; cases e5⟩
  · rw [ob_eq (m_is_er hc _), if_pos rfl]
    obtain ⟨μ1, e1, r1, g1⟩ := m_must_e hz h (show 40 < 43 by omega) (show 1 = kM 40 from rfl)
    have r1' : ErM φ μ1 := r1
    rw [ob_eq e1, if_neg r1'.nle]
    exact ⟨_, μ1, rfl, r1, g1, fun s q e4 => by cases e4⟩

/-! rows of rows; constructors of nest mates -/
def newN (μ : Mem) (r : Nat) : Nat → Mem
  | 0 => μ
  | n + 1 => newC (newN μ r n) r
def multiC (μ : Mem) (r r2 n : Nat) : Mem := rowR (newN (newC μ r) r2 n) r (mC μ r) (fun j => if j < n then mC μ r2 + j else nul)
theorem newN_C (μ : Mem) {r : Nat} (hr : r ≠ 0) (q : Nat) : ∀ n, mC (newN μ r n) q = if q = r then mC μ r + n else if q = 0 then mC μ 0 + n else mC μ q
  | 0 => by
    show mC μ q = _
    by_cases h : q = r
    · rw [if_pos h, h]; rfl
    · rw [if_neg h]
      by_cases h0 : q = 0
      · rw [if_pos h0, h0]; rfl
      · rw [if_neg h0]
  | n + 1 => by
    show mC (newC (newN μ r n) r) q = _
    rw [mC_newC, newN_C μ hr r n, newN_C μ hr 0 n, newN_C μ hr q n, if_pos rfl, if_neg (Ne.symm hr), if_pos rfl]
    by_cases h : q = r
    · simp only [if_pos h]; omega
    · by_cases h0 : q = 0
      · simp only [if_neg h, if_pos h0]; omega
      · simp only [if_neg h, if_neg h0]
theorem newN_row (μ : Mem) {r : Nat} (hr : r ≠ 0) (r' i' : Nat) : ∀ n,
    (mI (newN μ r n) r' i' = if r' = r ∧ mC μ r ≤ i' ∧ i' < mC μ r + n then (fun _ => 0) else mI μ r' i') ∧
    (mL (newN μ r n) r' i' = if r' = r ∧ mC μ r ≤ i' ∧ i' < mC μ r + n then (fun _ => 0) else mL μ r' i') ∧
    (mR (newN μ r n) r' i' = if r' = r ∧ mC μ r ≤ i' ∧ i' < mC μ r + n then (fun _ => nul) else mR μ r' i')
  | 0 => by
    have h : ¬ (r' = r ∧ mC μ r ≤ i' ∧ i' < mC μ r + 0) := by omega
    rw [if_neg h, if_neg h, if_neg h]
    exact ⟨rfl, rfl, rfl⟩
  | n + 1 => by
    obtain ⟨h1, h2, h3⟩ := newN_row μ hr r' i' n
    have hc : mC (newN μ r n) r = mC μ r + n := by rw [newN_C μ hr, if_pos rfl]
    show mI (newC (newN μ r n) r) r' i' = _ ∧ mL (newC (newN μ r n) r) r' i' = _ ∧ mR (newC (newN μ r n) r) r' i' = _
    rw [mI_newC, mL_newC, mR_newC, hc, h1, h2, h3]
    by_cases e : r' = r ∧ i' = mC μ r + n
    · have e2 : r' = r ∧ mC μ r ≤ i' ∧ i' < mC μ r + (n + 1) := by omega
      simp only [if_pos e, if_pos e2, and_self]
    · by_cases e3 : r' = r ∧ mC μ r ≤ i' ∧ i' < mC μ r + n
      · have e2 : r' = r ∧ mC μ r ≤ i' ∧ i' < mC μ r + (n + 1) := by omega
        simp only [if_neg e, if_pos e2, if_pos e3, and_self]
      · have e2 : ¬ (r' = r ∧ mC μ r ≤ i' ∧ i' < mC μ r + (n + 1)) := by omega
        simp only [if_neg e, if_neg e2, if_neg e3, and_self]
section MultiRules
variable {md mdc md' k k2 pc ix : Nat} {ls : List (Nat × V)} {st As : List V} {μ : Mem} {nc ns : Nat} {Q Q' : Option V → Mem → Prop}
/-- the rows' cells are the ones that are due -/
def dueM (md : Nat) (μ : Mem) (r r2 n : Nat) : Prop := 10 ≤ r2 ∧ r2 < 104 ∧ r ≠ r2 ∧ mC μ r2 + n ≤ cap r2 ∧ ∀ j, j < n → ord r2 (mC μ r2 + j) = mC μ 0 + 1 + j
theorem outerV (c : ClassId) (N h0 : Nat) : ∀ i : Nat, Jvm.Free.Multi.outerC c N h0 i = arrV c N (fun j => va_rf (if j < i then some (h0 + 1 + j) else none))
  | 0 => by
    show ({ cls := c, slots := Array.replicate N .null, vm := .none } : Cell) = _
    rw [arrV_new]
    exact congrArg (arrV c N) (funext fun j => by simp [va_rf])
  | i + 1 => by
    show (Jvm.Free.Multi.outerC c N h0 i).setSlot i (.ref (h0 + 1 + i)) = _
    rw [outerV c N h0 i, arrV_store]
    refine congrArg (arrV c N) (funext fun j => ?_)
    unfold updV
    by_cases e : j = i
    · rw [if_pos e, if_pos (by omega), e]; rfl
    · rw [if_neg e]
      show va_rf (if j < i then some (h0 + 1 + j) else none) = _
      by_cases h : j < i
      · rw [if_pos h, if_pos (by omega)]
      · rw [if_neg h, if_neg (by omega)]
theorem w_multi {r r2 : Nat} {n w : Int32} (hd : decode (mB k) pc = .ok (.multianewarray ix 2, 4)) (hr : rkd r = 15 ∨ rkd r = 16) (hr2 : rkd r2 + 5 = rkd r) (hrel : rel r 0 = r2)
    (hw : Cond.classLink (oNm (mOwn k)) ix ("[" ++ (FieldType.array (ety (rkd r2 - 10))).toString) ∈ lwG ∧ Cond.arrayClass (ety (rkd r2 - 10)) ∈ lwG) (hn : ¬ n < 0) (hk : ¬ w < 0) (hN : n.toNatClampNeg = rsz r) (hK : w.toNatClampNeg = rsz r2) (hD : dueC md μ r) (hM : dueM md μ r r2 (rsz r))
    (h1 : nc + (1 + rsz r) ≤ mAc k) (h2 : ns + (rsz r + rsz r * rsz r2) ≤ mAs k)
    (kk : Wp md md' k (pc + 4) ls (vr r (mC μ r) :: st) (multiC μ r r2 (rsz r)) (nc + 1 + rsz r) (ns + rsz r + rsz r * rsz r2) Q) : Wp md md' k pc ls (vi w :: vi n :: st) μ nc ns Q := by
  intro G p l e R s m args below meth c H locs als C h hl T hT X
  obtain ⟨r1, r2', r3, r4⟩ := C.2.2.2.2.2.2.2.2.1
  obtain ⟨m1, m2, m3, m4, m5⟩ := hM
  obtain ⟨d1, d2, d3, d4, d5⟩ := id hD
  have a1 := rsz_le r d2
  have a2 := rsz_le r2 m2
  have hty : ety (rkd r - 10) = .array (ety (rkd r2 - 10)) := by
    rcases hr with z | z
    · rw [z, show rkd r2 = 10 by omega]; rfl
    · rw [z, show rkd r2 = 11 by omega]; rfl
  have hov : (Cond.arrayOver (.array (ety (rkd r2 - 10)))).before args s = true := by
    rcases hr with z | z
    · rw [show rkd r2 = 10 by omega]; exact C.kg.2.2.2.1
    · rw [show rkd r2 = 11 by omega]; exact C.kg.2.2.2.2
  have hcb : componentBytes (ety (rkd r2 - 10)) ≤ 8 := by
    rcases hr with z | z
    · rw [show rkd r2 = 10 by omega]; decide
    · rw [show rkd r2 = 11 by omega]; decide
  have hfit : fits (ety (rkd r2 - 10)) (defaultValue (ety (rkd r2 - 10))) = true ∧ (defaultValue (ety (rkd r2 - 10))).isDefault = true := by
    rcases hr with z | z
    · rw [show rkd r2 = 10 by omega]; exact ⟨by decide, by decide⟩
    · rw [show rkd r2 = 11 by omega]; exact ⟨by decide, by decide⟩
  obtain ⟨vm₁, cA, comp, -, fA, fC, hO, -, X', step⟩ := X.multianewarray2F C.1 C.own (C.hts _ hw.1) hov (C.hts _ hw.2) (g := F0 m pc als (.int w :: .int n :: st.map (cv G))) rfl (by rw [C.2.1]; exact hd) rfl hn hk (by rw [hN]; omega) (by rw [hK]; exact Nat.le_trans (Nat.mul_le_mul a2 hcb) (by decide)) (by rw [hK]; omega) hfit.1 hfit.2
    (by rw [hN]; exact Nat.le_trans h1 r3) (by rw [hN, hK]; exact Nat.le_trans h2 r4)
  rw [hN, hK] at X' step
  generalize hF : Jvm.Free.Multi.fill (T.setVm vm₁) cA comp (rsz r) (rsz r2) (defaultValue (ety (rkd r2 - 10))) (rsz r) = F at X' step
  have hTh : (T.setVm vm₁).heap = H := hT
  obtain ⟨f1, f2, -, -⟩ := Jvm.Free.Multi.fill_facts (T.setVm vm₁) cA comp (rsz r) (rsz r2) (defaultValue (ety (rkd r2 - 10))) (rsz r)
  rw [hF, hTh] at f1 f2
  have hold : ∀ x : Nat, x < H.size → F.heap[x]? = H[x]? := fun x hx => by
    have := Jvm.Free.Multi.fill_old (T.setVm vm₁) cA comp (rsz r) (rsz r2) (defaultValue (ety (rkd r2 - 10))) (a := x) (by rw [hTh]; exact hx) (rsz r)
    rw [hF, hTh] at this
    exact this
  have hrow : ∀ j : Nat, j < rsz r → F.heap[H.size + 1 + j]? = some (arrV comp (rsz r2) (fun _ => defaultValue (ety (rkd r2 - 10)))) := fun j hj => by
    have := Jvm.Free.Multi.fill_inner (T.setVm vm₁) cA comp (rsz r) (rsz r2) (defaultValue (ety (rkd r2 - 10))) (rsz r) j hj
    rw [hF, hTh] at this
    rw [this, ← arrV_new]
    rfl
  rw [outerV] at f2
  have hs := h.1.1
  have q1 := (C.kg.1.2 _ _ (tys_at G (show rkd r - 10 < 7 by omega))).2
  have q2 := (C.kg.1.2 _ _ (tys_at G (show rkd r2 - 10 < 7 by omega))).2
  have hcA : G.2.2.2.1 (rkd r - 10) = cA := by
    rw [hty] at q1
    exact Option.some.inj (q1.symm.trans fA)
  have hcC : G.2.2.2.1 (rkd r2 - 10) = comp := by
    refine Option.some.inj (Eq.trans (Eq.symm ?_) fC)
    rcases hr with z | z
    · rw [show rkd r2 = 10 by omega] at q2 ⊢; exact q2
    · rw [show rkd r2 = 11 by omega] at q2 ⊢; exact q2
  -- the new memory
  have hc2 : mC (newC μ r) r2 = mC μ r2 := by rw [mC_newC, if_neg (by omega), if_neg (by omega)]
  have hc0 : mC (newC μ r) 0 = mC μ 0 + 1 := by rw [mC_newC, if_neg (by omega), if_pos rfl]
  have hC : ∀ q, mC (multiC μ r r2 (rsz r)) q = if q = r2 then mC μ r2 + rsz r else if q = 0 then mC μ 0 + 1 + rsz r else if q = r then mC μ r + 1 else mC μ q := by
    intro q
    show mC (newN (newC μ r) r2 (rsz r)) q = _
    rw [newN_C _ (show r2 ≠ 0 by omega), hc2, hc0, mC_newC μ r q]
    by_cases e1 : q = r2
    · simp only [if_pos e1]
    · by_cases e2 : q = 0
      · simp only [if_neg e1, if_pos e2]
      · by_cases e3 : q = r
        · simp only [if_neg e1, if_neg e2, if_pos e3]
        · simp only [if_neg e1, if_neg e2, if_neg e3]
  have hrows := fun r' i' => newN_row (newC μ r) (show r2 ≠ 0 by omega) r' i' (rsz r)
  have hR : Rep G md (multiC μ r r2 (rsz r)) F.heap := by
    refine ⟨by rw [f1, hs, hC, if_neg (by omega), if_pos rfl]; omega, fun r' i' hr' hi' => ?_⟩
    rw [hC] at hi'
    rw [hC 0, if_neg (by omega), if_pos rfl]
    by_cases e1 : r' = r2 ∧ mC μ r2 ≤ i'
    · obtain ⟨rfl, e1⟩ := e1
      rw [if_pos rfl] at hi'
      have hj : i' - mC μ r' < rsz r := by omega
      have ho := m5 (i' - mC μ r') hj
      rw [show mC μ r' + (i' - mC μ r') = i' by omega] at ho
      refine ⟨m2, by omega, by omega, ?_⟩
      rw [ad_ge hr', ho, ent_arr (by omega), hcC]
      show F.heap[G.1 + (mC μ 0 + 1 + (i' - mC μ r'))]? = some (vp_cell comp (arrE G md _ r' i'))
      rw [show G.1 + (mC μ 0 + 1 + (i' - mC μ r')) = H.size + 1 + (i' - mC μ r') by omega, hrow _ hj]
      have hI : mI (multiC μ r r' (rsz r)) r' i' = fun _ => 0 := by
        show mI (newN (newC μ r) r' (rsz r)) r' i' = _
        rw [(hrows r' i').1, hc2, if_pos (by omega)]
      have hL : mL (multiC μ r r' (rsz r)) r' i' = fun _ => 0 := by
        show mL (newN (newC μ r) r' (rsz r)) r' i' = _
        rw [(hrows r' i').2.1, hc2, if_pos (by omega)]
      unfold arrE
      rw [hI, hL]
      rcases hr with z | z
      · rw [show rkd r' = 10 by omega]; rfl
      · rw [show rkd r' = 11 by omega]; rfl
    · by_cases e2 : r' = r ∧ i' = mC μ r
      · obtain ⟨rfl, rfl⟩ := e2
        refine ⟨d2, d3, by omega, ?_⟩
        rw [ad_ge hr', d4, ← hs, ent_arr (by omega), hcA]
        show F.heap[H.size]? = some (vp_cell cA (arrE G md _ r' (mC μ r')))
        rw [f2]
        have hA : arrE G md (multiC μ r' r2 (rsz r')) r' (mC μ r') = (rsz r', .inr (.inr (.inr (.inr (fun j => rfv G r2 (if j < rsz r' then mC μ r2 + j else nul)))))) := by
          unfold arrE
          rw [if_neg (by omega), if_neg (by omega), hrel]
          have : ∀ j, refI md (multiC μ r' r2 (rsz r')) r' (mC μ r') j = if j < rsz r' then mC μ r2 + j else nul := fun j => by
            unfold refI
            rw [if_neg (fun z => by rcases d5 j with q | q <;> omega)]
            show mR (rowR _ _ _ _) _ _ _ = _
            rw [mR_rowR, if_pos ⟨rfl, rfl⟩]
          simp only [this]
        rw [hA, vp_cell_q]
        refine congrArg some (congrArg (arrV _ _) (funext fun j => ?_))
        refine congrArg va_rf ?_
        by_cases hj : j < rsz r'
        · rw [if_pos hj, if_pos hj]
          unfold rfv
          have := cap_le r2 m2
          rw [if_neg (by unfold nul; omega), ad_ge m1, m5 j hj, hs]
          exact congrArg some (by omega)
        · rw [if_neg hj, if_neg hj]
          unfold rfv
          rw [if_pos rfl]
      · have hi2 : i' < mC μ r' := by
          by_cases z1 : r' = r2
          · subst z1
            have : ¬ mC μ r' ≤ i' := fun z => e1 ⟨rfl, z⟩
            omega
          · rw [if_neg z1, if_neg (by omega)] at hi'
            by_cases z2 : r' = r
            · subst z2
              rw [if_pos rfl] at hi'
              have : i' ≠ mC μ r' := fun z => e2 ⟨rfl, z⟩
              omega
            · rw [if_neg z2] at hi'; exact hi'
        obtain ⟨b1, b2, b3, b4⟩ := h.1.2 r' i' hr' hi2
        refine ⟨b1, b2, by omega, ?_⟩
        have he : ent G md (multiC μ r r2 (rsz r)) r' i' = ent G md μ r' i' := by
          have n1 : ¬ (r' = r2 ∧ mC (newC μ r) r2 ≤ i' ∧ i' < mC (newC μ r) r2 + rsz r) := by rw [hc2]; exact fun z => e1 ⟨z.1, z.2.1⟩
          refine ent_of_rows ?_ ?_ ?_
          · show mI (newN (newC μ r) r2 (rsz r)) r' i' = _
            rw [(hrows r' i').1, if_neg n1, mI_newC, if_neg e2]
          · show mL (newN (newC μ r) r2 (rsz r)) r' i' = _
            rw [(hrows r' i').2.1, if_neg n1, mL_newC, if_neg e2]
          · show mR (rowR _ _ _ _) r' i' = _
            rw [mR_rowR, if_neg e2, (hrows r' i').2.2, if_neg n1, mR_newC, if_neg e2]
        rw [he]
        refine va_at.kept b4 (hold _ ?_)
        show ad G r' i' < H.size
        rw [ad_ge hr']
        omega
  have hq : ad G r (mC μ r) = H.size := by rw [ad_ge d1, d4, hs]
  have hv : cv G (vr r (mC μ r)) = .ref H.size := by
    simp only [cv, vr]
    rw [hR.rf d1 (by rw [hC, if_neg m3, if_neg (by omega), if_pos rfl]; omega), hq]
    rfl
  have hS : va_S (fun q => G.1 ≤ q) s.heap F.heap locs := ⟨Nat.le_trans h.2.1 (by omega), fun q a b => (hold q (Nat.lt_of_lt_of_le a h.2.1)).trans (h.2.2.1 q a b), h.2.2.2⟩
  have hfin := kk G p l e R s m args below meth c F.heap locs als C ⟨hR, hS⟩ hl
  rw [List.map_cons, hv] at hfin
  obtain ⟨t, x1, x2⟩ := hfin F rfl X'
  rw [hT] at step
  exact ⟨t, step t x1, x2⟩
theorem w_initN {r i : Nat} {host : String} (hd : decode (mB k) pc = .ok (.invokespecial ix, 3)) (hm : mOK k2) (hw : Cond.methodLinkNest (oNm (mOwn k)) ix (mY k2) host ∈ nestW) (hs : Cond.instanceMethod (mY k2) ∈ lwG) (hy : (mY k2).name = "<init>") (hv : mRet k2 = none) (h10 : 10 ≤ r) (hi : i < mC μ r)
    (hn : As.length = mArg k2) (hR : roomOK k k2 nc ns st (vr r i :: As))
    (hc : Wp md mdc k2 0 (largs 0 (vr r i :: As)) [] μ 0 0 (fun r μ' => Wp mdc md' k (pc + 3) ls (r.toList ++ st) μ' (nc + mAc k2) (ns + mAs k2) Q)) : Wp md md' k pc ls (As.reverse ++ vr r i :: st) μ nc ns Q := by
  intro G p l e R s m args below meth c H locs als C h hl
  obtain ⟨r1, r2, r3, r4⟩ := C.2.2.2.2.2.2.2.2.1
  have hq : cv G (vr r i) = .ref (ad G r i) := by simp only [cv, vr, h.1.rf h10 hi, va_rf]
  have hM := met_of hm hR.2.2.2.2.2 hc G l
  have hP := pre_at (md := md) C h (vr r i :: As)
  simp only [List.map_append, List.map_reverse, List.map_cons, hq] at hP ⊢
  have hg : GoodIn lwG (wsM k2) := lwG_in fun w h => by
    rcases List.mem_cons.mp h with e | e
    · rw [e]; exact hm.2.2.1
    · exact e
  have hC : va_CN R s args (oNm (mOwn k)) ix (mY k2) host (mB k2) (mLoc k2) none (wsM k2) (rmM k2) (mAc k2) (mAs k2) (mArg k2) := by
    have := va_cnB (own := oNm (mOwn k)) (host := host) (index := ix) (R := R) (mArg k2) C.hts hg (show wsM k2 = Cond.code (mY k2) (mB k2) (mLoc k2) (mRet k2) :: lwG from rfl) (rm := rmM k2) rfl rfl (C.kg.2.1 _ hw) (C.hts _ hm.2.2.2.1) ⟨hm.2.2.2.2.1.1, hm.2.2.2.2.1.2, hm.2.2.2.2.2⟩ ⟨Nat.le_trans hR.1 r1, Nat.le_trans hR.2.1 r2⟩
    rw [hv] at this
    exact this
  have hr := va_runIN (meth := meth) (l := l) (e := e) (below := below) (H := H) (locs := locs) (cells := nc) (slots := ns) (g := F0 m pc als ((As.map (cv G)).reverse ++ .ref (ad G r i) :: st.map (cv G))) (rest := st.map (cv G)) (fix_of C) hM ⟨hC, hy, C.hts _ hs⟩ ⟨PcW_blind G md μ _, hP⟩ rfl (by rw [List.length_map]; exact hn) hl.1 rfl
    (by show 2 * 0 + _ ≤ 8; rw [cat_map]; have := hR.2.2.2.2.1; omega) hd ⟨Nat.le_trans hR.2.2.1 r3, Nat.le_trans hR.2.2.2.1 r4⟩
  exact w_back C h hl hr (fun r μ' q => q)
end MultiRules

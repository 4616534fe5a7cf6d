/-! making objects and arrays, copying, the empty constructor -/
section AllocRules
variable {md md' k k2 pc ix : Nat} {ls : List (Nat × V)} {st As : List V} {μ : Mem} {nc ns : Nat} {Q Q' : Option V → Mem → Prop}
theorem mC_newC (μ : Mem) (r q : Nat) : mC (newC μ r) q = if q = r then mC μ r + 1 else if q = 0 then mC μ 0 + 1 else mC μ q := rfl
theorem mI_newC (μ : Mem) (r r' i' : Nat) : mI (newC μ r) r' i' = if r' = r ∧ i' = mC μ r then (fun _ => 0) else mI μ r' i' := rfl
theorem mL_newC (μ : Mem) (r r' i' : Nat) : mL (newC μ r) r' i' = if r' = r ∧ i' = mC μ r then (fun _ => 0) else mL μ r' i' := rfl
theorem mR_newC (μ : Mem) (r r' i' : Nat) : mR (newC μ r) r' i' = if r' = r ∧ i' = mC μ r then (fun _ => nul) else mR μ r' i' := rfl
theorem ent_newC {G : GC} {μ : Mem} {r r' i' : Nat} (h : ¬ (r' = r ∧ i' = mC μ r)) : ent G md (newC μ r) r' i' = ent G md μ r' i' :=
  ent_of_rows (by rw [mI_newC, if_neg h]) (by rw [mL_newC, if_neg h]) (by rw [mR_newC, if_neg h])
/-- the next cell is the one that is due, and none of its references is fixed yet -/
def dueC (md : Nat) (μ : Mem) (r : Nat) : Prop := 10 ≤ r ∧ r < 104 ∧ mC μ r < cap r ∧ ord r (mC μ r) = mC μ 0 ∧ ∀ j, isS r j = 0 ∨ md < isS r j
theorem Rep.grow {G : GC} {H H' : Heap} {r : Nat} (h : Rep G md μ H) (hd : dueC md μ r) (hz : H'.size = H.size + 1) (ho : ∀ q : Nat, q < H.size → H'[q]? = H[q]?) (hn : va_at G.2.2.1 vwCl (H.size, ent G md (newC μ r) r (mC μ r)) H') : Rep G md (newC μ r) H' := by
  obtain ⟨d1, d2, d3, d4, -⟩ := hd
  have hs := h.1
  refine ⟨by rw [hz, hs, mC_newC, if_neg (by omega), if_pos rfl]; omega, fun r' i' hr' hi' => ?_⟩
  have h0 : mC (newC μ r) 0 = mC μ 0 + 1 := by rw [mC_newC, if_neg (by omega), if_pos rfl]
  rw [h0]
  by_cases e : r' = r ∧ i' = mC μ r
  · obtain ⟨rfl, rfl⟩ := e
    refine ⟨d2, d3, by omega, ?_⟩
    rw [ad_ge hr', d4, ← hs]
    exact hn
  · have hi2 : i' < mC μ r' := by
      rw [mC_newC] at hi'
      by_cases q : r' = r
      · subst q
        rw [if_pos rfl] at hi'
        have : i' ≠ mC μ r' := fun z => e ⟨rfl, z⟩
        omega
      · rw [if_neg q, if_neg (by omega)] at hi'
        exact hi'
    obtain ⟨a1, a2, a3, a4⟩ := h.2 r' i' hr' hi2
    refine ⟨a1, a2, by omega, ?_⟩
    rw [ent_newC e]
    refine va_at.kept a4 (ho _ ?_)
    show ad G r' i' < H.size
    rw [ad_ge hr', hs]
    omega
theorem refI_due {r : Nat} (hd : dueC md μ r) (j : Nat) : refI md (newC μ r) r (mC μ r) j = nul := by
  have h := hd.2.2.2.2 j
  unfold refI
  rw [if_neg (fun z => by rcases h with q | q <;> omega), mR_newC, if_pos ⟨rfl, rfl⟩]
theorem def_ok : ∀ c, c < 10 → ∀ j, j < clN c → defaultValue (clTy c j) = (match kty (clTy c j) with | 0 => .int 0 | 1 => .long 0 | _ => .null) := by decide +kernel
theorem slot_new {G : GC} {r : Nat} (hd : dueC md μ r) (hr : rkd r < 10) {j : Nat} (hj : j < clN (rkd r)) : slotV G md (newC μ r) r (mC μ r) j = defaultValue (clTy (rkd r) j) := by
  rw [def_ok _ hr j hj]
  unfold slotV
  rw [mI_newC, mL_newC, if_pos ⟨rfl, rfl⟩, if_pos ⟨rfl, rfl⟩, refI_due hd]
  have : va_rf (rfv G (rel r j) nul) = .null := by unfold rfv; rw [if_pos rfl]; rfl
  rw [this]
  generalize kty (clTy (rkd r) j) = t
  match t with
  | 0 => rfl
  | 1 => rfl
  | _ + 2 => rfl
theorem S_grow {G : GC} {s : State} {H H' : Heap} {locs : List Loc} (h : va_S (fun q => G.1 ≤ q) s.heap H locs) (hb : G.1 ≤ s.heap.size) (hz : H'.size = H.size + 1) (ho : ∀ q : Nat, q < H.size → H'[q]? = H[q]?) : va_S (fun q => G.1 ≤ q) s.heap H' locs :=
  ⟨Nat.le_trans h.1 (by omega), fun q a b => (ho q (Nat.lt_of_lt_of_le a h.1)).trans (h.2.1 q a b), h.2.2⟩
theorem w_new {r : Nat} (hd : decode (mB k) pc = .ok (.new ix, 3)) (hr : rkd r < 10) (hw : Cond.classLink (oNm (mOwn k)) ix (oNm (rkd r)) ∈ lwG ∧ Cond.instantiable (oNm (rkd r)) (clN (rkd r)) ∈ lwG ∧ Cond.initialized (oNm (rkd r)) ∈ lwG) (hD : dueC md μ r) (h1 : nc + 1 ≤ mAc k) (h2 : ns + rsz r ≤ mAs k)
    (kk : Wp md md' k (pc + 3) ls (vr r (mC μ r) :: st) (newC μ r) (nc + 1) (ns + rsz r) Q) : Wp md md' k pc ls st μ nc ns Q := by
  intro G p l e R s m args below meth c H locs als C h hl
  obtain ⟨r1, r2, r3, r4⟩ := C.2.2.2.2.2.2.2.2.1
  have hsz := rsz_cl r hD.2.1 hr
  have hKn := C.kg.1.1 _ _ (vw_at _ hr)
  rw [hsz] at h2 kk
  refine W.newcK C.1 C.2.1 C.own (C.hts _ hw.1) (C.hts _ hw.2.1) (C.hts _ hw.2.2) rfl hd (Nat.le_trans h1 r3) (Nat.le_trans h2 r4) hKn.2.1 rfl fun H1 kC hkC e1 z1 o1 => ?_
  have hR : Rep G md (newC μ r) H1 := h.1.grow hD z1 o1 (by
    rw [ent_obj hr]
    refine ⟨_, vw_at _ hr, (u_born (clTy (rkd r)) C.hts (lay_in hr) hKn hkC e1 (ty_all _ hr)).to fun j hj => ?_⟩
    unfold vp_V
    simp only [List.getD, map_range_get _ (show j < rsz r by rw [hsz]; exact hj), Option.getD_some]
    exact (slot_new hD hr hj).symm)
  have hq : ad G r (mC μ r) = H.size := by rw [ad_ge hD.1, hD.2.2.2.1, h.1.1]
  have hv : cv G (vr r (mC μ r)) = .ref H.size := by
    simp only [cv, vr]
    rw [hR.rf hD.1 (by rw [mC_newC, if_pos rfl]; omega), hq]
    rfl
  have := kk G p l e R s m args below meth c H1 locs als C ⟨hR, S_grow h.2 C.2.2.2.2.2.2.2.2.2.2.1 z1 o1⟩ hl
  rw [List.map_cons, hv] at this
  exact this
theorem rsz_le : ∀ r, r < 104 → rsz r ≤ 2000 := by decide +kernel
theorem w_newarray {r : Nat} {at' : ArrayType} {n : Int32} (hd : decode (mB k) pc = .ok (.newarray at', 2)) (hr : 10 ≤ rkd r ∧ rkd r ≤ 13) (ht : newarray.typeOf at' = ety (rkd r - 10)) (hw : Cond.arrayClass (ety (rkd r - 10)) ∈ lwG) (hn : ¬ n < 0) (hN : n.toNatClampNeg = rsz r) (hD : dueC md μ r) (h1 : nc + 1 ≤ mAc k) (h2 : ns + rsz r ≤ mAs k)
    (kk : Wp md md' k (pc + 2) ls (vr r (mC μ r) :: st) (newC μ r) (nc + 1) (ns + rsz r) Q) : Wp md md' k pc ls (vi n :: st) μ nc ns Q := by
  intro G p l e R s m args below meth c H locs als C h hl
  obtain ⟨r1, r2, r3, r4⟩ := C.2.2.2.2.2.2.2.2.1
  have hb : rsz r * componentBytes (newarray.typeOf at') ≤ 536870912 := by
    have a := rsz_le r hD.2.1
    have b : componentBytes (newarray.typeOf at') ≤ 8 := by cases at' <;> decide
    exact Nat.le_trans (Nat.mul_le_mul a b) (by decide)
  refine va_newaK C.1 C.2.1 (by rw [ht]; exact C.hts _ hw) rfl hd rfl hn hN hb (Nat.le_trans h1 r3) (Nat.le_trans h2 r4) rfl fun H1 cA e1 z1 o1 hAr hNm => ?_
  rw [ht] at e1 hAr hNm
  have hj : rkd r - 10 < 7 := by omega
  have hT := (C.kg.1.2 _ _ (tys_at G hj)).2
  have hcA : G.2.2.2.1 (rkd r - 10) = cA := by
    have a : s.vm.findClass ("[" ++ (ety (rkd r - 10)).toString) = some (G.2.2.2.1 (rkd r - 10)) := by
      rcases (show rkd r = 10 ∨ rkd r = 11 ∨ rkd r = 12 ∨ rkd r = 13 by omega) with z | z | z | z <;> rw [z] at hT ⊢ <;> exact hT
    exact Option.some.inj (a.symm.trans hNm)
  have hR : Rep G md (newC μ r) H1 := h.1.grow hD z1 o1 (by
    rw [ent_arr hr.1, hcA]
    show H1[H.size]? = some (vp_cell cA (arrE G md (newC μ r) r (mC μ r)))
    rw [e1]
    have hI : mI (newC μ r) r (mC μ r) = fun _ => 0 := by rw [mI_newC, if_pos ⟨rfl, rfl⟩]
    have hL : mL (newC μ r) r (mC μ r) = fun _ => 0 := by rw [mL_newC, if_pos ⟨rfl, rfl⟩]
    unfold arrE
    rw [hI, hL]
    rcases (show rkd r = 10 ∨ rkd r = 11 ∨ rkd r = 12 ∨ rkd r = 13 by omega) with z | z | z | z <;> rw [z] <;> rfl)
  have hq : ad G r (mC μ r) = H.size := by rw [ad_ge hD.1, hD.2.2.2.1, h.1.1]
  have hv : cv G (vr r (mC μ r)) = .ref H.size := by
    simp only [cv, vr]
    rw [hR.rf hD.1 (by rw [mC_newC, if_pos rfl]; omega), hq]
    rfl
  have := kk G p l e R s m args below meth c H1 locs als C ⟨hR, S_grow h.2 C.2.2.2.2.2.2.2.2.2.2.1 z1 o1⟩ hl
  rw [List.map_cons, hv] at this
  exact this
theorem w_anewarray {r : Nat} {n : Int32} (hd : decode (mB k) pc = .ok (.anewarray ix, 3)) (hr : rkd r = 14) (hw : Cond.classLink (oNm (mOwn k)) ix "SluiceLogs$State" ∈ lwG) (hn : ¬ n < 0) (hN : n.toNatClampNeg = rsz r) (hD : dueC md μ r) (h1 : nc + 1 ≤ mAc k) (h2 : ns + rsz r ≤ mAs k)
    (kk : Wp md md' k (pc + 3) ls (vr r (mC μ r) :: st) (newC μ r) (nc + 1) (ns + rsz r) Q) : Wp md md' k pc ls (vi n :: st) μ nc ns Q := by
  intro G p l e R s m args below meth c H locs als C h hl
  obtain ⟨r1, r2, r3, r4⟩ := C.2.2.2.2.2.2.2.2.1
  have a := rsz_le r hD.2.1
  refine W.anew C.1 C.2.1 C.own (C.hts _ hw) (va_AO.use C.kg.2.2.1) rfl hd rfl hn (by omega) (Nat.le_trans h1 r3) (by rw [hN]; exact Nat.le_trans h2 r4) fun cA kA comp f1 f2 f3 f4 => ?_
  generalize hH1 : H.push ({ cls := cA, slots := Array.replicate n.toNatClampNeg .null, vm := .none } : Cell) = H1
  have z1 : H1.size = H.size + 1 := by rw [← hH1, Array.size_push]
  have e1 : H1[H.size]? = some (arrV cA n.toNatClampNeg (fun _ => .null)) := by rw [← hH1, Array.getElem?_push_size, ← arrV_new]
  have o1 : ∀ q : Nat, q < H.size → H1[q]? = H[q]? := fun q hq => by rw [← hH1, Array.getElem?_push, if_neg (Nat.ne_of_lt hq)]
  have hT := (C.kg.1.2 _ _ (tys_at G (show 4 < 7 by decide))).2
  have hcA : G.2.2.2.1 4 = cA := by
    obtain ⟨_, _, _, _, _, b⟩ := hT
    exact Option.some.inj (b.symm.trans f1)
  have hR : Rep G md (newC μ r) H1 := h.1.grow hD z1 o1 (by
    rw [ent_arr (by omega), hr, hcA]
    show H1[H.size]? = some (vp_cell cA (arrE G md (newC μ r) r (mC μ r)))
    rw [e1, hN]
    unfold arrE
    simp only [hr, refI_due hD]
    rfl)
  have hq : ad G r (mC μ r) = H.size := by rw [ad_ge hD.1, hD.2.2.2.1, h.1.1]
  have hv : cv G (vr r (mC μ r)) = .ref H.size := by
    simp only [cv, vr]
    rw [hR.rf hD.1 (by rw [mC_newC, if_pos rfl]; omega), hq]
    rfl
  have := kk G p l e R s m args below meth c H1 locs als C ⟨hR, S_grow h.2 C.2.2.2.2.2.2.2.2.2.2.1 z1 o1⟩ hl
  rw [List.map_cons, hv] at this
  rw [hN]
  exact this
theorem w_objInit {r i : Nat} (hd : decode (mB k) pc = .ok (.invokespecial ix, 3)) (hw : Cond.methodLink (oNm (mOwn k)) ix objectInit ∈ lwG ∧ Cond.instanceMethod objectInit ∈ lwG ∧ Cond.code objectInit ⟨#[0xb1]⟩ 1 none ∈ lwG) (h10 : 10 ≤ r) (hi : i < mC μ r) (hR : 1 ≤ mFr k ∧ 20 ≤ mLo k ∧ (st.map catV).sum ≤ 8)
    (kk : Wp md md' k (pc + 3) ls st μ nc ns Q) : Wp md md' k pc ls (vr r i :: st) μ nc ns Q := by
  intro G p l e R s m args below meth c H locs als C h hl
  obtain ⟨r1, r2, r3, r4⟩ := C.2.2.2.2.2.2.2.2.1
  have hq : cv G (vr r i) = .ref (ad G r i) := by simp only [cv, vr, h.1.rf h10 hi, va_rf]
  rw [List.map_cons, hq]
  refine W.objInit C.1 C.2.1 C.own (C.hts _ hw.1) (C.hts _ hw.2.1) (C.hts _ hw.2.2) (g := F0 m pc als (.ref (ad G r i) :: st.map (cv G))) rfl (hl.1.trans C.2.2.1.symm) rfl hd (Nat.le_trans hR.1 r1) ?_ (kk G p l e R s m args below meth c H locs als C h hl)
  show 2 * 0 + _ + 12 ≤ _
  rw [cat_map]
  have := hR.2.1
  have := hR.2.2
  omega
theorem toInt_clamp {z : Int32} (h : ¬ z < 0) : z.toInt = (z.toNatClampNeg : Int) := by
  have hz0 : (0 : Int) ≤ z.toInt := by
    have := Int32.not_lt.mp h
    simpa using Int32.le_iff_toInt_le.mp this
  show z.toInt = ((z.toInt.toNat : Nat) : Int)
  omega
theorem w_copy {r i r' i' : Nat} {sp dp n : Int32} (hd : decode (mB k) pc = .ok (.invokestatic ix, 3)) (hw : Cond.methodLink (oNm (mOwn k)) ix arraycopyName ∈ lwG ∧ Cond.native arraycopyName ∈ lwG ∧ Cond.static arraycopyName ∈ lwG ∧ Cond.initialized "java/lang/System" ∈ lwG)
    (hr : rkd r = 10) (hr' : rkd r' = 10) (hi : i < mC μ r) (hi' : i' < mC μ r') (h1 : ¬ sp < 0) (h2 : ¬ dp < 0) (h3 : ¬ n < 0) (h4 : sp.toNatClampNeg + n.toNatClampNeg ≤ rsz r') (h5 : dp.toNatClampNeg + n.toNatClampNeg ≤ rsz r) (hR : 1 ≤ mFr k ∧ 26 ≤ mLo k ∧ (st.map catV).sum ≤ 8)
    (kk : Wp md md' k (pc + 3) ls st (rowI μ r i (va_cpy (mI μ r' i') (mI μ r i) sp.toNatClampNeg dp.toNatClampNeg n.toNatClampNeg)) nc ns Q) : Wp md md' k pc ls (vi n :: vi dp :: vr r i :: vi sp :: vr r' i' :: st) μ nc ns Q := by
  intro G p l e R s m args below meth c H locs als C h hl T hT X
  obtain ⟨r1, r2, r3, r4⟩ := C.2.2.2.2.2.2.2.2.1
  have g1 := rkd_in (show rkd r < 50 by omega)
  have g2 := rkd_in (show rkd r' < 50 by omega)
  have hq : rfv G r i = some (ad G r i) := h.1.rf g1.1 hi
  have hq' : rfv G r' i' = some (ad G r' i') := h.1.rf g2.1 hi'
  have ha : ∀ (q j : Nat), rkd q = 10 → ent G md μ q j = .inl (G.2.2.2.1 0, (rsz q, .inl (mI μ q j))) := fun q j z => by rw [ent_arr (by omega), z]; simp [arrE, z]
  have hc1 : H[ad G r i]? = some (vp_cell (G.2.2.2.1 0) (rsz r, .inl (mI μ r i))) := by have := h.1.at' g1.1 hi 0 _ rfl; rw [ha r i hr] at this; exact this
  have hc0 : H[ad G r' i']? = some (vp_cell (G.2.2.2.1 0) (rsz r', .inl (mI μ r' i'))) := by have := h.1.at' g2.1 hi' 0 _ rfl; rw [ha r' i' hr'] at this; exact this
  have hT0 := (C.kg.1.2 _ _ (tys_at G (show 0 < 7 by decide))).1
  obtain ⟨-, k0, hk0, cm0, hkk0⟩ := hT0 (rsz r') (fun j => .int (mI μ r' i' j))
  obtain ⟨-, k1, hk1, cm1, hkk1⟩ := hT0 (rsz r) (fun j => .int (mI μ r i j))
  obtain ⟨vm', X', step⟩ := X.arraycopy C.1 C.own (C.hts _ hw.1) (C.hts _ hw.2.1) (C.hts _ hw.2.2.1) (C.hts _ hw.2.2.2) (src := ad G r' i') (dst := ad G r i) (cs := vp_cell (G.2.2.2.1 0) (rsz r', .inl (mI μ r' i'))) (cd := vp_cell (G.2.2.2.1 0) (rsz r, .inl (mI μ r i))) (srcPos := sp) (destPos := dp) (n := n) (by rw [hT]; exact hc0) (by rw [hT]; exact hc1)
    (fun _ h => by cases h) (fun _ h => by cases h) (fun h => by cases h) (fun h => by cases h) hk0 hk1 hkk0 hkk1 (by simp [ety, refKind]) h1 h2 h3
    (by rw [toInt_clamp h1, toInt_clamp h3]; show ¬ _ > ((arrV _ (rsz r') (fun j => .int (mI μ r' i' j))).slots.size : Int); rw [arrV_size]; omega)
    (by rw [toInt_clamp h2, toInt_clamp h3]; show ¬ _ > ((arrV _ (rsz r) (fun j => .int (mI μ r i j))).slots.size : Int); rw [arrV_size]; omega)
    (fun vm₁ _ j hj => by
      have e : (vp_cell (G.2.2.2.1 0) (rsz r', .inl (mI μ r' i'))).slots.getD (sp.toNatClampNeg + j) .null = .int (mI μ r' i' (sp.toNatClampNeg + j)) := by
        show (arrV _ (rsz r') (fun j => .int (mI μ r' i' j))).slots.getD _ _ = _
        rw [Array.getD_eq_getD_getElem?, arrV_read _ _ (by omega)]
        rfl
      exact ⟨by rw [e]; rfl, by rw [e]; exact trivial⟩)
    (g := F0 m pc als ((vi n :: vi dp :: vr r i :: vi sp :: vr r' i' :: st).map (cv G))) rfl (hl.1.trans C.2.2.1.symm) (rest := st.map (cv G)) (by simp only [List.map_cons, cv, vi, vr, hq, hq', va_rf]) (by rw [C.2.1]; exact hd) (Nat.le_trans hR.1 r1)
    (by
      show 2 * 0 + _ + (nativeFrameWords "java/lang/System" "arraycopy" 5 + 11) ≤ _
      rw [cat_map, show nativeFrameWords "java/lang/System" "arraycopy" 5 = 7 from by decide]
      have := hR.2.1
      have := hR.2.2
      omega)
  have e1 : copied (vp_cell (G.2.2.2.1 0) (rsz r', .inl (mI μ r' i'))) (vp_cell (G.2.2.2.1 0) (rsz r, .inl (mI μ r i))) sp dp n = vp_cell (G.2.2.2.1 0) (rsz r, .inl (va_cpy (mI μ r' i') (mI μ r i) sp.toNatClampNeg dp.toNatClampNeg n.toNatClampNeg)) := va_copied (fun z => .int z) _ _ _ _ h4
  rw [e1] at X' step
  have hlt : ad G r i < H.size := (Array.getElem?_eq_some_iff.mp hc1).1
  generalize hcl : vp_cell (G.2.2.2.1 0) (rsz r, .inl (va_cpy (mI μ r' i') (mI μ r i) sp.toNatClampNeg dp.toNatClampNeg n.toNatClampNeg)) = cl at X' step
  have hheap : ((T.setVm vm').setCell (ad G r i) cl).heap = H.setIfInBounds (ad G r i) cl := by rw [← hT]; rfl
  have oq : ∀ q : Nat, q ≠ ad G r i → (H.setIfInBounds (ad G r i) cl)[q]? = H[q]? := fun q hq => by simp [Array.getElem?_setIfInBounds, Ne.symm hq]
  obtain ⟨t, a1, b1⟩ := kk G p l e R s m args below meth c (H.setIfInBounds (ad G r i) cl) _ als C ⟨h.1.set g1.1 hi (fun q => rfl) (fun r' i' z => ent_of_rows (by rw [mI_rowI, if_neg z]) rfl rfl) (by simp) oq (by
      rw [ent_arr (by omega), hr]
      have ha' : arrE G md (rowI μ r i (va_cpy (mI μ r' i') (mI μ r i) sp.toNatClampNeg dp.toNatClampNeg n.toNatClampNeg)) r i = (rsz r, .inl (va_cpy (mI μ r' i') (mI μ r i) sp.toNatClampNeg dp.toNatClampNeg n.toNatClampNeg)) := by simp [arrE, hr, mI_rowI]
      rw [ha']
      show (H.setIfInBounds (ad G r i) cl)[ad G r i]? = some (vp_cell _ _)
      rw [hcl]
      simp [Array.getElem?_setIfInBounds, hlt]), ⟨by simp; exact h.2.1, fun q z1 z2 => by rw [oq q (fun z => z2 (by rw [z, ad_ge g1.1]; omega))]; exact h.2.2.1 q z1 z2, fun q hq => by
      rcases List.mem_append.mp hq with z | z
      · exact h.2.2.2 q z
      · obtain ⟨z, -, hz⟩ := List.mem_map.mp z
        rw [← hz]
        show G.1 ≤ ad G r i
        rw [ad_ge g1.1]
        omega⟩⟩ hl _ hheap X'
  exact ⟨t, step t a1, b1⟩
end AllocRules

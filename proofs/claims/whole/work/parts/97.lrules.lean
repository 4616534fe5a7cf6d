/-! the law: its own steps (printed by program) -/
def Wlw (p : Program) (l : Launch) (e : Env) (R : Room) (s : State) (m : MethodId) (args : Array Value) (below : List Frame) (meth : Method) (c : Code) (G : GC) (Z : State → Prop) (md pc : Nat) (ls : List (Nat × V)) (st : List V) (μ : Mem) (nc ns : Nat) : Prop :=
  ∀ (H : Heap) (locs : List Loc) (als : Array Slot), RepH G md μ s H locs → lv_has als (mLoc 300) (lsC G ls) → W p l e R s m args below meth c H locs nc ns Z (F0 m pc als (st.map (cv G)))
section LawRules
variable {p : Program} {l : Launch} {e : Env} {R : Room} {s : State} {m : MethodId} {args : Array Value} {below : List Frame} {meth meth0 : Method} {c : Code} {G : GC} {Z : State → Prop} {md mdc k2 pc ix : Nat} {ls : List (Nat × V)} {st As : List V} {μ : Mem} {nc ns : Nat} {Q' : Option V → Mem → Prop}
theorem xl_iadd (C : Cx G 300 p R s m args meth0 c) {x y : Int32} (hd : decode (mB 300) pc = .ok (.iadd, 1)) (kk : Wlw p l e R s m args below meth c G Z md (pc + 1) ls (vi (x + y) :: st) μ nc ns) : Wlw p l e R s m args below meth c G Z md pc ls (vi y :: vi x :: st) μ nc ns := by
  intro H locs als h hl
  exact lv_iadd C.1 C.2.1 hd (kk H locs als h hl)
theorem xl_isub (C : Cx G 300 p R s m args meth0 c) {x y : Int32} (hd : decode (mB 300) pc = .ok (.isub, 1)) (kk : Wlw p l e R s m args below meth c G Z md (pc + 1) ls (vi (x - y) :: st) μ nc ns) : Wlw p l e R s m args below meth c G Z md pc ls (vi y :: vi x :: st) μ nc ns := by
  intro H locs als h hl
  exact lv_isub C.1 C.2.1 hd (kk H locs als h hl)
theorem xl_iand (C : Cx G 300 p R s m args meth0 c) {x y : Int32} (hd : decode (mB 300) pc = .ok (.iand, 1)) (kk : Wlw p l e R s m args below meth c G Z md (pc + 1) ls (vi (x &&& y) :: st) μ nc ns) : Wlw p l e R s m args below meth c G Z md pc ls (vi y :: vi x :: st) μ nc ns := by
  intro H locs als h hl
  exact lv_iand C.1 C.2.1 hd (kk H locs als h hl)
theorem xl_iconst (C : Cx G 300 p R s m args meth0 c) {n : Int} (hd : decode (mB 300) pc = .ok (.iconst n, 1)) (kk : Wlw p l e R s m args below meth c G Z md (pc + 1) ls (vi (Int32.ofInt n) :: st) μ nc ns) : Wlw p l e R s m args below meth c G Z md pc ls (st) μ nc ns := by
  intro H locs als h hl
  exact lv_iconst C.1 C.2.1 hd rfl (kk H locs als h hl)
theorem xl_bipush (C : Cx G 300 p R s m args meth0 c) {n : Int} (hd : decode (mB 300) pc = .ok (.bipush n, 2)) (kk : Wlw p l e R s m args below meth c G Z md (pc + 2) ls (vi (Int8.ofInt n).toInt32 :: st) μ nc ns) : Wlw p l e R s m args below meth c G Z md pc ls (st) μ nc ns := by
  intro H locs als h hl
  exact lv_bipush C.1 C.2.1 hd rfl (kk H locs als h hl)
theorem xl_iload_n (C : Cx G 300 p R s m args meth0 c) {i : Fin 4} {x : Int32} (hd : decode (mB 300) pc = .ok (.iload_n i, 1)) (hg : lget ls i = some (vi x)) (kk : Wlw p l e R s m args below meth c G Z md (pc + 1) ls (vi x :: st) μ nc ns) : Wlw p l e R s m args below meth c G Z md pc ls (st) μ nc ns := by
  intro H locs als h hl
  exact lv_iload_n C.1 C.2.1 hd rfl (lget_ok hl hg) (kk H locs als h hl)
theorem xl_aload_n (C : Cx G 300 p R s m args meth0 c) {i : Fin 4} {r j : Nat} (hd : decode (mB 300) pc = .ok (.aload_n i, 1)) (hg : lget ls i = some (vr r j)) (kk : Wlw p l e R s m args below meth c G Z md (pc + 1) ls (vr r j :: st) μ nc ns) : Wlw p l e R s m args below meth c G Z md pc ls st μ nc ns := by
  intro H locs als h hl
  have h1 := lget_ok hl hg
  have h2 := (kk H locs als h hl)
  simp only [List.map_cons, cv, vr] at h1 h2
  cases hq : rfv G r j with
  | none => rw [hq] at h1 h2; exact lv_aload_nN C.1 C.2.1 hd rfl h1 h2
  | some a => rw [hq] at h1 h2; exact lv_aload_n C.1 C.2.1 hd rfl h1 h2
theorem xl_istore_n (C : Cx G 300 p R s m args meth0 c) {i : Fin 4} {x : Int32} (hd : decode (mB 300) pc = .ok (.istore_n i, 1)) (hi : (i : Nat) + 0 < mLoc 300) (kk : Wlw p l e R s m args below meth c G Z md (pc + 1) (lput1 ls i (vi x)) st μ nc ns) : Wlw p l e R s m args below meth c G Z md pc ls (vi x :: st) μ nc ns := by
  intro H locs als h hl
  refine lv_istore_n C.1 C.2.1 hd rfl hl hi rfl (fun als' hl' => ?_)
  exact kk H locs als' h (lput1_ok (v := vi x) hl')
theorem xl_astore_n (C : Cx G 300 p R s m args meth0 c) {i : Fin 4} {r j : Nat} (hd : decode (mB 300) pc = .ok (.astore_n i, 1)) (hi : (i : Nat) + 0 < mLoc 300) (kk : Wlw p l e R s m args below meth c G Z md (pc + 1) (lput1 ls i (vr r j)) st μ nc ns) : Wlw p l e R s m args below meth c G Z md pc ls (vr r j :: st) μ nc ns := by
  intro H locs als h hl
  have kk2 : ∀ als', lv_has als' (mLoc 300) (((i : Nat), cv G (vr r j)) :: (lsC G ls).filter (fun q => !(q.1 == (i : Nat)) && !(q.1 + 1 == (i : Nat) && q.2.category == 2))) → _ := fun als' hl' => kk H locs als' h (lput1_ok (v := vr r j) hl')
  simp only [List.map_cons, cv, vr] at kk2 ⊢
  cases hq : rfv G r j with
  | none => rw [hq] at kk2; exact lv_astore_nN C.1 C.2.1 hd rfl hl hi rfl kk2
  | some a => rw [hq] at kk2; exact lv_astore_n C.1 C.2.1 hd rfl hl hi rfl kk2
theorem xl_iinc (C : Cx G 300 p R s m args meth0 c) {i : Nat} {n : Int} {x : Int32} (hd : decode (mB 300) pc = .ok (.iinc i n, 3)) (hg : lget ls i = some (vi x)) (hi : i < mLoc 300) (kk : Wlw p l e R s m args below meth c G Z md (pc + 3) (lput1 ls i (vi (x + Int32.ofInt n))) st μ nc ns) : Wlw p l e R s m args below meth c G Z md pc ls st μ nc ns := by
  intro H locs als h hl
  obtain ⟨q, hq⟩ := lget_at (G := G) hg
  refine lv_iinc C.1 C.2.1 hd hl hq rfl hi rfl (fun als' hl' => ?_)
  exact kk H locs als' h (lput1_ok (v := vi _) hl')
theorem xl_icmp_eq (C : Cx G 300 p R s m args meth0 c) {x y : Int32} {off : Int} {t : Nat} (hd : decode (mB 300) pc = .ok (.if_icmp .eq off, 3)) (ht : (pc : Int) + off = (t : Int)) (kt : x = y → Wlw p l e R s m args below meth c G Z md t ls st μ nc ns) (kf : ¬ x = y → Wlw p l e R s m args below meth c G Z md (pc + 3) ls st μ nc ns) : Wlw p l e R s m args below meth c G Z md pc ls (vi y :: vi x :: st) μ nc ns := by
  intro H locs als h hl
  exact lv_icmp_eq C.1 C.2.1 hd ht (fun z => kt z H locs als h hl) (fun z => kf z H locs als h hl)
theorem xl_icmp_gt (C : Cx G 300 p R s m args meth0 c) {x y : Int32} {off : Int} {t : Nat} (hd : decode (mB 300) pc = .ok (.if_icmp .gt off, 3)) (ht : (pc : Int) + off = (t : Int)) (kt : y < x → Wlw p l e R s m args below meth c G Z md t ls st μ nc ns) (kf : ¬ y < x → Wlw p l e R s m args below meth c G Z md (pc + 3) ls st μ nc ns) : Wlw p l e R s m args below meth c G Z md pc ls (vi y :: vi x :: st) μ nc ns := by
  intro H locs als h hl
  exact lv_icmp_gt C.1 C.2.1 hd ht (fun z => kt z H locs als h hl) (fun z => kf z H locs als h hl)
theorem xl_if_eq (C : Cx G 300 p R s m args meth0 c) {x : Int32} {off : Int} {t : Nat} (hd : decode (mB 300) pc = .ok (.ifCond .eq off, 3)) (ht : (pc : Int) + off = (t : Int)) (kt : x = 0 → Wlw p l e R s m args below meth c G Z md t ls st μ nc ns) (kf : ¬ x = 0 → Wlw p l e R s m args below meth c G Z md (pc + 3) ls st μ nc ns) : Wlw p l e R s m args below meth c G Z md pc ls (vi x :: st) μ nc ns := by
  intro H locs als h hl
  exact lv_if_eq C.1 C.2.1 hd ht (fun z => kt z H locs als h hl) (fun z => kf z H locs als h hl)
theorem xl_goto (C : Cx G 300 p R s m args meth0 c) {off : Int} {t : Nat} (hd : decode (mB 300) pc = .ok (.goto off, 3)) (ht : (pc : Int) + off = (t : Int)) (kk : Wlw p l e R s m args below meth c G Z md t ls st μ nc ns) : Wlw p l e R s m args below meth c G Z md pc ls st μ nc ns := by
  intro H locs als h hl
  exact lv_goto C.1 C.2.1 hd ht (kk H locs als h hl)

theorem xl_dup (C : Cx G 300 p R s m args meth0 c) {v : V} (hd : decode (mB 300) pc = .ok (.dup, 1)) (hv : isL v = false) (kk : Wlw p l e R s m args below meth c G Z md (pc + 1) ls (v :: v :: st) μ nc ns) : Wlw p l e R s m args below meth c G Z md pc ls (v :: st) μ nc ns := by
  intro H locs als h hl
  refine lv_dup C.1 C.2.1 hd ?_ (kk H locs als h hl)
  have := isL_cat G v
  rw [hv] at this
  match v with
  | .inl x => rfl
  | .inr (.inl x) => cases hv
  | .inr (.inr (r, i)) =>
    show (va_rf (rfv G r i)).category = 1
    cases rfv G r i <;> rfl
theorem xl_switch (C : Cx G 300 p R s m args meth0 c) {dflt lo hi : Int} {offs : Array Int} {len : Nat} {x : Int32} (hd : decode (mB 300) pc = .ok (.tableswitch dflt lo hi offs, len)) (hlo : ∀ t ∈ dflt :: offs.toList, 0 ≤ (pc : Int) + t) (hsz : (offs.size : Int) = hi - lo + 1)
    (kk : Wlw p l e R s m args below meth c G Z md ((pc : Int) + (if x.toInt < lo ∨ hi < x.toInt then dflt else offs.toList.getD (x.toInt - lo).toNat 0)).toNat ls st μ nc ns) : Wlw p l e R s m args below meth c G Z md pc ls (vi x :: st) μ nc ns := by
  intro H locs als h hl
  have k1 := kk H locs als h hl
  by_cases ho : x.toInt < lo ∨ hi < x.toInt
  · rw [if_pos ho] at k1
    refine lv_tableOut C.1 C.2.1 hd ho ?_ k1
    have := hlo dflt List.mem_cons_self
    omega
  · rw [if_neg ho] at k1
    have hlt : (x.toInt - lo).toNat < offs.size := by omega
    have e : offs[(x.toInt - lo).toNat]? = some (offs.toList.getD (x.toInt - lo).toNat 0) := by
      have e0 := Array.getElem?_eq_getElem hlt
      rw [List.getD_eq_getElem?_getD, Array.getElem?_toList, e0]
      rfl
    refine lv_tableIn C.1 C.2.1 hd (fun z => ho (Or.inl z)) (fun z => ho (Or.inr z)) e ?_ k1
    have hm : offs.toList.getD (x.toInt - lo).toNat 0 ∈ dflt :: offs.toList := by
      refine List.mem_cons_of_mem _ (List.mem_of_getElem? (i := (x.toInt - lo).toNat) ?_)
      rw [Array.getElem?_toList]; exact e
    have := hlo _ hm
    omega
theorem xl_new (C : Cx G 300 p R s m args meth0 c) {r : Nat} (hd : decode (mB 300) pc = .ok (.new ix, 3)) (hr : rkd r < 10) (hw : Cond.classLink (oNm (mOwn 300)) ix (oNm (rkd r)) ∈ lwG ∧ Cond.instantiable (oNm (rkd r)) (clN (rkd r)) ∈ lwG ∧ Cond.initialized (oNm (rkd r)) ∈ lwG) (hD : dueC md μ r) (h1 : nc + 1 ≤ R.cells) (h2 : ns + rsz r ≤ R.slots)
    (kk : Wlw p l e R s m args below meth c G Z md (pc + 3) ls (vr r (mC μ r) :: st) (newC μ r) (nc + 1) (ns + rsz r)) : Wlw p l e R s m args below meth c G Z md pc ls st μ nc ns := by
  intro H locs als h hl
  have hsz := rsz_cl r hD.2.1 hr
  have hKn := C.kg.1.1 _ _ (vw_at _ hr)
  rw [hsz] at h2 kk
  refine W.newcK C.1 C.2.1 C.own (C.hts _ hw.1) (C.hts _ hw.2.1) (C.hts _ hw.2.2) rfl hd h1 h2 hKn.2.1 rfl fun H1 kC hkC e1 z1 o1 => ?_
  have hR : Rep G md (newC μ r) H1 := h.1.grow hD z1 o1 (by
    rw [ent_obj hr]
    refine ⟨_, vw_at _ hr, (u_born (clTy (rkd r)) C.hts (lay_in hr) hKn hkC e1 (ty_all _ hr)).to fun j hj => ?_⟩
    unfold vp_V
    simp only [List.getD, map_range_get _ (show j < rsz r by rw [hsz]; exact hj), Option.getD_some]
    exact (slot_new hD hr hj).symm)
  have hq : ad G r (mC μ r) = H.size := by rw [ad_ge hD.1, hD.2.2.2.1, h.1.1]
  have hv : cv G (vr r (mC μ r)) = .ref H.size := by
    simp only [cv, vr]
    rw [hR.rf hD.1 (by rw [mC_newC, if_pos rfl]; omega), hq]
    rfl
  have := kk H1 locs als ⟨hR, S_grow h.2 C.2.2.2.2.2.2.2.2.2.2.1 z1 o1⟩ hl
  rw [List.map_cons, hv] at this
  exact this
/-- the script -/
def Sx (G : GC) (s : State) (L : Nat) (xs : Nat → Int32) : Prop := va_X G.2.1 L xs s s.heap ∧ G.2.1 < s.heap.size ∧ G.2.1 < G.1
theorem xl_siald (C : Cx G 300 p R s m args meth0 c) {L : Nat} {xs : Nat → Int32} (X : Sx G s L xs) {i : Int32} (hd : decode (mB 300) pc = .ok (.iaload, 1)) (hin : vp_in i L) (kk : Wlw p l e R s m args below meth c G Z md (pc + 1) ls (vi (xs i.toNatClampNeg) :: st) μ nc ns) : Wlw p l e R s m args below meth c G Z md pc ls (vi i :: vr 1 0 :: st) μ nc ns := by
  intro H locs als h hl
  exact va_sld (b := G.2.1) C.1 C.2.1 X.1 X.2.1 (fun z => by have := X.2.2; omega) h.2 hin hd (kk H locs als h hl)
theorem xl_slen (C : Cx G 300 p R s m args meth0 c) {L : Nat} {xs : Nat → Int32} (X : Sx G s L xs) (hd : decode (mB 300) pc = .ok (.arraylength, 1)) (kk : Wlw p l e R s m args below meth c G Z md (pc + 1) ls (vi (nI L) :: st) μ nc ns) : Wlw p l e R s m args below meth c G Z md pc ls (vr 1 0 :: st) μ nc ns := by
  intro H locs als h hl
  exact va_slen (b := G.2.1) C.1 C.2.1 X.1 X.2.1 (fun z => by have := X.2.2; omega) h.2 hd (kk H locs als h hl)
theorem xl_back (C : Cx G 300 p R s m args meth0 c) {H : Heap} {locs : List Loc} {als : Array Slot} {st0 : List Value} {aa : Array Value} (h : RepH G md μ s H locs) (hl : lv_has als (mLoc 300) (lsC G ls))
    (hr : va_Run p l e R s m args below meth c H locs nc ns (mAc k2) (mAs k2) (F0 m pc als st0) (st.map (cv G)) (QcW G mdc Q' aa) (fun q => G.1 ≤ q))
    (kk : ∀ r μ', Q' r μ' → mC μ 0 ≤ mC μ' 0 → Wlw p l e R s m args below meth c G Z mdc (pc + 3) ls (r.toList ++ st) μ' (nc + mAc k2) (ns + mAs k2)) : W p l e R s m args below meth c H locs nc ns Z (F0 m pc als st0) := by
  intro T hT X
  obtain ⟨v, st₀, t, T', L, h0, X', hL, e1, e2, ⟨r, μ', hv, hq, hR, hF⟩, stp⟩ := hr T hT X
  have hv' := Outcome.returned.inj hv
  subst hv'
  have hF1 : H.size ≤ T'.heap.size := by rw [e1, ← h0]; exact hF.1
  have hF2 : ∀ q : Nat, q < H.size → ¬ G.1 ≤ q → T'.heap[q]? = H[q]? := by rw [e1, ← h0]; exact hF.2
  have hS : va_S (fun q => G.1 ≤ q) s.heap T'.heap (locs ++ L) := ⟨Nat.le_trans h.2.1 hF1, fun q a b => (hF2 q (Nat.lt_of_lt_of_le a h.2.1) b).trans (h.2.2.1 q a b), fun q hq => (List.mem_append.mp hq).elim (h.2.2.2 q) (hL q)⟩
  have hm : mC μ 0 ≤ mC μ' 0 := by
    have a := h.1.1
    have b := hR.1
    rw [e1] at hF1
    omega
  obtain ⟨t2, a1, b1⟩ := kk r μ' hq hm T'.heap (locs ++ L) als ⟨by rw [e1]; exact hR, hS⟩ hl T' rfl X'
  refine ⟨t2, stp t2 ?_, b1⟩
  have ee : (r.map (cv G)).toList ++ st.map (cv G) = (r.toList ++ st).map (cv G) := by cases r <;> simp
  rw [ee]
  exact a1
theorem callB_x (C : Cx G 300 p R s m args meth0 c) (hm : mOK k2) (hw : Cond.methodLink (oNm (mOwn 300)) ix (mY k2) ∈ lwG) (h1 : mFr k2 + 1 ≤ mFr 300) (h2 : 8 + (mLoc k2 + 11) + mLo k2 ≤ mLo 300) :
    CallB R s args (oNm (mOwn 300)) ix (mY k2) (mB k2) (mLoc k2) (mRet k2) (wsM k2) (rmM k2) (mAc k2) (mAs k2) (mArg k2) := by
  have hg : GoodIn lwG (wsM k2) := lwG_in fun w h => by
    rcases List.mem_cons.mp h with e | e
    · rw [e]; exact hm.2.2.1
    · exact e
  obtain ⟨r1, r2, r3, r4⟩ := C.2.2.2.2.2.2.2.2.1
  refine ⟨rfl, rfl, Nat.le_trans h1 r1, Nat.le_trans h2 r2, pay_in C.hts hg, List.mem_cons_self, C.hts _ hm.2.2.1, C.hts _ hm.2.2.2.1, hm.2.2.2.2.1, fun sig h => ?_, C.hts _ hw⟩
  have h2 := hm.2.2.2.2.2
  rw [h] at h2
  exact (Option.some.inj h2).symm
theorem xl_virtual (C : Cx G 300 p R s m args meth0 c) {r i : Nat} (hd : decode (mB 300) pc = .ok (.invokevirtual ix, 3)) (hm : mOK k2) (hw : Cond.methodLink (oNm (mOwn 300)) ix (mY k2) ∈ lwG) (hs : Cond.instanceMethod (mY k2) ∈ lwG ∧ Cond.selects (mY k2).cls (mY k2) (mY k2) ∈ lwG) (hr : rkd r = mOwn k2) (h10 : mOwn k2 < 10) (hi : i < mC μ r)
    (hn : As.length = mArg k2) (hR1 : mFr k2 + 1 ≤ mFr 300) (hR2 : 8 + (mLoc k2 + 11) + mLo k2 ≤ mLo 300) (hR3 : nc + mAc k2 ≤ R.cells) (hR4 : ns + mAs k2 ≤ R.slots) (hR5 : (st.map catV).sum ≤ 8) (hR6 : ((vr r i :: As).map catV).sum ≤ mLoc k2)
    (hc : Wp md mdc k2 0 (largs 0 (vr r i :: As)) [] μ 0 0 Q') (kk : ∀ r μ', Q' r μ' → mC μ 0 ≤ mC μ' 0 → Wlw p l e R s m args below meth c G Z mdc (pc + 3) ls (r.toList ++ st) μ' (nc + mAc k2) (ns + mAs k2)) : Wlw p l e R s m args below meth c G Z md pc ls (As.reverse ++ vr r i :: st) μ nc ns := by
  intro H locs als h hl
  have hr10 : rkd r < 10 := by rw [hr]; exact h10
  have hr1 := rkd_in (show rkd r < 50 by omega)
  have hq : cv G (vr r i) = .ref (ad G r i) := by simp only [cv, vr, h.1.rf hr1.1 hi, va_rf]
  have hM := met_of hm hR6 hc G l
  have hP := pre_at (md := md) C h (vr r i :: As)
  simp only [List.map_append, List.map_reverse, List.map_cons, hq] at hP ⊢
  have hv := recv_at C h hr10 hi
  rw [hr, hm.2.1] at hv
  have hr := va_runV (meth := meth) (l := l) (e := e) (below := below) (H := H) (locs := locs) (cells := nc) (slots := ns) (g := F0 m pc als ((As.map (cv G)).reverse ++ .ref (ad G r i) :: st.map (cv G))) (rest := st.map (cv G)) (fix_of C) hM ⟨callB_x C hm hw hR1 hR2, C.hts _ hs.1, C.hts _ hs.2⟩ ⟨PcW_blind G md μ _, hv, hP⟩ rfl (by rw [List.length_map]; exact hn) hl.1 rfl
    (by show 2 * 0 + _ ≤ 8; rw [cat_map]; omega) hd ⟨hR3, hR4⟩
  exact xl_back C h hl hr kk
theorem xl_init (C : Cx G 300 p R s m args meth0 c) {r i : Nat} (hd : decode (mB 300) pc = .ok (.invokespecial ix, 3)) (hm : mOK k2) (hw : Cond.methodLink (oNm (mOwn 300)) ix (mY k2) ∈ lwG) (hs : Cond.instanceMethod (mY k2) ∈ lwG) (hy : (mY k2).name = "<init>") (hv : mRet k2 = none) (h10 : 10 ≤ r) (hi : i < mC μ r)
    (hn : As.length = mArg k2) (hR1 : mFr k2 + 1 ≤ mFr 300) (hR2 : 8 + (mLoc k2 + 11) + mLo k2 ≤ mLo 300) (hR3 : nc + mAc k2 ≤ R.cells) (hR4 : ns + mAs k2 ≤ R.slots) (hR5 : (st.map catV).sum ≤ 8) (hR6 : ((vr r i :: As).map catV).sum ≤ mLoc k2)
    (hc : Wp md mdc k2 0 (largs 0 (vr r i :: As)) [] μ 0 0 Q') (kk : ∀ r μ', Q' r μ' → mC μ 0 ≤ mC μ' 0 → Wlw p l e R s m args below meth c G Z mdc (pc + 3) ls (r.toList ++ st) μ' (nc + mAc k2) (ns + mAs k2)) : Wlw p l e R s m args below meth c G Z md pc ls (As.reverse ++ vr r i :: st) μ nc ns := by
  intro H locs als h hl
  have hq : cv G (vr r i) = .ref (ad G r i) := by simp only [cv, vr, h.1.rf h10 hi, va_rf]
  have hM := met_of hm hR6 hc G l
  have hP := pre_at (md := md) C h (vr r i :: As)
  simp only [List.map_append, List.map_reverse, List.map_cons, hq] at hP ⊢
  have hB := callB_x C hm hw hR1 hR2
  rw [hv] at hB
  have hr := va_runI (meth := meth) (l := l) (e := e) (below := below) (H := H) (locs := locs) (cells := nc) (slots := ns) (g := F0 m pc als ((As.map (cv G)).reverse ++ .ref (ad G r i) :: st.map (cv G))) (rest := st.map (cv G)) (fix_of C) hM ⟨hB, hy, C.hts _ hs⟩ ⟨PcW_blind G md μ _, hP⟩ rfl (by rw [List.length_map]; exact hn) hl.1 rfl
    (by show 2 * 0 + _ ≤ 8; rw [cat_map]; omega) hd ⟨hR3, hR4⟩
  exact xl_back C h hl hr kk
theorem xl_mask (C : Cx G 300 p R s m args meth0 c) {is : List Nat} (kk : Wlw p l e R s m args below meth c G Z md pc (lmask is ls) st μ nc ns) : Wlw p l e R s m args below meth c G Z md pc ls st μ nc ns := fun H locs als h hl => kk H locs als h (lv_has_sub hl (fun q hq => by
  obtain ⟨a, ha, rfl⟩ := List.mem_map.mp hq
  exact List.mem_map.mpr ⟨a, lmask_mem ha, rfl⟩))
end LawRules


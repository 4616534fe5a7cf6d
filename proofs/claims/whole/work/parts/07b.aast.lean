/-- a row of references is fixed as a whole -/
theorem isS_arr : ∀ r, r < 104 → rkd r = 14 → ∀ q, isS r q = isS r 0 := by
  intro r h1 h2 q
  have h : ∀ r, r < 104 → rkd r = 14 → r = 45 ∨ r = 46 := by decide +kernel
  rcases h r h1 h2 with rfl | rfl <;> rfl
section AastRule
variable {md md' k pc ix : Nat} {ls : List (Nat × V)} {st : List V} {μ : Mem} {nc ns : Nat} {Q : Option V → Mem → Prop}
theorem w_aastore {r i r' i' : Nat} {j : Int32} (hd : decode (mB k) pc = .ok (.aastore, 1)) (hr : rkd r = 14) (hi : i < mC μ r) (hj : vp_in j (rsz r)) (hr' : rkd r' = 3) (hi' : i' < mC μ r') (hrel : rel r 0 = r') (hS : isS r 0 = 0 ∨ md < isS r 0)
    (kk : Wp md md' k (pc + 1) ls st (rowR μ r i (up (mR μ r i) j.toNatClampNeg i')) nc ns Q) : Wp md md' k pc ls (vr r' i' :: vi j :: vr r i :: st) μ nc ns Q := by
  intro G p l e R s m args below meth c H locs als C h hl
  have hr1 := rkd_in (show rkd r < 50 by omega)
  have hr2 := rkd_in (show rkd r' < 50 by omega)
  have hq := h.1.at' hr1.1 hi 0 _ rfl
  rw [ent_arr (by omega), hr] at hq
  have hn : rfv G r i = some (ad G r i) := h.1.rf hr1.1 hi
  have hn' : rfv G r' i' = some (ad G r' i') := h.1.rf hr2.1 hi'
  have ha : ∀ μ, arrE G md μ r i = (rsz r, .inr (.inr (.inr (.inr (fun j => rfv G (rel r 0) (refI md μ r i j)))))) := fun μ => by simp [arrE, hr]
  rw [ha] at hq
  have hcell : H[ad G r i]? = some (vp_cell (G.2.2.2.1 4) (rsz r, .inr (.inr (.inr (.inr (fun j => rfv G (rel r 0) (refI md μ r i j))))))) := hq
  obtain ⟨kA, comp, y1, y2, y3, -⟩ := (C.kg.1.2 _ _ (tys_at G (show 4 < 7 by decide))).2
  obtain ⟨cv', z1, z2, z3⟩ := recv_at C h (r := r') (by omega) hi'
  rw [hr'] at z3
  have hcls : cv'.cls = comp := Option.some.inj (z3.symm.trans y3)
  have hKn := C.kg.1.1 3 _ (vw_at 3 (by decide))
  obtain ⟨-, hfc, kC, hkC, hkind⟩ := hKn
  have hD : G.2.2.1.1 3 = comp := Option.some.inj (hfc.symm.trans y3)
  have hasg : s.vm.assignable comp comp = true := by rw [← hD]; exact va_assign ⟨hfc, kC, hkC, hkind⟩
  have hlt : j.toNatClampNeg < rsz r := Nat.not_le.mp fun q => hj (Or.inr q)
  simp only [List.map_cons, cv, vr, vi, hn, hn', va_rf]
  refine W.aast C.1 C.2.1 (v := ad G r' i') (kv := kC) (kcomp := kC) (comp := comp) hcell (fun q z => by cases z) (fun z => by cases z) y1 y2 rfl (by rw [← hD]; exact hkC) ⟨fun z => hj (Or.inl z), by rw [vp_cell_q, arrV_size]; exact hlt⟩ z1 (fun q z => by rw [z] at z2; cases z2) (by rw [hcls, ← hD]; exact hkC) (by rw [hcls]; exact hasg) rfl rfl hd fun H' e1 e2 e3 => ?_
  refine kk G p l e R s m args below meth c H' _ als C ⟨h.1.set hr1.1 hi (fun q => rfl) (fun r' i' z => ent_of_rows rfl rfl (by rw [mR_rowR, if_neg z])) e2 e3 ?_, h.2.put e2 e3 (by rw [ad_ge hr1.1]; omega)⟩ hl
  rw [ent_arr (by omega), hr, ha]
  show H'[ad G r i]? = some (vp_cell (G.2.2.2.1 4) _)
  rw [e1, vp_cell_q, arrV_store, vp_cell_q]
  refine congrArg some (congrArg (arrV _ _) (funext fun q => ?_))
  unfold updV
  have hne : ∀ q, ¬ (isS r q ≠ 0 ∧ isS r q ≤ md) := by
    intro q
    have : isS r q = isS r 0 := isS_arr r hr1.2 hr q
    rw [this]
    intro z
    rcases hS with y | y <;> omega
  by_cases z : q = j.toNatClampNeg
  · rw [if_pos z]
    unfold refI
    rw [if_neg (hne q), mR_rowR, if_pos ⟨rfl, rfl⟩]
    unfold up
    rw [if_pos z, hrel, hn']
    rfl
  · rw [if_neg z]
    have y4 : refI md μ r i q = mR μ r i q := by unfold refI; rw [if_neg (hne q)]
    have y5 : refI md (rowR μ r i (up (mR μ r i) j.toNatClampNeg i')) r i q = mR μ r i q := by
      unfold refI
      rw [if_neg (hne q), mR_rowR, if_pos ⟨rfl, rfl⟩]
      unfold up
      rw [if_neg z]
    show va_rf (rfv G (rel r 0) (refI md μ r i q)) = va_rf (rfv G (rel r 0) (refI md _ r i q))
    rw [y4, y5]
end AastRule

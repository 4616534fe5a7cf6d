/-! modes; what one side does, the other side keeps; the class' constructor to its end -/
theorem arrV_ext {c : ClassId} {n : Nat} {f g : Nat → Value} (h : ∀ j, j < n → f j = g j) : arrV c n f = arrV c n g := by
  unfold arrV
  rw [show (fun j : Fin n => f j.val) = (fun j : Fin n => g j.val) from funext fun j => h j.val j.isLt]
/-- a slot that holds a reference -/
def rfS (r k : Nat) : Bool := decide (10 ≤ rkd r) || decide (2 ≤ kty (clTy (rkd r) k))
theorem Rep.mode {G : GC} {md md2 : Nat} {μ : Mem} {H : Heap} (h : Rep G md2 μ H) (e : ∀ r i k, 10 ≤ r → i < mC μ r → k < rsz r → rfS r k = true → refI md μ r i k = refI md2 μ r i k) : Rep G md μ H := by
  refine ⟨h.1, fun r i hr hi => ?_⟩
  obtain ⟨a, b, c, d⟩ := h.2 r i hr hi
  refine ⟨a, b, c, ?_⟩
  by_cases k : rkd r < 10
  · rw [ent_obj k] at d ⊢
    have : (List.range (rsz r)).map (slotV G md μ r i) = (List.range (rsz r)).map (slotV G md2 μ r i) := List.map_congr_left fun j hj => by
      unfold slotV
      generalize hk : kty (clTy (rkd r) j) = n
      rcases n with _ | _ | n
      · rfl
      · rfl
      · show va_rf (rfv G (rel r j) (refI md μ r i j)) = va_rf (rfv G (rel r j) (refI md2 μ r i j))
        rw [e r i j hr hi (List.mem_range.mp hj) (by unfold rfS; rw [hk, Bool.or_eq_true, decide_eq_true_eq, decide_eq_true_eq]; omega)]
    rw [this]; exact d
  · rw [ent_arr (by omega)] at d ⊢
    have q : vp_cell (G.2.2.2.1 (rkd r - 10)) (arrE G md μ r i) = vp_cell (G.2.2.2.1 (rkd r - 10)) (arrE G md2 μ r i) := by
      unfold arrE
      by_cases k1 : rkd r = 11
      · simp only [if_pos k1]
      · by_cases k2 : rkd r < 14
        · simp only [if_neg k1, if_pos k2]
        · simp only [if_neg k1, if_neg k2]
          show arrV _ (rsz r) (fun j => va_rf (rfv G (rel r 0) (refI md μ r i j))) = arrV _ (rsz r) (fun j => va_rf (rfv G (rel r 0) (refI md2 μ r i j)))
          exact arrV_ext fun j hj => by rw [e r i j hr hi hj (by unfold rfS; rw [Bool.or_eq_true, decide_eq_true_eq]; exact Or.inl (by omega))]
    have d2 : H[ad G r i]? = some (vp_cell (G.2.2.2.1 (rkd r - 10)) (arrE G md2 μ r i)) := d
    show H[ad G r i]? = some (vp_cell (G.2.2.2.1 (rkd r - 10)) (arrE G md μ r i))
    rw [q]; exact d2
theorem w_mode {md md2 md' k pc : Nat} {ls : List (Nat × V)} {st : List V} {μ : Mem} {nc ns : Nat} {Q : Option V → Mem → Prop} (e : ∀ r i j, 10 ≤ r → i < mC μ r → j < rsz r → rfS r j = true → refI md2 μ r i j = refI md μ r i j) (kk : Wp md2 md' k pc ls st μ nc ns Q) : Wp md md' k pc ls st μ nc ns Q := by
  intro G p l e' R s m args below meth c H locs als C h hl
  exact kk G p l e' R s m args below meth c H locs als C ⟨h.1.mode e, h.2⟩ hl
/-- regions with references that stay -/
def refR : List Nat := [10, 12, 13, 18, 26, 31, 32, 40, 44, 45, 46, 48, 52, 55]
theorem isS_out {r : Nat} (h : r ∉ refR) (k : Nat) : isS r k = 0 := by
  unfold isS
  split <;> first | rfl | exact absurd (by decide) h
def tgR (r k : Nat) : Nat := if rkd r < 10 then rel r k else rel r 0
theorem cov_c : ∀ r ∈ refR, r < 55 → ∀ i, i < cap r → ∀ k, k < rsz r → rfS r k = false ∨ isS r k = 0 ∨ (isS r k = 1 ∧ ord (tgR r k) (chs r i k) < 325 ∧ parT[ord (tgR r k) (chs r i k)]? = some (r, i, k)) := by decide +kernel
def covM (r i k : Nat) : Bool := !rfS r k || isS r k == 0 || (isS r k == 2 && decide (325 ≤ ord (tgR r k) (chs r i k)) && decide (ord (tgR r k) (chs r i k) < 374) && parT[ord (tgR r k) (chs r i k)]? == some (r, i, k))
theorem cov_M : ∀ r ∈ refR, 55 ≤ r → ∀ i, i < cap r → ∀ k, k < rsz r → covM r i k = true := by decide +kernel
theorem cov_m (r : Nat) (hr : r ∈ refR) (h : 55 ≤ r) (i : Nat) (hi : i < cap r) (k : Nat) (hk : k < rsz r) : rfS r k = false ∨ isS r k = 0 ∨ (isS r k = 2 ∧ 325 ≤ ord (tgR r k) (chs r i k) ∧ ord (tgR r k) (chs r i k) < 374 ∧ parT[ord (tgR r k) (chs r i k)]? = some (r, i, k)) := by
  have := cov_M r hr h i hi k hk
  unfold covM at this
  rw [Bool.or_eq_true, Bool.or_eq_true, Bool.and_eq_true, Bool.and_eq_true, Bool.and_eq_true, decide_eq_true_eq, decide_eq_true_eq, beq_iff_eq, beq_iff_eq, beq_iff_eq, Bool.not_eq_true'] at this
  rcases this with (z | z) | ⟨⟨⟨z1, z2⟩, z3⟩, z4⟩
  · exact Or.inl z
  · exact Or.inr (Or.inl z)
  · exact Or.inr (Or.inr ⟨z1, z2, z3, z4⟩)
theorem refR_in : ∀ r ∈ refR, r ≠ 0 ∧ 10 ≤ r ∧ r < 104 ∧ cN r 325 ≤ cap r ∧ cN r 374 ≤ cap r := by decide +kernel
theorem isS_c : ∀ r ∈ refR, (r < 55 → ∀ k, k < rsz r → isS r k ≤ 1) ∧ (55 ≤ r → ∀ k, k < rsz r → isS r k = 0 ∨ isS r k = 2) := by decide +kernel
theorem mode_c {ν : Mem} (c : Cnt ν 325) (q : RO 0 ν 325 []) (r i k : Nat) (hr : 10 ≤ r) (hi : i < mC ν r) (hk : k < rsz r) (hf : rfS r k = true) : refI 1 ν r i k = refI 0 ν r i k := by
  have e0 : refI 0 ν r i k = mR ν r i k := by unfold refI; rw [if_neg (fun z => by omega)]
  rw [e0]
  by_cases m : r ∈ refR
  · obtain ⟨r0, r1, r2, r3, -⟩ := refR_in r m
    by_cases h55 : r < 55
    · rcases cov_c r m h55 i (by rw [c.2 r hr] at hi; omega) k hk with z | z | ⟨z1, z2, z3⟩
      · rw [z] at hf; cases hf
      · exact refI_d z
      · rw [refI_s 1 z1 (by decide) (by decide)]
        exact (q _ (r, i, k) z3 r0 (Nat.zero_le _) z2 (by simp)).symm
    · rcases (isS_c r m).2 (by omega) k hk with z | z
      · exact refI_d z
      · unfold refI; rw [if_neg (fun y => by omega)]
  · exact refI_d (isS_out m k)
theorem mode_m {ν : Mem} (c : Cnt ν 374) (q : RO 325 ν 374 []) (r i k : Nat) (hr : 10 ≤ r) (hi : i < mC ν r) (hk : k < rsz r) (hf : rfS r k = true) : refI 2 ν r i k = refI 1 ν r i k := by
  by_cases m : r ∈ refR
  · obtain ⟨r0, r1, r2, -, r3⟩ := refR_in r m
    by_cases h55 : r < 55
    · have := (isS_c r m).1 h55 k hk
      unfold refI
      by_cases z : isS r k = 0
      · rw [if_neg (fun y => y.1 z), if_neg (fun y => y.1 z)]
      · rw [if_pos ⟨z, by omega⟩, if_pos ⟨z, by omega⟩]
    · rcases cov_m r m (by omega) i (by rw [c.2 r hr] at hi; omega) k hk with z | z | ⟨z1, z2, z3, z4⟩
      · rw [z] at hf; cases hf
      · rw [refI_d z, refI_d z]
      · rw [refI_s 2 z1 (by decide) (by decide)]
        unfold refI
        rw [if_neg (fun y => by omega)]
        exact (q _ (r, i, k) z4 r0 z2 z3 (by simp)).symm
  · rw [refI_d (isS_out m k), refI_d (isS_out m k)]
theorem cN_c : ∀ r, r < 55 → 10 ≤ r → cN r 325 = cap r := by decide +kernel
theorem cN_m : ∀ r, r < 104 → 10 ≤ r → cN r 374 = cap r := by decide +kernel
theorem CC_of {ν : Mem} (c : Cnt ν 325) : CC ν := ⟨fun r h1 h2 => (c.2 r h1).trans (cN_c r h2 h1), Or.inl (by rw [c.1]; omega)⟩
theorem CM_of {ν : Mem} (c : Cnt ν 374) : CM ν := fun r h1 h2 => (c.2 r h1).trans (cN_m r h2 h1)
theorem CM.cc {ν : Mem} (h : CM ν) : CC ν := ⟨fun r h1 h2 => h r h1 (by omega), Or.inr (fun r h1 h2 => h r (by omega) h2)⟩
theorem CC.cm {ν : Mem} (h : CC ν) (n : 374 ≤ mC ν 0) : CM ν := fun r h1 h2 => by
  by_cases c : r < 55
  · exact h.1 r h1 c
  · rcases h.2 with z | z
    · omega
    · exact z r (by omega) h2
theorem Cnt.fr {μ μ' : Mem} {N : Nat} {T : List At} (h : Cnt μ N) (g : Fr T μ μ') : Cnt μ' N := by
  unfold Cnt at h ⊢
  rw [g.C]; exact h
/-- nothing outside lo .. hi differs -/
def Kr (lo hi : Nat) (μ μ' : Mem) : Prop := ∀ r i k, ¬ (lo ≤ r ∧ r < hi) → mI μ' r i k = mI μ r i k ∧ mL μ' r i k = mL μ r i k ∧ mR μ' r i k = mR μ r i k
def inL (lo hi : Nat) (T : List At) : Bool := T.all (fun a => decide (lo ≤ a.1) && decide (a.1 < hi))
theorem Kr.of {lo hi : Nat} {μ μ' : Mem} {T : List At} (g : Fr T μ μ') (o : inL lo hi T = true) : Kr lo hi μ μ' := fun r i k h => g.1 r i k (by
  cases e : inT T r i k with
  | false => rfl
  | true =>
    exfalso
    obtain ⟨a, ha, hb⟩ := List.any_eq_true.mp e
    have h1 := List.all_eq_true.mp o a ha
    unfold inA at hb
    rw [Bool.and_eq_true, beq_iff_eq] at hb
    rw [Bool.and_eq_true, decide_eq_true_eq, decide_eq_true_eq, hb.1] at h1
    exact h h1)
theorem Kr.rf (lo hi : Nat) (μ : Mem) : Kr lo hi μ μ := fun _ _ _ _ => ⟨rfl, rfl, rfl⟩
theorem Kr.tr {lo hi : Nat} {a b c : Mem} (g : Kr lo hi b c) (h : Kr lo hi a b) : Kr lo hi a c := fun r i k z => ⟨(g r i k z).1.trans (h r i k z).1, (g r i k z).2.1.trans (h r i k z).2.1, (g r i k z).2.2.trans (h r i k z).2.2⟩
theorem Kr.stI {lo hi : Nat} {a b : Mem} {r i k : Nat} {v : Int32} (h : Kr lo hi a b) (hr : lo ≤ r ∧ r < hi) : Kr lo hi a (stI b r i k v) := fun r' i' k' z => by
  refine ⟨?_, (h r' i' k' z).2.1, (h r' i' k' z).2.2⟩
  rw [mI_stI, if_neg (fun y => z (by rw [y.1]; exact hr))]
  exact (h r' i' k' z).1
theorem Kr.stR {lo hi : Nat} {a b : Mem} {r i k : Nat} {v : Nat} (h : Kr lo hi a b) (hr : lo ≤ r ∧ r < hi) : Kr lo hi a (stR b r i k v) := fun r' i' k' z => by
  refine ⟨(h r' i' k' z).1, (h r' i' k' z).2.1, ?_⟩
  rw [mR_stR, if_neg (fun y => z (by rw [y.1]; exact hr))]
  exact (h r' i' k' z).2.2
def TCl : List At := [(10, none, none), (11, none, none), (12, none, none), (13, none, none), (14, none, none), (15, none, none), (16, none, none), (17, none, none), (18, none, none), (19, none, none), (20, none, none), (21, none, none), (22, none, none), (23, none, none), (24, none, none), (25, none, none), (26, none, none), (27, none, none), (28, none, none), (29, none, none), (30, none, none), (31, none, none), (32, none, none), (33, none, none), (34, none, none), (35, none, none), (36, none, none), (37, none, none), (38, none, none), (39, none, none), (40, none, none), (41, none, none), (42, none, none), (43, none, none), (44, none, none), (45, none, none), (46, none, none), (47, none, none), (48, none, none), (49, none, none), (50, none, none), (51, none, none), (52, none, none), (53, none, none), (54, none, none)]
theorem TCl_in {r : Nat} (h1 : 10 ≤ r) (h2 : r < 55) : (r, none, none) ∈ TCl := by
  have : ∀ r, r < 55 → (decide (r < 10) || TCl.contains (r, none, none)) = true := by decide
  have q := this r h2
  rw [Bool.or_eq_true, decide_eq_true_eq] at q
  rcases q with q | q
  · omega
  · simpa using q
theorem TCl_off {r i k : Nat} (h : ¬ (10 ≤ r ∧ r < 55)) : inT TCl r i k = false := by
  cases e : inT TCl r i k with
  | false => rfl
  | true =>
    exfalso
    obtain ⟨a, ha, hb⟩ := List.any_eq_true.mp e
    have h1 := List.all_eq_true.mp (show inL 10 55 TCl = true by decide) a ha
    unfold inA at hb
    rw [Bool.and_eq_true, beq_iff_eq] at hb
    rw [Bool.and_eq_true, decide_eq_true_eq, decide_eq_true_eq, hb.1] at h1
    exact h h1
def likeC (μ μ' : Mem) : Mem := (μ'.1, μ'.2.1, μ'.2.2.1, μ.2.2.2)
theorem Kr.fC {μ μ' : Mem} (g : Kr 10 55 μ μ') : Fr TCl μ (likeC μ μ') := ⟨fun r i k h => g r i k (fun z => by
  have : inT TCl r i k = true := List.any_eq_true.mpr ⟨_, TCl_in z.1 z.2, inA_nn⟩
  rw [h] at this; cases this), rfl⟩
theorem LaM.rows {μ μ' : Mem} {lv : Nat} {P : Pl} (h : LaM μ lv P) (w : ∀ r, 76 ≤ r → r ≤ 84 → mI μ' r 0 = mI μ r 0) : LaM μ' lv P := fun k hk => by
  obtain ⟨a, h1, h2, h3⟩ := h k hk
  refine ⟨a, by rw [w 76 (by omega) (by omega)]; exact h1, h2, ?_⟩
  rcases h3 with ⟨h3, h4⟩ | ⟨h3, h4, h5⟩
  · exact Or.inl ⟨by rw [w 77 (by omega) (by omega)]; exact h3, h4⟩
  · refine Or.inr ⟨by rw [w 77 (by omega) (by omega)]; exact h3, h4, brM_fr (fun r hr => w r ?_ ?_) h5⟩
    · simp at hr; omega
    · simp at hr; omega
theorem InvM.cls {μ μ' : Mem} {lv : Nat} {o : Ob} (h : InvM μ lv o) (g : Kr 10 55 μ μ') : InvM μ' lv o := by
  have F := g.fC
  have z : ∀ {r i k}, 55 ≤ r → inT TCl r i k = false := fun h => TCl_off (by omega)
  obtain ⟨⟨a1, a2, a3⟩, ⟨b1, b2⟩, c1, c2, c3, c4, c5⟩ := h
  have a1' : PlM (likeC μ μ') lv (zP o) := a1.fr F (by decide) (z (by omega))
  have a2' : LaM μ' lv (zP o) := a2.rows (fun r h1 h2 => funext fun j => (g r 0 j (by omega)).1)
  exact ⟨⟨a1', a2', fun k hk => (F.I (z (by omega))).trans (a3 k hk)⟩, ⟨(F.I (z (by omega))).trans b1, fun j k hj hk => (F.I (z (by omega))).trans (b2 j k hj hk)⟩, fun k hk => ⟨(F.I (z (by omega))).trans (c1 k hk).1, fun hb i hi => (F.I (z (by omega))).trans ((c1 k hk).2 hb i hi)⟩, ⟨(F.I (z (by omega))).trans c2.1, fun i hi => ⟨(F.I (z (by omega))).trans (c2.2 i hi).1, (F.I (z (by omega))).trans (c2.2 i hi).2.1, (F.I (z (by omega))).trans (c2.2 i hi).2.2⟩⟩, ⟨(F.I (z (by omega))).trans c3.1, fun k hk => (F.I (z (by omega))).trans (c3.2 k hk)⟩, (F.I (z (by omega))).trans c4, fun k hk => (F.L (z (by omega))).trans (c5 k hk)⟩
theorem LaS.cls {μ μ' : Mem} {lv : Nat} {P : Pl} (h : LaS lv μ P) (g : Kr 10 55 μ μ') : LaS lv μ' P := by
  have : LaS lv (likeC μ μ') P := h.fr g.fC (by decide)
  exact this
theorem InvC.mod {μ μ' : Mem} {p : Nat} {o : Ob} (h : InvC μ p o) (g : Kr 55 104 μ μ') : InvC μ' p o := by
  obtain ⟨hc, ⟨la, a1, a2, a3, a4⟩, b, t, d, e⟩ := h
  have p2 := hc.p2
  have N : ∀ {r i k}, r < 55 → mI μ' r i k = mI μ r i k := fun h => (g _ _ _ (by omega)).1
  have S : ∀ {w S}, StC μ w (zP o) S → StC μ' w (zP o) S := fun {w S} hs => by
    obtain ⟨s1, s2, s3, s4, s5⟩ := hs
    exact ⟨fun n hn => (N (by omega)).trans (s1 n hn), fun f hf => ⟨(N (by omega)).trans (s2 f hf).1, (N (by omega)).trans (s2 f hf).2.1, (N (by omega)).trans (s2 f hf).2.2⟩, (N (by omega)).trans s3, (N (by omega)).trans s4, (N (by omega)).trans s5⟩
  exact ⟨hc.frn (fun r i k hh => g r i k (by unfold NdC at hh; omega)), ⟨la, a1, (N (by omega)).trans a2, (N (by omega)).trans a3, fun j hj => S (a4 j hj)⟩, fun k hk => ⟨(N (by omega)).trans (b k hk).1, fun hb => S ((b k hk).2 hb)⟩, ⟨(N (by omega)).trans t.1, fun i hi => ⟨(N (by omega)).trans (t.2 i hi).1, (N (by omega)).trans (t.2 i hi).2.1, (N (by omega)).trans (t.2 i hi).2.2⟩⟩, ⟨(N (by omega)).trans d.1, fun k hk => (N (by omega)).trans (d.2 k hk)⟩, (N (by omega)).trans e⟩
/-- a text read by the class leaves the reference -/
theorem s_read_kr {μ : Mem} {p : Nat} {o : Ob} {z : Int32 × Mem} (ok : OkO o) (h : InvC μ p o) (e : s_read μ = some z) : Kr 10 55 μ z.2 := by
  have p2 := h.1.p2
  have d := h.2.2.2.2.1
  obtain ⟨μ1, e1, a1, k1, b1, c1⟩ := readText_e (μ := μ) (ip := 1 - p) ok.2.2.2.2.2.2.1 (byT_o ok) d.2 (by omega)
  have hZ : (tks (byB o) (zM o) 2001 0, zM o) = tksO o := rfl
  rw [hZ] at e1 a1 b1 c1
  have h1 : InvC μ1 p o := ⟨h.1.kc k1, h.2.kc k1 (by omega)⟩
  have r5 : mR μ 10 0 4 = 1 - p := h.1.2.1
  have f1 : mI (stI μ1 10 0 1 (nI 0)) 12 0 1 = (rdF (tksO o)).2 := by rw [mI_stI, if_neg (by omega)]; exact a1
  have h2 := h1.ten (rdF (tksO o)).2
  have head : s_read μ = if nI (rdF (tksO o)).1 = nI 0 then (ob (s_beginPlan (stR (stR (stI (stI μ1 10 0 1 (nI 0)) 10 0 2 (rdF (tksO o)).2) 10 0 3 (1 - p)) 10 0 4 p)) fun _ μ19 => some (nI (rdF (tksO o)).1, μ19)) else some (nI (rdF (tksO o)).1, stI (stI μ1 10 0 1 (nI 0)) 10 0 2 (rdF (tksO o)).2) := by
    have m4 : mR (stI (stI μ1 10 0 1 (nI 0)) 10 0 2 (rdF (tksO o)).2) 10 0 3 = p := h2.1.1
    have m5 : mR (stI (stI μ1 10 0 1 (nI 0)) 10 0 2 (rdF (tksO o)).2) 10 0 4 = 1 - p := h2.1.2.1
    unfold s_read
    rw [r5, if_pos (by omega), d.1, ob_eq e1, f1, mb_e, m4, m5, if_pos p2, if_pos (show 1 - p < 2 by omega), mb_e]
  rw [head] at e
  have K1 : Kr 10 55 μ μ1 := fun r i k hh => k1 r i k (by omega)
  have K2 : Kr 10 55 μ (stI (stI μ1 10 0 1 (nI 0)) 10 0 2 (rdF (tksO o)).2) := (K1.stI (by omega)).stI (by omega)
  by_cases c : nI (rdF (tksO o)).1 = nI 0
  · rw [if_pos c] at e
    cases e3 : s_beginPlan (stR (stR (stI (stI μ1 10 0 1 (nI 0)) 10 0 2 (rdF (tksO o)).2) 10 0 3 (1 - p)) 10 0 4 p) with
    | none => rw [e3] at e; cases e
    | some w =>
      rw [e3] at e
      have g3 := f_s_beginPlan e3
      obtain ⟨w1, w2⟩ := w
      have e4 : some (nI (rdF (tksO o)).1, w2) = some z := e
      cases e4
      exact (Kr.of g3 rfl).tr ((K2.stR (by omega)).stR (by omega))
  · rw [if_neg c] at e
    cases e
    exact K2
/-- a plan is begun -/
theorem s_begin_g {Z : Tks} {N : Mem} {ip p : Nat} {o : Ob} {s : Sg} (i2 : ip < 2) (p2 : p < 2) (hp : 1 - ip = p) (n4 : mR N 10 0 3 = ip) (n5 : mR N 10 0 4 = p) (hla : mI N 44 0 1 = nI 0) (t1 : mI N 10 0 1 = nI 0) (t2 : mI N 10 0 2 = -1) (q : PnC ip N s) (l : LwC ip N s) (hs : SgI Z s) (hg : SgG s) (h0 : (yL s).1 = 0) : ∃ μ', s_beginPlan N = some ((), μ') ∧ InvC μ' ip (rdO o s) := by
  obtain ⟨hk, hS⟩ := plG_ok hs hg h0
  obtain ⟨pl, st⟩ := q.pl hs hg h0
  have s4 := hs.2.2.2.2.2.2.2.1
  generalize hM : stR (stR N 31 0 0 ip) 31 1 0 ip = M
  have gI : ∀ r i, mI M r i = mI N r i := fun r i => by rw [← hM]; rfl
  have m4 : mR M 10 0 3 = ip := by rw [← hM, mR_stR, if_neg (by omega), mR_stR, if_neg (by omega)]; exact n4
  have m5 : mR M 10 0 4 = p := by rw [← hM, mR_stR, if_neg (by omega), mR_stR, if_neg (by omega)]; exact n5
  have m0 : mR M 31 0 0 = ip := by rw [← hM, mR_stR, if_neg (by omega), mR_stR, if_pos ⟨rfl, rfl, rfl⟩]
  have m1 : mR M 31 1 0 = ip := by rw [← hM, mR_stR, if_pos ⟨rfl, rfl, rfl⟩]
  have n5' : mR (stR N 31 0 0 ip) 10 0 3 = ip := by rw [mR_stR, if_neg (by omega)]; exact n4
  have st' : StC M ip (plG s) (stG s) := by
    obtain ⟨a, b, c, d, e⟩ := st
    exact ⟨fun n hn => by rw [gI]; exact a n hn, fun f hf => ⟨by rw [gI]; exact (b f hf).1, by rw [gI]; exact (b f hf).2.1, by rw [gI]; exact (b f hf).2.2⟩, by rw [gI]; exact c, by rw [gI]; exact d, by rw [gI]; exact e⟩
  obtain ⟨μ6, e6, t6⟩ := st_become_e (i := 2) hk st' (by omega)
  have g6 := f_st_become e6
  have w6 : WoC μ6 0 ip (plG s) (stG s) := by
    refine ⟨i2, (g6.R rfl).trans m0, ?_, ?_, t6⟩
    · obtain ⟨a1, a2, a3, a4, a5, a6, a7⟩ := pl
      exact ⟨(g6.I rfl).trans (by rw [gI]; exact a1), (g6.I rfl).trans (by rw [gI]; exact a2), (g6.I rfl).trans (by rw [gI]; exact a3), (g6.I rfl).trans (by rw [gI]; exact a4), fun f hf => (g6.I rfl).trans (by rw [gI]; exact a5 f hf), fun n hn => (g6.I rfl).trans (by rw [gI]; exact a6 n hn), fun n hn => (g6.I rfl).trans (by rw [gI]; exact a7 n hn)⟩
    · obtain ⟨cs, l1, l2, l3⟩ := l
      refine ⟨cs, by omega, (g6.I rfl).trans (by rw [gI]; exact l2), fun k hk => ?_⟩
      obtain ⟨a, b1, b2, b3⟩ := l3 k hk
      exact ⟨a, (g6.I rfl).trans (by rw [gI]; exact b1), b2, fun i hi => (g6.I rfl).trans (by rw [gI]; exact b3 i hi)⟩
  obtain ⟨μ7, e7, w7, a7⟩ := wo_settle_e hk hS w6
  have g7 := f_wo_settle e7
  obtain ⟨μ9, e9, z9⟩ := fillZ_e (stI (stI μ7 44 0 2 (nI 0)) 48 0 3 (nI 0))
  have g9 := f_s_beginPlan_L64 e9 (Fr.rf T_s_beginPlan_L64 _) (sbc (sa_m 0 rfl) sbn)
  have c7 : CCore μ7 ip (plG s) (stG s) := ⟨(g7.R rfl).trans ((g6.R rfl).trans m4), (g7.R rfl).trans ((g6.R rfl).trans (by rw [m5]; omega)), (g7.R rfl).trans ((g6.R rfl).trans m1), w7, a7⟩
  have K : ∀ r i k, r ≠ 44 → r ≠ 47 → r ≠ 48 → mI μ9 r i k = mI μ7 r i k ∧ mL μ9 r i k = mL μ7 r i k ∧ mR μ9 r i k = mR μ7 r i k := fun r i k h1 h2 h3 => by
    have o : inT T_s_beginPlan_L64 r i k = false := by
      unfold inT T_s_beginPlan_L64 inA
      simp [Ne.symm h2]
    exact ⟨(g9.I o).trans (by rw [mI_stI, if_neg (by omega), mI_stI, if_neg (by omega)]), g9.L o, g9.R o⟩
  have O : ∀ {r k}, (r = 10 ∨ (r = 44 ∧ k = 1)) → mI μ9 r 0 k = mI N r 0 k := fun {r k} hr => by
    have o9 : inT T_s_beginPlan_L64 r 0 k = false := by rcases hr with rfl | ⟨rfl, -⟩ <;> rfl
    have o7 : inT (T_wo_settle 0) r 0 k = false := by rcases hr with rfl | ⟨rfl, -⟩ <;> rfl
    have o6 : inT (T_st_become 2 ip) r 0 k = false := by rcases hr with rfl | ⟨rfl, -⟩ <;> rfl
    rw [g9.I o9, mI_stI, if_neg (by omega), mI_stI, if_neg (by omega), g7.I o7, g6.I o6, gI]
  refine ⟨μ9, ?_, c7.frn (fun r i k hh => K r i k (by unfold NdC at hh; omega) (by unfold NdC at hh; omega) (by unfold NdC at hh; omega)), ⟨0, by omega, (O (Or.inr ⟨rfl, rfl⟩)).trans hla, ?_, fun j hj => absurd hj (Nat.not_lt_zero _)⟩, fun k hk => ⟨(z9 k hk).trans rfl, fun hb => (by cases hb)⟩, ⟨?_, fun i hi => absurd hi (Nat.not_lt_zero _)⟩, ⟨(O (Or.inl rfl)).trans t1, fun k hk => absurd hk (Nat.not_lt_zero _)⟩, (O (Or.inl rfl)).trans t2⟩
  · unfold s_beginPlan
    simp only [n4, n5', i2, hM, ↓mb_e, m4, ↓ob_eq e6, ↓ob_eq e7, e9, ↓reduceIte]
  · rw [g9.I rfl, mI_stI, if_neg (by omega), mI_stI, if_pos ⟨rfl, rfl, rfl⟩]; rfl
  · rw [g9.I rfl, mI_stI, if_pos ⟨rfl, rfl, rfl⟩]; rfl
/-- the object that a constructor makes -/
def oX : Ob := (plG sg0, stG sg0, (0, fun _ _ => 0), (fun _ => false, fun _ _ => 0), (0, fun _ => 0, fun _ => 0, fun _ => false), (0, fun _ => 0), -1)
def ob0 : Ob := rdO oX sg0
def Z0 : Tks := tksO oX
theorem ob0_ok : OkO ob0 := by
  obtain ⟨b1, b2⟩ := plG_ok (sg0_I Z0) sg0_G rfl
  exact ⟨b1, b2, Nat.zero_le _, fun j hj => absurd hj (Nat.not_lt_zero _), fun k hk hb => (by cases hb), ⟨Nat.zero_le _, fun i hi => absurd hi (Nat.not_lt_zero _)⟩, Nat.zero_le _, fun k hk => absurd hk (Nat.not_lt_zero _)⟩
theorem ct_sluice {μ : Mem} {Q : Option V → Mem → Prop} (hN : invT[0]? = some (10, 0)) (hc : Cnt μ 1) (hr : RO 0 μ 1 []) (hq : ∀ ν, Cnt ν 325 → InvC ν 0 ob0 → Q none ν) : Wp 0 1 90 0 [(0, vr 10 0)] [] μ 0 0 Q := by
  refine kc_90 (i := 0) (N := 0) hN hc hr (fun ν c r x1 x2 x4 x5 z => ?_)
  refine w_mode (md2 := 1) (mode_c c r) ?_
  have hC : CC ν := CC_of c
  obtain ⟨ν1, e1, q, l⟩ := pl_empty_e ν (ip := 0) (by omega)
  have g1 := f_pl_empty e1
  obtain ⟨ν2, e2, i2⟩ := s_begin_g (Z := Z0) (o := oX) (N := ν1) (ip := 0) (p := 1) (by omega) (by omega) rfl ((g1.R rfl).trans x4) ((g1.R rfl).trans x5) ((g1.I rfl).trans z) ((g1.I rfl).trans x1) ((g1.I rfl).trans x2) q l (sg0_I _) sg0_G rfl
  have g2 := f_s_beginPlan e2
  have c2 : Cnt ν2 325 := (c.fr g1).fr g2
  refine rn_ok ckx_90 (cut := cux_90) 1 _ _ _ _ _ _ (And.intro (by decide) (And.intro (by decide) (And.intro (by decide) (And.intro (by decide) (And.intro rfl (And.intro (lt_cap hC (by decide) (by decide) (by decide)) (Exists.intro 0 (And.intro ((refI_d rfl).trans x4) (And.intro (by decide) (And.intro (by decide) (And.intro rfl (And.intro (lt_cap hC (by decide) (by decide) (by decide)) (And.intro (And.intro (Nat.le_of_ble_eq_true rfl) (Nat.le_of_ble_eq_true rfl)) (w_post ?_ (w_pl_empty (md := 1) (by decide) e1 hC (by decide))))))))))))))))
  rintro w μ1 ⟨rfl, rfl, hC1⟩
  refine And.intro (by decide) (And.intro (by decide) (And.intro (by decide) (And.intro (by decide) (And.intro rfl (And.intro (lt_cap hC1 (by decide) (by decide) (by decide)) (And.intro (And.intro (Nat.le_of_ble_eq_true rfl) (Nat.le_of_ble_eq_true rfl)) (w_post ?_ (w_s_beginPlan (md := 1) (by decide) e2 hC1))))))))
  rintro w μ1 ⟨rfl, rfl, hC2⟩
  exact And.intro (by decide) (And.intro (by decide) (And.intro rfl (And.intro rfl (And.intro (by decide) (And.intro (by decide) (hq _ c2 i2))))))

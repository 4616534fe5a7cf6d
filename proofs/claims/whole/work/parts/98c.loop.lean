/-! the law's loop and its beginning (printed by program) -/
theorem sw_ok : insOK 300 33 (.tableswitch 1179 0 37 #[167, 230, 253, 266, 279, 312, 345, 378, 427, 470, 493, 516, 529, 552, 565, 578, 591, 650, 663, 696, 709, 732, 755, 778, 791, 804, 827, 860, 873, 906, 939, 982, 1041, 1054, 1087, 1110, 1133, 1156], 0, 0, 0, 0) = true := by decide +kernel
def lwO : List Int := [167, 230, 253, 266, 279, 312, 345, 378, 427, 470, 493, 516, 529, 552, 565, 578, 591, 650, 663, 696, 709, 732, 755, 778, 791, 804, 827, 860, 873, 906, 939, 982, 1041, 1054, 1087, 1110, 1133, 1156]
def lwS : List Nat := [200, 263, 286, 299, 312, 345, 378, 411, 460, 503, 526, 549, 562, 585, 598, 611, 624, 683, 696, 729, 742, 765, 788, 811, 824, 837, 860, 893, 906, 939, 972, 1015, 1074, 1087, 1120, 1143, 1166, 1189]
theorem sw_dec : ∃ n, decode (mB 300) 33 = .ok (.tableswitch 1179 0 37 #[167, 230, 253, 266, 279, 312, 345, 378, 427, 470, 493, 516, 529, 552, 565, 578, 591, 650, 663, 696, 709, 732, 755, 778, 791, 804, 827, 860, 873, 906, 939, 982, 1041, 1054, 1087, 1110, 1133, 1156], n) := by
  have hq := sw_ok
  unfold insOK at hq
  simp only [Bool.and_eq_true] at hq
  have hq := hq.2.1
  split at hq
  · rename_i j n hj
    simp only [Bool.and_eq_true, decide_eq_true_eq] at hq
    exact ⟨n, by rw [hj, hq.1]⟩
  · cases hq
theorem sw_tab : ∀ v : Nat, v < 38 → ((33 : Int) + lwO.getD ((v : Int) - 0).toNat 0).toNat = lwS.getD v 0 := by decide +kernel
theorem sw_lo : ∀ t ∈ (1179 : Int) :: lwO, 0 ≤ ((33 : Nat) : Int) + t := by decide +kernel
section LawLoop
variable {p : Program} {l : Launch} {e : Env} {R : Room} {s : State} {m : MethodId} {args : Array Value} {below : List Frame} {meth meth0 : Method} {c : Code} {G : GC} {Z : State → Prop} {md mdc pc : Nat} {ls : List (Nat × V)} {st As : List V} {μ : Mem} {nc ns : Nat} {Q' : Option V → Mem → Prop}
theorem lw_way (C : Cx G 300 p R s m args meth0 c) {L : Nat} {xs : Nat → Int32} (X : Sx G s L xs) (hL : L ≤ 3072) {q : Nat} {o : Ob} (hq6 : q + 6 ≤ L) (hR : nc ≤ R.cells ∧ ns ≤ R.slots) (K : Kst μ o) (cm : CM μ) (n0 : 374 ≤ mC μ 0) (next : ∀ μ' o', Kst μ' o' → CM μ' → 374 ≤ mC μ' 0 → Wlw p l e R s m args below meth c G Z 2 1212 (lq q) [] μ' nc ns) : ∀ v, v < 38 → Wlw p l e R s m args below meth c G Z 2 (lwS.getD v 0) (lq q) [] μ nc ns := fun v hv => by
  match v, hv with
  | 0, _ => exact lc_200 C X hL hq6 hR K cm n0 next
  | 1, _ => exact lc_263 C X hL hq6 hR K cm n0 next
  | 2, _ => exact lc_286 C X hL hq6 hR K cm n0 next
  | 3, _ => exact lc_299 C X hL hq6 hR K cm n0 next
  | 4, _ => exact lc_312 C X hL hq6 hR K cm n0 next
  | 5, _ => exact lc_345 C X hL hq6 hR K cm n0 next
  | 6, _ => exact lc_378 C X hL hq6 hR K cm n0 next
  | 7, _ => exact lc_411 C X hL hq6 hR K cm n0 next
  | 8, _ => exact lc_460 C X hL hq6 hR K cm n0 next
  | 9, _ => exact lc_503 C X hL hq6 hR K cm n0 next
  | 10, _ => exact lc_526 C X hL hq6 hR K cm n0 next
  | 11, _ => exact lc_549 C X hL hq6 hR K cm n0 next
  | 12, _ => exact lc_562 C X hL hq6 hR K cm n0 next
  | 13, _ => exact lc_585 C X hL hq6 hR K cm n0 next
  | 14, _ => exact lc_598 C X hL hq6 hR K cm n0 next
  | 15, _ => exact lc_611 C X hL hq6 hR K cm n0 next
  | 16, _ => exact lc_624 C X hL hq6 hR K cm n0 next
  | 17, _ => exact lc_683 C X hL hq6 hR K cm n0 next
  | 18, _ => exact lc_696 C X hL hq6 hR K cm n0 next
  | 19, _ => exact lc_729 C X hL hq6 hR K cm n0 next
  | 20, _ => exact lc_742 C X hL hq6 hR K cm n0 next
  | 21, _ => exact lc_765 C X hL hq6 hR K cm n0 next
  | 22, _ => exact lc_788 C X hL hq6 hR K cm n0 next
  | 23, _ => exact lc_811 C X hL hq6 hR K cm n0 next
  | 24, _ => exact lc_824 C X hL hq6 hR K cm n0 next
  | 25, _ => exact lc_837 C X hL hq6 hR K cm n0 next
  | 26, _ => exact lc_860 C X hL hq6 hR K cm n0 next
  | 27, _ => exact lc_893 C X hL hq6 hR K cm n0 next
  | 28, _ => exact lc_906 C X hL hq6 hR K cm n0 next
  | 29, _ => exact lc_939 C X hL hq6 hR K cm n0 next
  | 30, _ => exact lc_972 C X hL hq6 hR K cm n0 next
  | 31, _ => exact lc_1015 C X hL hq6 hR K cm n0 next
  | 32, _ => exact lc_1074 C X hL hq6 hR K cm n0 next
  | 33, _ => exact lc_1087 C X hL hq6 hR K cm n0 next
  | 34, _ => exact lc_1120 C X hL hq6 hR K cm n0 next
  | 35, _ => exact lc_1143 C X hL hq6 hR K cm n0 next
  | 36, _ => exact lc_1166 C X hL hq6 hR K cm n0 next
  | 37, _ => exact lc_1189 C X hL hq6 hR K cm n0 next
  | n + 38, h => exact absurd h (by omega)
theorem lw_turn (C : Cx G 300 p R s m args meth0 c) {L : Nat} {xs : Nat → Int32} (X : Sx G s L xs) (hL : L ≤ 3072) {q : Nat} {o : Ob} (hq : q ≤ L) (hR : nc ≤ R.cells ∧ ns ≤ R.slots) (K : Kst μ o) (cm : CM μ) (n0 : 374 ≤ mC μ 0)
    (hret : ∀ (H : Heap) (locs : List Loc) (als : Array Slot), va_S (fun q => G.1 ≤ q) s.heap H locs → W p l e R s m args below meth c H locs nc ns Z (F0 m 1219 als [.int 1]))
    (kk : q + 6 ≤ L → ∀ μ' o', Kst μ' o' → CM μ' → 374 ≤ mC μ' 0 → Wlw p l e R s m args below meth c G Z 2 18 (lq (q + 6)) [] μ' nc ns) : Wlw p l e R s m args below meth c G Z 2 18 (lq q) [] μ nc ns := by
  refine xl_iload_n C (i := 3) (x := nI q) (ok_dec (show insOK 300 18 (.iload_n 3, 3, 0, 0, 0) = true by decide +kernel) (fun _ _ _ _ z => by cases z)) rfl ?_
  refine xl_aload_n C (i := 0) (r := 1) (j := 0) (ok_dec (show insOK 300 19 (.aload_n 0, 0, 0, 0, 0) = true by decide +kernel) (fun _ _ _ _ z => by cases z)) rfl ?_
  refine xl_slen C X (ok_dec (show insOK 300 20 (.arraylength, 0, 0, 0, 0) = true by decide +kernel) (fun _ _ _ _ z => by cases z)) ?_
  refine xl_bipush C (n := 6) (ok_dec (show insOK 300 21 (.bipush 6, 0, 0, 0, 0) = true by decide +kernel) (fun _ _ _ _ z => by cases z)) ?_
  refine xl_isub C (ok_dec (show insOK 300 23 (.isub, 0, 0, 0, 0) = true by decide +kernel) (fun _ _ _ _ z => by cases z)) ?_
  rw [show (Int8.ofInt 6).toInt32 = nI 6 by decide]
  refine xl_icmp_gt C (t := 1218) (ok_dec (show insOK 300 24 (.if_icmp .gt 1194, 1218, 0, 0, 0) = true by decide +kernel) (fun _ _ _ _ z => by cases z)) (by decide) (fun z => ?_) (fun z => ?_)
  · refine xl_iconst C (n := 1) (ok_dec (show insOK 300 1218 (.iconst 1, 0, 0, 0, 0) = true by decide +kernel) (fun _ _ _ _ z => by cases z)) ?_
    intro H locs als h hl
    exact hret H locs als h.2
  · have hq6 : q + 6 ≤ L := by
      rcases Nat.lt_or_ge L (q + 6) with c | c
      · refine absurd ?_ z
        by_cases h6 : 6 ≤ L
        · rw [pk_sub h6]
          exact nI_lt (by omega) (by omega)
        · have t : nI L - nI 6 < nI 0 := by
            rcases (show L = 0 ∨ L = 1 ∨ L = 2 ∨ L = 3 ∨ L = 4 ∨ L = 5 by omega) with rfl | rfl | rfl | rfl | rfl | rfl <;> decide
          rw [Int32.lt_iff_toInt_lt] at t ⊢
          rw [nI_toInt (by omega)] at t ⊢
          omega
      · exact c
    have next : ∀ μ' o', Kst μ' o' → CM μ' → 374 ≤ mC μ' 0 → Wlw p l e R s m args below meth c G Z 2 1212 (lq q) [] μ' nc ns := fun μ' o' K' cm' n' => by
      refine xl_iinc C (i := 3) (n := 6) (x := nI q) (ok_dec (show insOK 300 1212 (.iinc 3 6, 3, 0, 0, 0) = true by decide +kernel) (fun _ _ _ _ z => by cases z)) rfl (by decide) ?_
      refine xl_goto C (t := 18) (ok_dec (show insOK 300 1215 (.goto (-1197), 18, 0, 0, 0) = true by decide +kernel) (fun _ _ _ _ z => by cases z)) (by decide) ?_
      rw [show nI q + Int32.ofInt 6 = nI (q + 6) from nI_add q 6]
      exact kk hq6 μ' o' K' cm' n'
    refine xl_aload_n C (i := 0) (r := 1) (j := 0) (ok_dec (show insOK 300 27 (.aload_n 0, 0, 0, 0, 0) = true by decide +kernel) (fun _ _ _ _ z => by cases z)) rfl ?_
    refine xl_iload_n C (i := 3) (x := nI q) (ok_dec (show insOK 300 28 (.iload_n 3, 3, 0, 0, 0) = true by decide +kernel) (fun _ _ _ _ z => by cases z)) rfl ?_
    refine xl_siald C X (ok_dec (show insOK 300 29 (.iaload, 0, 0, 0, 0) = true by decide +kernel) (fun _ _ _ _ z => by cases z)) (vp_in_nI (show q < L by omega) (by omega)) ?_
    rw [nI_clamp (by omega)]
    refine xl_bipush C (n := 63) (ok_dec (show insOK 300 30 (.bipush 63, 0, 0, 0, 0) = true by decide +kernel) (fun _ _ _ _ z => by cases z)) ?_
    refine xl_iand C (ok_dec (show insOK 300 32 (.iand, 0, 0, 0, 0) = true by decide +kernel) (fun _ _ _ _ z => by cases z)) ?_
    generalize xs q &&& (Int8.ofInt 63).toInt32 = x
    obtain ⟨len, hd⟩ := sw_dec
    refine xl_switch C hd sw_lo (by decide) ?_
    by_cases ho : x.toInt < 0 ∨ 37 < x.toInt
    · rw [if_pos ho]
      exact next μ o K cm n0
    · rw [if_neg ho]
      obtain ⟨v, hv⟩ : ∃ v : Nat, x.toInt = (v : Int) := ⟨x.toInt.toNat, by omega⟩
      rw [hv] at ho ⊢
      have h38 : v < 38 := by omega
      have w := lw_way C X hL hq6 hR K cm n0 next v h38
      rw [← sw_tab v h38] at w
      exact w
theorem lw_loop (C : Cx G 300 p R s m args meth0 c) {L : Nat} {xs : Nat → Int32} (X : Sx G s L xs) (hL : L ≤ 3072) (hR : nc ≤ R.cells ∧ ns ≤ R.slots)
    (hret : ∀ (H : Heap) (locs : List Loc) (als : Array Slot), va_S (fun q => G.1 ≤ q) s.heap H locs → W p l e R s m args below meth c H locs nc ns Z (F0 m 1219 als [.int 1])) : ∀ (n q : Nat) (μ : Mem) (o : Ob), L ≤ q + n → q ≤ L → Kst μ o → CM μ → 374 ≤ mC μ 0 → Wlw p l e R s m args below meth c G Z 2 18 (lq q) [] μ nc ns := by
  intro n
  induction n with
  | zero =>
    intro q μ o h hq K cm n0
    exact lw_turn C X hL hq hR K cm n0 hret (fun h6 => absurd h6 (by omega))
  | succ n ih =>
    intro q μ o h hq K cm n0
    exact lw_turn C X hL hq hR K cm n0 hret (fun h6 μ' o' K' cm' n' => ih (q + 6) μ' o' (by omega) h6 K' cm' n')
theorem xl_newI (C : Cx G 300 p R s m args meth0 c) {n a : Nat} (hk : insOK 300 pc (.new n, a, 0, 0, 0) = true) (hD : dueC md μ a) (h1 : nc + 1 ≤ R.cells) (h2 : ns + rsz a ≤ R.slots) (kk : Wlw p l e R s m args below meth c G Z md (pc + 3) ls (vr a (mC μ a) :: st) (newC μ a) (nc + 1) (ns + rsz a)) : Wlw p l e R s m args below meth c G Z md pc ls st μ nc ns := by
  have ho := ok_own hk
  have hd := ok_dec hk (fun _ _ _ _ z => by cases z)
  have hx0 := hk
  unfold insOK at hx0
  rw [Bool.and_eq_true, Bool.and_eq_true] at hx0
  have hx : ((clk (mOwn 300)).any (fun e => e.1 == n && e.2.1 == rkd a) && decide (rkd a < 10)) = true := hx0.2.2
  rw [Bool.and_eq_true] at hx
  obtain ⟨e, he, hp⟩ := any_of hx.1
  simp only [Bool.and_eq_true, beq_iff_eq] at hp
  obtain ⟨rfl, hp⟩ := hp
  have h10 := of_decide_eq_true hx.2
  have hc := clk_ok _ ho e he
  rw [hp] at hc
  obtain ⟨i1, i2⟩ := ins_ok _ h10
  exact xl_new C hd h10 ⟨in_G hc rfl, in_G i1 rfl, in_G i2 rfl⟩ hD h1 h2 kk
theorem xl_initI (C : Cx G 300 p R s m args meth0 c) {n a d r i : Nat} (hk : insOK 300 pc (.invokespecial n, a, 2, 0, d) = true) (h10 : 10 ≤ r) (hi : i < mC μ r) (hd1 : 1 ≤ d) (hst : (st.map catV).sum ≤ 8) (hR3 : nc + mAc a ≤ R.cells) (hR4 : ns + mAs a ≤ R.slots) (hc : Wp md mdc a 0 (largs 0 [vr r i]) [] μ 0 0 Q') (kk : ∀ r μ', Q' r μ' → mC μ 0 ≤ mC μ' 0 → Wlw p l e R s m args below meth c G Z mdc (pc + 3) ls (r.toList ++ st) μ' (nc + mAc a) (ns + mAs a)) : Wlw p l e R s m args below meth c G Z md pc ls (vr r i :: st) μ nc ns := by
  have ho := ok_own hk
  have hd := ok_dec hk (fun _ _ _ _ z => by cases z)
  have hx0 := hk
  unfold insOK at hx0
  rw [Bool.and_eq_true, Bool.and_eq_true] at hx0
  have hx : ((mlk (mOwn 300)).any (fun e => e.1 == n && (e.2.1 == a && (e.2.2.1 == 2 && (2 == 2 || 2 == 3)))) && (iniT.any (fun e => e.1 == a) && callOK 300 a 0 d)) = true := hx0.2.2
  simp only [Bool.and_eq_true, beq_iff_eq] at hx
  obtain ⟨hl, hv, hcl⟩ := hx
  obtain ⟨hm, hca, rfl, hfr, hlo⟩ := call_mOK hcl
  obtain ⟨e, he, hp⟩ := any_of hv
  have hp := eq_of_beq hp
  subst hp
  obtain ⟨i1, i2, i3⟩ := ini_ok e he
  obtain ⟨x, hx, hp⟩ := any_of hl
  simp only [Bool.and_eq_true, beq_iff_eq] at hp
  have hl' : (mlk (mOwn 300)).any (fun x => x.1 == n && (x.2.1 == e.1 && x.2.2.1 == 2)) = true := List.any_eq_true.mpr ⟨x, hx, by simp [hp.1, hp.2.1, hp.2.2.1]⟩
  have hn : ([] : List V).length = mArg e.1 := hca
  have hA : (([vr r i] : List V).map catV).sum ≤ mLoc e.1 := by
    show 1 + 0 ≤ mLoc e.1
    omega
  exact xl_init (As := []) C hd hm (ml_of ho hl' (by decide)) (in_G i1 rfl) i2 i3 h10 hi hn hfr hlo hR3 hR4 hst hA hc kk
def mu0 : Mem := (fun _ _ _ => 0, fun _ _ _ => 0, fun _ _ _ => nul, fun _ => 0)
theorem cnt0 : Cnt mu0 0 := ⟨rfl, fun r _ => rfl⟩
theorem e_0 : invT[0]? = some (10, 0) ∧ parT[0]? = some (0, 0, 0) := by decide +kernel
theorem e_325 : invT[325]? = some (55, 0) ∧ parT[325]? = some (0, 0, 0) := by decide +kernel
theorem lw_begin (C : Cx G 300 p R s m args meth0 c) {L : Nat} {xs : Nat → Int32} (X : Sx G s L xs) (hL : L ≤ 3072) (hR : 374 ≤ R.cells ∧ 18256 ≤ R.slots)
    (hret : ∀ (H : Heap) (locs : List Loc) (als : Array Slot), va_S (fun q => G.1 ≤ q) s.heap H locs → W p l e R s m args below meth c H locs 374 18256 Z (F0 m 1219 als [.int 1])) : Wlw p l e R s m args below meth c G Z 0 0 [(0, vr 1 0)] [] mu0 0 0 := by
  refine xl_newI C (show insOK 300 0 (.new 7, 10, 0, 0, 0) = true by decide +kernel) (cnt0.due e_0.1 (fun _ => lv0 _ _)) (by omega) (Nat.le_trans (by decide) hR.2) ?_
  refine xl_dup C (v := vr 10 0) (ok_dec (show insOK 300 3 (.dup, 0, 0, 0, 0) = true by decide +kernel) (fun _ _ _ _ z => by cases z)) rfl ?_
  have c1 : Cnt (newC mu0 10) 1 := (cnt0.new e_0.1).2
  have r1 : RO 0 (newC mu0 10) 1 [] := RO.z (RO.new (E := []) (show RO 0 mu0 0 [] from fun n q _ _ _ hn => absurd hn (Nat.not_lt_zero _)) cnt0 e_0.1 e_0.2)
  refine xl_initI C (show insOK 300 4 (.invokespecial 9, 90, 2, 0, 2) = true by decide +kernel) (by omega) (show 0 < mC (newC mu0 10) 10 from Nat.zero_lt_one) (by omega) (by decide) (Nat.le_trans (by decide) hR.1) (Nat.le_trans (by decide) hR.2) (ct_sluice (Q := fun r ν => r = none ∧ Cnt ν 325 ∧ InvC ν 0 ob0) e_0.1 c1 r1 (fun ν c i => ⟨rfl, c, i⟩)) (fun w ν hw _ => ?_)
  obtain ⟨rfl, c2, i2⟩ := hw
  refine xl_astore_n C (i := 1) (r := 10) (j := 0) (ok_dec (show insOK 300 7 (.astore_n 1, 1, 0, 0, 0) = true by decide +kernel) (fun _ _ _ _ z => by cases z)) (by decide) ?_
  have m2 := (c2.new e_325.1).1
  refine xl_newI C (show insOK 300 8 (.new 10, 55, 0, 0, 0) = true by decide +kernel) (c2.due e_325.1 (fun _ => Or.inr (show 1 < 2 by decide))) (Nat.le_trans (by decide) hR.1) (Nat.le_trans (by decide) hR.2) ?_
  rw [m2]
  refine xl_dup C (v := vr 55 0) (ok_dec (show insOK 300 11 (.dup, 0, 0, 0, 0) = true by decide +kernel) (fun _ _ _ _ z => by cases z)) rfl ?_
  have c3 : Cnt (newC ν 55) 326 := (c2.new e_325.1).2
  have r3 : RO 325 (newC ν 55) 326 [] := fun n q hq h0 hb hn _ => by
    have hn5 : n = 325 := by omega
    subst hn5
    rw [e_325.2] at hq
    cases hq
    exact absurd rfl h0
  have x3 : ∀ q, q ≠ 17 → mI (newC ν 55) 55 0 q = 0 := fun q _ => by rw [mI_newC, if_pos ⟨rfl, m2.symm⟩]
  have i3 : InvC (newC ν 55) 0 ob0 := i2.mod (Kr.new (Kr.rf 55 104 ν) 55)
  refine xl_initI C (show insOK 300 12 (.invokespecial 12, 154, 2, 0, 1) = true by decide +kernel) (by omega) (show 0 < mC (newC ν 55) 55 by rw [mC_newC, if_pos rfl]; omega) (by omega) (by decide) (Nat.le_trans (by decide) hR.1) (Nat.le_trans (by decide) hR.2) (ct_model (Q := fun r ν => r = none ∧ Cnt ν 374 ∧ Kst ν ob0) e_325.1 c3 r3 x3 i3 (fun ν c i k a => ⟨rfl, c, ob0_ok, 0, 0, i, k, a⟩)) (fun w ν4 hw _ => ?_)
  obtain ⟨rfl, c4, K4⟩ := hw
  refine xl_astore_n C (i := 2) (r := 55) (j := 0) (ok_dec (show insOK 300 15 (.astore_n 2, 2, 0, 0, 0) = true by decide +kernel) (fun _ _ _ _ z => by cases z)) (by decide) ?_
  refine xl_iconst C (n := 0) (ok_dec (show insOK 300 16 (.iconst 0, 0, 0, 0, 0) = true by decide +kernel) (fun _ _ _ _ z => by cases z)) ?_
  refine xl_istore_n C (i := 3) (ok_dec (show insOK 300 17 (.istore_n 3, 3, 0, 0, 0) = true by decide +kernel) (fun _ _ _ _ z => by cases z)) (by decide) ?_
  exact lw_loop C X hL hR hret L 0 ν4 ob0 (by omega) (by omega) K4 (CM_of c4) (by rw [c4.1]; omega)
end LawLoop


/-! the class reads: an empty plan, a whole text -/
def untM (ip k n c : Nat) (μ : Mem) : Mem := stI (stI (stI (stI (stI μ 24 ip k (nI n)) 25 ip n (nI c)) 18 ip 11 (nI (n + 1))) 25 ip (n + 1) (nI 20006)) 18 ip 11 (nI (n + 2))
theorem untold_e {μ : Mem} {ip k n c : Nat} (h : mI μ 18 ip 11 = nI n) (hk : k < 4) (hn : n + 2 ≤ 408) : pl_addUntoldLaw ip (nI k) (nI c) μ = some ((), untM ip k n c μ) := by
  have f1 : mI (stI μ 24 ip k (nI n)) 18 ip 11 = nI n := by rw [mI_stI, if_neg (by omega)]; exact h
  have f2 : mI (stI (stI μ 24 ip k (nI n)) 25 ip n (nI c)) 18 ip 11 = nI n := by rw [mI_stI, if_neg (by omega)]; exact f1
  have f3 : mI (stI (stI (stI μ 24 ip k (nI n)) 25 ip n (nI c)) 18 ip 11 (nI (n + 1))) 18 ip 11 = nI (n + 1) := by rw [mI_stI, if_pos ⟨rfl, rfl, rfl⟩]
  have f4 : mI (stI (stI (stI (stI μ 24 ip k (nI n)) 25 ip n (nI c)) 18 ip 11 (nI (n + 1))) 25 ip (n + 1) (nI 20006)) 18 ip 11 = nI (n + 1) := by rw [mI_stI, if_neg (by omega)]; exact f3
  unfold pl_addUntoldLaw pl_addCode untM
  simp (disch := omega) only [inB_nI, cl_nI, h, f1, f2, f3, f4, nI_leF, nI_add, ↓mb_e, ob_some, ↓reduceIte]
theorem untM_o {ip k n c : Nat} {μ : Mem} {r i j : Nat} (h1 : r ≠ 24) (h2 : r ≠ 25) (h3 : ¬ (r = 18 ∧ j = 11)) : mI (untM ip k n c μ) r i j = mI μ r i j := by
  unfold untM
  rw [mI_stI, if_neg (by omega), mI_stI, if_neg (by omega), mI_stI, if_neg (by omega), mI_stI, if_neg (by omega), mI_stI, if_neg (by omega)]
theorem untM_11 {ip k n c : Nat} {μ : Mem} : mI (untM ip k n c μ) 18 ip 11 = nI (n + 2) := by
  unfold untM
  rw [mI_stI, if_pos ⟨rfl, rfl, rfl⟩]
theorem untM_24 {ip k n c : Nat} {μ : Mem} (j : Nat) : mI (untM ip k n c μ) 24 ip j = if j = k then nI n else mI μ 24 ip j := by
  unfold untM
  rw [mI_stI, if_neg (by omega), mI_stI, if_neg (by omega), mI_stI, if_neg (by omega), mI_stI, if_neg (by omega), mI_stI]
  by_cases z : j = k
  · rw [if_pos ⟨rfl, rfl, z⟩, if_pos z]
  · rw [if_neg (by omega), if_neg z]
theorem untM_25 {ip k n c : Nat} {μ : Mem} (j : Nat) : mI (untM ip k n c μ) 25 ip j = if j = n + 1 then nI 20006 else if j = n then nI c else mI μ 25 ip j := by
  unfold untM
  rw [mI_stI, if_neg (by omega), mI_stI]
  by_cases z : j = n + 1
  · rw [if_pos ⟨rfl, rfl, z⟩, if_pos z]
  · rw [if_neg (by omega), if_neg z, mI_stI, if_neg (by omega), mI_stI]
    by_cases y : j = n
    · rw [if_pos ⟨rfl, rfl, y⟩, if_pos y]
    · rw [if_neg (by omega), if_neg y, mI_stI, if_neg (by omega)]
theorem st_empty_e (μ : Mem) (ip : Nat) : ∃ μ', st_empty ip μ = some ((), μ') ∧ (∀ k, k < 12 → mI μ' 27 ip k = nI 0) ∧ (∀ k, k < 6 → mI μ' 28 ip k = (-2 : Int32)) ∧ (∀ k, k < 6 → mI μ' 29 ip k = nI 0) ∧ (∀ k, k < 6 → mI μ' 30 ip k = nI 0) ∧ mI μ' 26 ip 4 = nI 8 ∧ mI μ' 26 ip 5 = nI 0 ∧ mI μ' 26 ip 6 = nI 0 := by
  obtain ⟨μ1, e1, a1⟩ := fill_I27 μ ip (nI 0)
  obtain ⟨μ2, e2, a2⟩ := fill_I28 μ1 ip (-2)
  obtain ⟨μ3, e3, a3⟩ := fill_I29 μ2 ip (nI 0)
  obtain ⟨μ4, e4, a4⟩ := fill_I30 μ3 ip (nI 0)
  have g2 := f_j_fillI_r28 e2
  have g3 := f_j_fillI_r29 e3
  have g4 := f_j_fillI_r30 e4
  refine ⟨stI (stI (stI μ4 26 ip 4 (nI 8)) 26 ip 5 (nI 0)) 26 ip 6 (nI 0), ?_, fun k hk => ?_, fun k hk => ?_, fun k hk => ?_, fun k hk => ?_, ?_, ?_, ?_⟩
  · unfold st_empty
    simp only [↓ob_eq e1, ↓ob_eq e2, ↓ob_eq e3, ↓ob_eq e4, ↓mb_e]
  · rw [mI_stI, if_neg (by omega), mI_stI, if_neg (by omega), mI_stI, if_neg (by omega), g4.I rfl, g3.I rfl, g2.I rfl]; exact a1 k hk
  · rw [mI_stI, if_neg (by omega), mI_stI, if_neg (by omega), mI_stI, if_neg (by omega), g4.I rfl, g3.I rfl]; exact a2 k hk
  · rw [mI_stI, if_neg (by omega), mI_stI, if_neg (by omega), mI_stI, if_neg (by omega), g4.I rfl]; exact a3 k hk
  · rw [mI_stI, if_neg (by omega), mI_stI, if_neg (by omega), mI_stI, if_neg (by omega)]; exact a4 k hk
  · rw [mI_stI, if_neg (by omega), mI_stI, if_neg (by omega), mI_stI, if_pos ⟨rfl, rfl, rfl⟩]
  · rw [mI_stI, if_neg (by omega), mI_stI, if_pos ⟨rfl, rfl, rfl⟩]
  · rw [mI_stI, if_pos ⟨rfl, rfl, rfl⟩]
theorem pl_empty_e (μ : Mem) {ip : Nat} (i2 : ip < 2) : ∃ μ', pl_empty ip μ = some ((), μ') ∧ PnC ip μ' sg0 ∧ LwC ip μ' sg0 := by
  obtain ⟨μ5, e5, a27, a28, a29, a30, b4, b5, b6⟩ := st_empty_e (stI (stI (stI (stI μ 18 ip 0 (nI 0)) 18 ip 1 (nI 0)) 18 ip 2 (nI 0)) 18 ip 3 (nI 0)) ip
  have g5 := f_st_empty e5
  have c0 : mI μ5 18 ip 0 = nI 0 := by rw [g5.I rfl, mI_stI, if_neg (by omega), mI_stI, if_neg (by omega), mI_stI, if_neg (by omega), mI_stI, if_pos ⟨rfl, rfl, rfl⟩]
  have c1 : mI μ5 18 ip 1 = nI 0 := by rw [g5.I rfl, mI_stI, if_neg (by omega), mI_stI, if_neg (by omega), mI_stI, if_pos ⟨rfl, rfl, rfl⟩]
  have c2 : mI μ5 18 ip 2 = nI 0 := by rw [g5.I rfl, mI_stI, if_neg (by omega), mI_stI, if_pos ⟨rfl, rfl, rfl⟩]
  have c3 : mI μ5 18 ip 3 = nI 0 := by rw [g5.I rfl, mI_stI, if_pos ⟨rfl, rfl, rfl⟩]
  have u0 := untold_e (μ := stI μ5 18 ip 11 (nI 0)) (k := 0) (n := 0) (c := 10001) (by rw [mI_stI, if_pos ⟨rfl, rfl, rfl⟩]) (by omega) (by omega)
  have u1 := untold_e (k := 1) (c := 10000) (untM_11 (ip := ip) (k := 0) (n := 0) (c := 10001) (μ := stI μ5 18 ip 11 (nI 0))) (by omega) (by omega)
  have u2 := untold_e (k := 2) (c := 1) (untM_11 (ip := ip) (k := 1) (n := 0 + 2) (c := 10000) (μ := untM ip 0 0 10001 (stI μ5 18 ip 11 (nI 0)))) (by omega) (by omega)
  have u3 := untold_e (k := 3) (c := 0) (untM_11 (ip := ip) (k := 2) (n := 0 + 2 + 2) (c := 1) (μ := untM ip 1 (0 + 2) 10000 (untM ip 0 0 10001 (stI μ5 18 ip 11 (nI 0))))) (by omega) (by omega)
  refine ⟨untM ip 3 (0 + 2 + 2 + 2) 0 (untM ip 2 (0 + 2 + 2) 1 (untM ip 1 (0 + 2) 10000 (untM ip 0 0 10001 (stI μ5 18 ip 11 (nI 0))))), ?_, ?_, ?_⟩
  · unfold pl_empty
    simp only [↓mb_e, ↓ob_eq e5, ↓ob_eq u0, ↓ob_eq u1, ↓ob_eq u2, ↓ob_eq u3]
  · have o : ∀ r j, r ≠ 24 → r ≠ 25 → ¬ (r = 18 ∧ j = 11) → mI (untM ip 3 (0 + 2 + 2 + 2) 0 (untM ip 2 (0 + 2 + 2) 1 (untM ip 1 (0 + 2) 10000 (untM ip 0 0 10001 (stI μ5 18 ip 11 (nI 0)))))) r ip j = mI μ5 r ip j := fun r j h1 h2 h3 => by
      rw [untM_o h1 h2 h3, untM_o h1 h2 h3, untM_o h1 h2 h3, untM_o h1 h2 h3, mI_stI, if_neg (by omega)]
    refine ⟨i2, (o _ _ (by omega) (by omega) (by omega)).trans c0, (o _ _ (by omega) (by omega) (by omega)).trans c1, (o _ _ (by omega) (by omega) (by omega)).trans c2, (o _ _ (by omega) (by omega) (by omega)).trans (c3.trans rfl), (o _ _ (by omega) (by omega) (by omega)).trans (b4.trans rfl), ⟨(o _ _ (by omega) (by omega) (by omega)).trans b5, (o _ _ (by omega) (by omega) (by omega)).trans b6⟩, fun l w hw => ?_, fun l w hw => ?_, fun f hf => absurd hf (Nat.not_lt_zero _), fun f hf => absurd hf (Nat.not_lt_zero _), fun f hf => ⟨?_, ?_⟩, fun f hf => (o _ _ (by omega) (by omega) (by omega)).trans (a30 f hf)⟩
    · rw [show lgs (yN sg0) = [] from rfl] at hw; simp at hw
    · rw [show fds (yN sg0) = [] from rfl] at hw; simp at hw
    · rw [o _ _ (by omega) (by omega) (by omega), if_neg (show ¬ f < (yC sg0).2.1 from Nat.not_lt_zero _)]; exact a28 f hf
    · rw [o _ _ (by omega) (by omega) (by omega), if_neg (show ¬ f < (yC sg0).2.1 from Nat.not_lt_zero _)]; exact a29 f hf
  · refine ⟨8, by omega, untM_11, fun k hk => ?_⟩
    rcases (by omega : k = 0 ∨ k = 1 ∨ k = 2 ∨ k = 3) with rfl | rfl | rfl | rfl
    · refine ⟨0, ?_, by decide, fun i hi => ?_⟩
      · rw [untM_24, if_neg (by omega), untM_24, if_neg (by omega), untM_24, if_neg (by omega), untM_24, if_pos rfl]
      · have hi2 : i < 2 := hi
        rcases (by omega : i = 0 ∨ i = 1) with rfl | rfl
        · rw [untM_25, if_neg (by omega), if_neg (by omega), untM_25, if_neg (by omega), if_neg (by omega), untM_25, if_neg (by omega), if_neg (by omega), untM_25, if_neg (by omega), if_pos rfl]; rfl
        · rw [untM_25, if_neg (by omega), if_neg (by omega), untM_25, if_neg (by omega), if_neg (by omega), untM_25, if_neg (by omega), if_neg (by omega), untM_25, if_pos rfl]; rfl
    · refine ⟨2, ?_, by decide, fun i hi => ?_⟩
      · rw [untM_24, if_neg (by omega), untM_24, if_neg (by omega), untM_24, if_pos rfl]
      · have hi2 : i < 2 := hi
        rcases (by omega : i = 0 ∨ i = 1) with rfl | rfl
        · rw [untM_25, if_neg (by omega), if_neg (by omega), untM_25, if_neg (by omega), if_neg (by omega), untM_25, if_neg (by omega), if_pos rfl]; rfl
        · rw [untM_25, if_neg (by omega), if_neg (by omega), untM_25, if_neg (by omega), if_neg (by omega), untM_25, if_pos rfl]; rfl
    · refine ⟨4, ?_, by decide, fun i hi => ?_⟩
      · rw [untM_24, if_neg (by omega), untM_24, if_pos rfl]
      · have hi2 : i < 2 := hi
        rcases (by omega : i = 0 ∨ i = 1) with rfl | rfl
        · rw [untM_25, if_neg (by omega), if_neg (by omega), untM_25, if_neg (by omega), if_pos rfl]; rfl
        · rw [untM_25, if_neg (by omega), if_neg (by omega), untM_25, if_pos rfl]; rfl
    · refine ⟨6, ?_, by decide, fun i hi => ?_⟩
      · rw [untM_24, if_pos rfl]
      · have hi2 : i < 2 := hi
        rcases (by omega : i = 0 ∨ i = 1) with rfl | rfl
        · rw [untM_25, if_neg (by omega), if_pos rfl]; rfl
        · rw [untM_25, if_pos rfl]; rfl
/-- what reading a text may write -/
def Kc (ip : Nat) (μ μ' : Mem) : Prop := ∀ r i k, ¬ ((12 ≤ r ∧ r ≤ 17) ∨ (18 ≤ r ∧ r ≤ 30 ∧ i = ip)) → mI μ' r i k = mI μ r i k ∧ mL μ' r i k = mL μ r i k ∧ mR μ' r i k = mR μ r i k
def okT (ip : Nat) (T : List At) : Bool := T.all (fun a => (decide (12 ≤ a.1) && decide (a.1 ≤ 17)) || ((decide (18 ≤ a.1) && decide (a.1 ≤ 30)) && a.2.1 == some ip))
theorem Kc.of {ip : Nat} {μ μ' : Mem} {T : List At} (g : Fr T μ μ') (o : okT ip T = true) : Kc ip μ μ' := fun r i k h => g.1 r i k (by
  cases e : inT T r i k with
  | false => rfl
  | true =>
    exfalso
    obtain ⟨a, ha, hb⟩ := List.any_eq_true.mp e
    have h1 := List.all_eq_true.mp o a ha
    unfold inA at hb
    rw [Bool.and_eq_true, Bool.and_eq_true, beq_iff_eq] at hb
    simp only [Bool.and_eq_true, Bool.or_eq_true, decide_eq_true_eq, beq_iff_eq] at h1
    obtain ⟨b1, b2, -⟩ := hb
    rcases h1 with h1 | ⟨h1, h2⟩
    · omega
    · rw [h2] at b2
      simp only [beq_iff_eq] at b2
      omega)
theorem Kc.tr {ip : Nat} {a b c : Mem} (g : Kc ip b c) (h : Kc ip a b) : Kc ip a c := fun r i k z => ⟨(g r i k z).1.trans (h r i k z).1, (g r i k z).2.1.trans (h r i k z).2.1, (g r i k z).2.2.trans (h r i k z).2.2⟩
theorem readText_e {μ : Mem} {X : Nat → Int32} {B : Nat → Nat} {m ip : Nat} (hm : m ≤ 2000) (hb : ByT X B m) (hx : ∀ k, k < m → mI μ 11 0 k = X k) (i2 : ip < 2) : ∃ μ', rd_readText_r11 (nI m) ip μ = some (nI (rdF (tks B m 2001 0, m)).1, μ') ∧ mI μ' 12 0 1 = (rdF (tks B m 2001 0, m)).2 ∧ Kc ip μ μ' ∧ (∀ φ, gText (tks B m 2001 0, m) = .error φ → φ.1 = 1 ∨ φ.1 = 2) ∧ ∀ r, gText (tks B m 2001 0, m) = .ok r → PnC ip μ' r ∧ LwC ip μ' r := by
  obtain ⟨μ1, e1, t1⟩ := to_scan_e hm hb hx
  have g1 := f_to_scan_r11 e1
  obtain ⟨μ2, e2, p2, l2⟩ := pl_empty_e (stR μ1 12 0 3 ip) i2
  have g2 := f_pl_empty e2
  have hz := ZOK_tks (B := B) hm
  generalize hZ : (tks B m 2001 0, m) = Z at *
  have f1 : mR (stR μ1 12 0 3 ip) 12 0 3 = ip := by rw [mR_stR, if_pos ⟨rfl, rfl, rfl⟩]
  generalize hM : stI (stI (stI (stI (stI μ2 12 0 4 (nI 0)) 12 0 0 (nI 0)) 12 0 1 (-1)) 12 0 5 (nI 0)) 12 0 6 (-1) = M
  have g3 : Fr [(12, none, some 4), (12, none, some 0), (12, none, some 1), (12, none, some 5), (12, none, some 6)] μ2 M := by
    rw [← hM]
    exact Fr.stI (Fr.stI (Fr.stI (Fr.stI (Fr.stI (Fr.rf _ _) (iT 0 rfl inA_ns)) (iT 1 rfl inA_ns)) (iT 2 rfl inA_ns)) (iT 3 rfl inA_ns)) (iT 4 rfl inA_ns)
  have g0 : Fr [(12, none, some 3)] μ1 (stR μ1 12 0 3 ip) := Fr.stR (Fr.rf _ _) (iT 0 rfl inA_ns)
  have cu : CuC Z ip M sg0 := by
    refine ⟨((t1.fr g0 rfl).fr g2 rfl).fr g3 rfl, (g3.R rfl).trans ((g2.R rfl).trans f1), ?_, ?_, ?_, ?_⟩
    · rw [← hM, mI_stI, if_neg (by omega), mI_stI, if_neg (by omega), mI_stI, if_neg (by omega), mI_stI, if_neg (by omega), mI_stI, if_pos ⟨rfl, rfl, rfl⟩]; rfl
    · rw [← hM, mI_stI, if_neg (by omega), mI_stI, if_neg (by omega), mI_stI, if_neg (by omega), mI_stI, if_pos ⟨rfl, rfl, rfl⟩]
    · rw [← hM, mI_stI, if_neg (by omega), mI_stI, if_pos ⟨rfl, rfl, rfl⟩]; rfl
    · rw [← hM, mI_stI, if_pos ⟨rfl, rfl, rfl⟩]; rfl
  have p3 : PnC ip M sg0 := p2.fr g3 rfl
  have l3 : LwC ip M sg0 := l2.fr g3 rfl (Nat.le_refl _) rfl
  obtain ⟨μ', a1, a2, a3, a4⟩ := tells_e hz 401 sg0 M 60000 0 (by omega) (by omega) (Nat.le_refl _) (sg0_I Z) cu p3 l3
  have g4 : Fr (T_rd_readText_r11_L52 ip) M μ' := by
    refine f_rd_readText_r11_L52 (T := T_rd_readText_r11_L52 ip) (z := (_, μ')) a1 (Fr.rf _ _) (fun _ _ _ h => h) rfl cu.2.1 (fun μ z h fr => ?_)
    split at h
    · rw [mb_e] at h
      cases h
      exact Fr.stI (Fr.stI fr (iT 2 rfl inA_ns)) (iT 3 rfl inA_ns)
    · cases h; exact fr
  have eF : rdF Z = (match gTells Z 401 sg0 with | .error φ => φ | .ok s => yL s) := rfl
  refine ⟨μ', ?_, ?_, ?_, a3, a4⟩
  · unfold rd_readText_r11
    rw [ob_eq e1, f1, if_pos i2, ob_eq e2, mb_e, mb_e, hM]
    refine a1.trans ?_
    rw [eF]
    cases gTells Z 401 sg0 <;> rfl
  · rw [a2, eF]
    cases gTells Z 401 sg0 <;> rfl
  · have k1 : Kc ip μ μ1 := Kc.of g1 rfl
    have k0 : Kc ip μ1 (stR μ1 12 0 3 ip) := Kc.of g0 rfl
    have k3 : Kc ip μ2 M := Kc.of g3 rfl
    have k2 : Kc ip (stR μ1 12 0 3 ip) μ2 := Kc.of g2 (by
      rcases (by omega : ip = 0 ∨ ip = 1) with rfl | rfl <;> rfl)
    have k4 : Kc ip M μ' := Kc.of g4 (by
      rcases (by omega : ip = 0 ∨ ip = 1) with rfl | rfl <;> rfl)
    exact k4.tr (k3.tr (k2.tr (k0.tr k1)))

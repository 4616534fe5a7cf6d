/-! the class' water: which logs have a way out; the flood -/
def cO (P : Pl) (S : Nat → Int32) (n : Nat) (p : Nat → Bool) : Bool := decide (0 < sW S n) && (decide (10 ≤ pTo P n) || p (pTo P n))
theorem cO_e (P : Pl) (S : Nat → Int32) (n : Nat) (p : Nat → Bool) : cO P S n p = (decide (0 < sW S n) && (decide (10 ≤ pTo P n) || p (pTo P n))) := rfl
def opL (P : Pl) (S : Nat → Int32) (l : Nat) : Prop := ∃ t, Cl P S (fun m => m = l) t ∧ outL P S t
theorem wa_open_in {w p s : Nat} {P : Pl} {S : Nat → Int32} (hk : PlOK P) (hS : StOK P S) (x : Int32) (K : Mem → Option (Unit × Mem)) (Q : Mem → Prop) : ∀ (μ : Mem) (q : Nat → Bool), PlC μ p P → StC μ s P S → RB μ 39 w (pLg P) q → (∀ μ', PlC μ' p P → StC μ' s P S → RB μ' 39 w (pLg P) (gs (cO P S) (pLog P) q (pNo P)) → ∃ ν, K μ' = some ((), ν) ∧ Q ν) → ∃ ν, wa_openLogs_L49 w p s x K (nI 0) μ = some ((), ν) ∧ Q ν := by
  intro μ q hP hs hq hK
  have hk0 := hk
  obtain ⟨k1, k2, k3, k4, k5, -⟩ := hk
  refine fixN_up (fun i (self : Int32 → Mem → Option (Unit × Mem)) => ∀ μ, PlC μ p P → StC μ s P S → RB μ 39 w (pLg P) (gs (cO P S) (pLog P) q i) → ∃ ν, self (nI i) μ = some ((), ν) ∧ Q ν) (pNo P) ?_ ?_ 60000 0 (by omega) (by omega) μ hP hs hq
  · intro i self hi ih μ hP hs hq
    have h4 := k4 i hi
    have h5 := k5 i hi
    have hto : pTo P i < 2147483648 := by omega
    obtain ⟨w1, w2⟩ := hS.1 i hi
    unfold wa_openLogs_B49
    have st0 : cO P S i (gs (cO P S) (pLog P) q i) = false → gs (cO P S) (pLog P) q (i + 1) = gs (cO P S) (pLog P) q i := fun z => by simp only [gs, z]; rfl
    have st1 : cO P S i (gs (cO P S) (pLog P) q i) = true → gs (cO P S) (pLog P) q (i + 1) = ad1 (gs (cO P S) (pLog P) q i) (pLog P i) := fun z => by simp only [gs, z, if_true]
    by_cases c1 : sW S i = 0
    · rw [c1] at w1
      simp (disch := omega) only [hP.no, nI_leF, nI_leT, inB_nI, cl_nI, hs.wi hi, w1, nI_add, ↓reduceIte]
      refine ih μ hP hs ?_
      rw [st0 (by rw [cO_e, c1]; rfl)]; exact hq
    · by_cases c2 : 10 ≤ pTo P i
      · simp (disch := omega) only [hP.no, nI_leF, nI_leT, inB_nI, cl_nI, hs.wi hi, w1, hP.to hi, hP.lo hi, ↓mb_e, b11, nI_add, ↓reduceIte]
        refine ih _ hP hs ?_
        rw [st1 (by rw [cO_e, decide_eq_true c2, decide_eq_true (show 0 < sW S i by omega)]; rfl)]
        exact hq.add _
      · by_cases c3 : gs (cO P S) (pLog P) q i (pTo P i) = true
        · have hqa := hq.at (show pTo P i < pLg P by omega) c3
          simp (disch := omega) only [hP.no, nI_leF, nI_leT, inB_nI, cl_nI, hs.wi hi, w1, hP.to hi, hP.lo hi, hqa, nI_10, ↓mb_e, b11, nI_add, ↓reduceIte]
          refine ih _ hP hs ?_
          rw [st1 (by rw [cO_e, c3, decide_eq_true (show 0 < sW S i by omega), Bool.or_true]; rfl)]
          exact hq.add _
        · have hqa := hq.at0 (show pTo P i < pLg P by omega) c3
          simp (disch := omega) only [hP.no, nI_leF, nI_leT, inB_nI, cl_nI, hs.wi hi, w1, hP.to hi, hqa, nI_add, ↓reduceIte]
          refine ih _ hP hs ?_
          rw [st0 (by rw [cO_e, show gs (cO P S) (pLog P) q i (pTo P i) = false by simpa using c3, decide_eq_false c2]; simp)]
          exact hq
  · intro self μ hP hs hq
    unfold wa_openLogs_B49
    simp (disch := omega) only [hP.no, nI_leT, ↓reduceIte]
    exact hK μ hP hs hq
theorem wRv_out {P : Pl} {S : Nat → Int32} {l : Nat} (h : 0 < lsN P S l) : outL P S l := by
  unfold lsN at h
  split at h
  · rename_i e; exact Or.inl e
  · obtain ⟨n, hn, hp⟩ := sumN_pos h
    split at hp
    · rename_i e; exact Or.inr ⟨n, hn, e.1, hp, by omega⟩
    · omega
theorem lsN_le {P : Pl} {S : Nat → Int32} (hk : PlOK P) (hS : StOK P S) (l : Nat) : lsN P S l ≤ 36 := by
  have h1 : wRv P S l ≤ wN P S l := sumN_le (fun i _ => by
    by_cases e : pLog P i = l
    · rw [if_pos e]
      split <;> omega
    · rw [if_neg (fun z => e z.1)]; omega)
  have := wN_le hk hS l
  unfold lsN
  split <;> omega
theorem wa_openLogs_e {μ : Mem} {w p s : Nat} {P : Pl} {S : Nat → Int32} (hk : PlOK P) (hS : StOK P S) (hP : PlC μ p P) (hs : StC μ s P S) (h37 : ∀ l, l < pLg P → mI μ 37 w l = nI (lsN P S l)) : ∃ μ' q, wa_openLogs w p s μ = some ((), μ') ∧ RB μ' 39 w (pLg P) q ∧ ∀ l, l < pLg P → (q l = true ↔ opL P S l) := by
  have k1 := hk.1
  have k3 := hk.2.2.1
  let p0 : Nat → Bool := fun l => decide (l < pLg P ∧ 0 < lsN P S l)
  have hp0 : ∀ i, p0 i = true → i < pLg P ∧ 0 < lsN P S i := fun i hi => of_decide_eq_true hi
  have hgrow := rs_grow (c := cO P S) (g := pLog P) (N := pNo P) (M := pLg P) (p := p0) (fun i hi => (hp0 i hi).1) (fun n q hn _ => hk.2.2.2.1 n hn) (pLg P)
  have hcl : closed (cO P S) (pLog P) (pNo P) (rs (cO P S) (pLog P) (pNo P) p0 (pLg P)) := by
    rcases hgrow.2 with z | z
    · exact z
    · exact fun n hn _ => cardB_full (by omega) _ (hk.2.2.2.1 n hn)
  have hfin : ∀ l, l < pLg P → (rs (cO P S) (pLog P) (pNo P) p0 (pLg P) l = true ↔ opL P S l) := fun l hl => by
    refine ⟨fun h => ?_, fun ⟨t, htc, hto⟩ => ?_⟩
    · refine rs_s (opL P S) (fun i hi => ⟨i, Cl.in rfl, wRv_out (hp0 i hi).2⟩) (fun n q hn hq hc => ?_) (pLg P) l h
      rw [cO_e, Bool.and_eq_true, decide_eq_true_eq, Bool.or_eq_true, decide_eq_true_eq] at hc
      rcases hc.2 with h10 | h10
      · exact ⟨pLog P n, Cl.in rfl, Or.inr ⟨n, hn, rfl, hc.1, h10⟩⟩
      · obtain ⟨t, ht1, ht2⟩ := hq _ h10
        by_cases h10' : pTo P n < 10
        · refine ⟨t, ?_, ht2⟩
          refine fun B hB hs => ht1 B (fun l hl => ?_) hs
          subst hl
          exact hs _ _ (hB _ rfl) ((lead_nx hk hS).mpr ⟨n, hn, rfl, hc.1, nx_1 S h10'⟩)
        · exact ⟨pLog P n, Cl.in rfl, Or.inr ⟨n, hn, rfl, hc.1, by omega⟩⟩
    · refine Classical.byContradiction (fun hno => ?_)
      have key := htc (fun m => m < pLg P ∧ ¬ rs (cO P S) (pLog P) (pNo P) p0 (pLg P) m = true) (fun m hm => by subst hm; exact ⟨hl, hno⟩) (fun m t hm hlt => by
        refine ⟨(lead_in hk hS hlt).2.1, fun ht => hm.2 ?_⟩
        obtain ⟨n, hn, hlg, hw, hnx⟩ := (lead_nx hk hS).mp hlt
        rw [← hlg]
        refine hcl n hn ?_
        rw [cO_e]
        by_cases h10 : pTo P n < 10
        · rw [nx_1 S h10] at hnx
          rw [Option.some.inj hnx, ht, decide_eq_true hw, Bool.or_true]; rfl
        · rw [decide_eq_true hw, decide_eq_true (show 10 ≤ pTo P n by omega)]; rfl)
      refine key.2 ?_
      rcases hto with h0 | ⟨n, hn, hlg, hw, h10⟩
      · refine rs_m ?_ _
        refine decide_eq_true ⟨key.1, ?_⟩
        unfold lsN
        rw [if_pos h0]; decide
      · rw [← hlg]
        refine hcl n hn ?_
        rw [cO_e, decide_eq_true hw, decide_eq_true h10]; rfl
  have L38 : ∀ (μ : Mem), PlC μ p P → StC μ s P S → RB μ 39 w (pLg P) p0 → ∃ ν, wa_openLogs_L38 w p s (nI 0) μ = some ((), ν) ∧ RB ν 39 w (pLg P) (rs (cO P S) (pLog P) (pNo P) p0 (pLg P)) := by
    intro μ hP hs hq
    refine fixN_up (fun i (self : Int32 → Mem → Option (Unit × Mem)) => ∀ μ, PlC μ p P → StC μ s P S → RB μ 39 w (pLg P) (rs (cO P S) (pLog P) (pNo P) p0 i) → ∃ ν, self (nI i) μ = some ((), ν) ∧ RB ν 39 w (pLg P) (rs (cO P S) (pLog P) (pNo P) p0 (pLg P))) (pLg P) ?_ ?_ 60000 0 (by omega) (by omega) _ hP hs hq
    · intro i self hi ih μ hP hs hq
      unfold wa_openLogs_B38
      simp (disch := omega) only [hP.lg, nI_leF, nI_add, ↓reduceIte]
      exact wa_open_in hk hS (nI i) _ _ μ _ hP hs hq (fun μ' hP' hs' hq' => ih μ' hP' hs' hq')
    · intro self μ hP hs hq
      unfold wa_openLogs_B38
      simp (disch := omega) only [hP.lg, nI_leT, ↓reduceIte]
      exact ⟨μ, rfl, hq⟩
  unfold wa_openLogs
  have key : ∃ ν, wa_openLogs_L2 w p s (fun μ9 => wa_openLogs_L38 w p s (nI 0) μ9) (nI 0) μ = some ((), ν) ∧ RB ν 39 w (pLg P) (rs (cO P S) (pLog P) (pNo P) p0 (pLg P)) := by
    refine fixN_up (fun i (self : Int32 → Mem → Option (Unit × Mem)) => ∀ μ, PlC μ p P → StC μ s P S → (∀ l, l < pLg P → mI μ 37 w l = nI (lsN P S l)) → RB μ 39 w i p0 → ∃ ν, self (nI i) μ = some ((), ν) ∧ RB ν 39 w (pLg P) (rs (cO P S) (pLog P) (pNo P) p0 (pLg P))) (pLg P) ?_ ?_ 60000 0 (by omega) (by omega) _ hP hs h37 (fun l hl => by omega)
    · intro i self hi ih μ hP hs h37 hq
      have hb := lsN_le hk hS i
      have ext : ∀ (v : Int32), v = (if p0 i = true then nI 1 else nI 0) → RB (stI μ 39 w i v) 39 w (i + 1) p0 := fun v hv l hl => by
        rw [mI_stI]
        by_cases e : l = i
        · subst e; rw [if_pos ⟨rfl, rfl, rfl⟩, hv]
        · rw [if_neg (fun z => e z.2.2)]; exact hq l (by omega)
      unfold wa_openLogs_B2
      by_cases c : 0 < lsN P S i
      · simp (disch := omega) only [hP.lg, nI_leF, inB_nI, cl_nI, h37 i hi, b11, nI_add, ↓reduceIte]
        exact ih _ hP hs h37 (ext _ (by rw [if_pos (decide_eq_true ⟨hi, c⟩)]))
      · simp (disch := omega) only [hP.lg, nI_leF, nI_leT, inB_nI, cl_nI, h37 i hi, b01, nI_add, ↓reduceIte]
        exact ih _ hP hs h37 (ext _ (by rw [if_neg (fun z => c (hp0 i z).2)]))
    · intro self μ hP hs h37 hq
      unfold wa_openLogs_B2
      simp (disch := omega) only [hP.lg, nI_leT, ↓reduceIte]
      exact L38 μ hP hs hq
  obtain ⟨μ', e, hq⟩ := key
  exact ⟨μ', _, e, hq, hfin⟩
theorem wa_closed_e {μ : Mem} {w M : Nat} {q o : Nat → Bool} (hM : M ≤ 4) (hq : RB μ 38 w 4 q) (ho : RB μ 39 w M o) : ∃ b : Bool, wa_reachesClosedLog w (nI M) μ = some (if b = true then nI 1 else nI 0, μ) ∧ (b = true ↔ ∃ l, l < M ∧ q l = true ∧ ¬ o l = true) := by
  have key : ∃ b : Bool, wa_reachesClosedLog w (nI M) μ = some (if b = true then nI 1 else nI 0, μ) ∧ (b = true ↔ ∃ l, 0 ≤ l ∧ l < M ∧ q l = true ∧ ¬ o l = true) := by
    refine fixN_up (fun i (self : Int32 → Mem → Option (Int32 × Mem)) => ∃ b : Bool, self (nI i) μ = some (if b = true then nI 1 else nI 0, μ) ∧ (b = true ↔ ∃ l, i ≤ l ∧ l < M ∧ q l = true ∧ ¬ o l = true)) M ?_ ?_ 60000 0 (by omega) (by omega)
    · intro i self hi ih
      obtain ⟨b, e1, e2⟩ := ih
      have nxt : ¬ (q i = true ∧ ¬ o i = true) → (b = true ↔ ∃ l, i ≤ l ∧ l < M ∧ q l = true ∧ ¬ o l = true) := fun hno => e2.trans ⟨fun ⟨n, a, b⟩ => ⟨n, by omega, b⟩, fun ⟨n, a, b⟩ => ⟨n, by
        by_cases z : n = i
        · subst z; exact absurd b.2 hno
        · omega, b⟩⟩
      unfold wa_reachesClosedLog_B2
      by_cases c1 : q i = true
      · by_cases c2 : o i = true
        · simp (disch := omega) only [nI_leF, inB_nI, cl_nI, hq.at (show i < 4 by omega) c1, ho.at hi c2, nI_10, nI_add, ↓reduceIte]
          exact ⟨b, e1, nxt (fun z => z.2 c2)⟩
        · simp (disch := omega) only [nI_leF, inB_nI, cl_nI, hq.at (show i < 4 by omega) c1, ho.at0 hi c2, nI_10, ↓reduceIte]
          exact ⟨true, rfl, ⟨fun _ => ⟨i, Nat.le_refl _, hi, c1, c2⟩, fun _ => rfl⟩⟩
      · simp (disch := omega) only [nI_leF, inB_nI, cl_nI, hq.at0 (show i < 4 by omega) c1, nI_add, ↓reduceIte]
        exact ⟨b, e1, nxt (fun z => c1 z.1)⟩
    · intro self
      unfold wa_reachesClosedLog_B2
      simp (disch := omega) only [nI_leT, ↓reduceIte]
      exact ⟨false, rfl, ⟨fun z => (by cases z), fun ⟨n, a, b, _⟩ => by omega⟩⟩
  obtain ⟨b, q1, q2⟩ := key
  refine ⟨b, q1, q2.trans ⟨fun ⟨l, _, z⟩ => ⟨l, z⟩, fun ⟨l, z⟩ => ⟨l, Nat.zero_le _, z⟩⟩⟩
theorem Fl_op {P : Pl} {S : Nat → Int32} : Fl P S ↔ ∃ l, l < pLg P ∧ Rh P S l ∧ ¬ opL P S l := ⟨fun ⟨l, a, b, c⟩ => ⟨l, a, b, fun ⟨t, x, y⟩ => c t x y⟩, fun ⟨l, a, b, c⟩ => ⟨l, a, b, fun t x y => c ⟨t, x, y⟩⟩⟩

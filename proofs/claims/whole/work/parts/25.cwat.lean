/-! the class' water, up to the flood -/
def wRv (P : Pl) (S : Nat → Int32) (l : Nat) : Nat := sumN (pNo P) (fun n => if pLog P n = l ∧ pTo P n = 20 then sW S n else 0)
def wRvi (P : Pl) (S : Nat → Int32) (i l : Nat) : Nat := sumN i (fun n => if pLog P n = l ∧ pTo P n = 20 then sW S n else 0)
theorem wRvi_s (P : Pl) (S : Nat → Int32) (i l : Nat) : wRvi P S (i + 1) l = wRvi P S i l + (if pLog P i = l ∧ pTo P i = 20 then sW S i else 0) := rfl
def lsN (P : Pl) (S : Nat → Int32) (l : Nat) : Nat := if wN P S l = 0 then 1 else wRv P S l
theorem wa_clear_e (μ : Mem) (w : Nat) : ∃ μ', wa_clear w μ = some ((), μ') ∧ mI μ' 32 w 0 = nI 0 ∧ mL μ' 32 w 1 = 1 ∧ mL μ' 32 w 2 = 0 ∧ mL μ' 32 w 3 = 0 ∧ mL μ' 32 w 4 = 0 ∧ (∀ k, k < 4 → mL μ' 33 w k = 0) ∧ (∀ k, k < 6 → mL μ' 34 w k = 0) ∧ (∀ k, k < 6 → mI μ' 35 w k = nI 0) ∧ (∀ k, k < 4 → mI μ' 36 w k = nI 0) ∧ (∀ k, k < 4 → mI μ' 37 w k = nI 0) ∧ (∀ k, k < 4 → mI μ' 38 w k = nI 0) := by
  unfold wa_clear
  simp only [↓mb_e]
  generalize hμ : stL (stL (stL (stL (stI μ 32 w 0 (nI 0)) 32 w 1 1) 32 w 2 0) 32 w 3 0) 32 w 4 0 = μ0
  have a0 : mI μ0 32 w 0 = nI 0 := by rw [← hμ]; simp [mI_stL, mI_stI]
  have a1 : mL μ0 32 w 1 = 1 := by rw [← hμ]; simp [mL_stL]
  have a2 : mL μ0 32 w 2 = 0 := by rw [← hμ]; simp [mL_stL]
  have a3 : mL μ0 32 w 3 = 0 := by rw [← hμ]; simp [mL_stL]
  have a4 : mL μ0 32 w 4 = 0 := by rw [← hμ]; simp [mL_stL]
  obtain ⟨μ1, e1, b1⟩ := fill_L33 μ0 w 0
  obtain ⟨μ2, e2, b2⟩ := fill_L34 μ1 w 0
  obtain ⟨μ3, e3, b3⟩ := fill_I35 μ2 w (nI 0)
  obtain ⟨μ4, e4, b4⟩ := fill_I36 μ3 w (nI 0)
  obtain ⟨μ5, e5, b5⟩ := fill_I37 μ4 w (nI 0)
  obtain ⟨μ6, e6, b6⟩ := clear_38 μ5 w
  have f1 := f_j_fillL_r33 e1
  have f2 := f_j_fillL_r34 e2
  have f3 := f_j_fillI_r35 e3
  have f4 := f_j_fillI_r36 e4
  have f5 := f_j_fillI_r37 e5
  have f6 := f_wa_clear_L67 e6 (Fr.rf (T_wa_clear_L67 w) μ5) (sbc (sa_m 0 rfl) sbn)
  refine ⟨μ6, by simp only [↓ob_eq e1, ↓ob_eq e2, ↓ob_eq e3, ↓ob_eq e4, ↓ob_eq e5, e6], ?_, ?_, ?_, ?_, ?_, fun k hk => ?_, fun k hk => ?_, fun k hk => ?_, fun k hk => ?_, fun k hk => ?_, fun k hk => ?_⟩
  · rw [f6.I rfl, f5.I rfl, f4.I rfl, f3.I rfl, f2.I rfl, f1.I rfl]; exact a0
  · rw [f6.L rfl, f5.L rfl, f4.L rfl, f3.L rfl, f2.L rfl, f1.L rfl]; exact a1
  · rw [f6.L rfl, f5.L rfl, f4.L rfl, f3.L rfl, f2.L rfl, f1.L rfl]; exact a2
  · rw [f6.L rfl, f5.L rfl, f4.L rfl, f3.L rfl, f2.L rfl, f1.L rfl]; exact a3
  · rw [f6.L rfl, f5.L rfl, f4.L rfl, f3.L rfl, f2.L rfl, f1.L rfl]; exact a4
  · rw [f6.L rfl, f5.L rfl, f4.L rfl, f3.L rfl, f2.L rfl]; exact b1 k hk
  · rw [f6.L rfl, f5.L rfl, f4.L rfl, f3.L rfl]; exact b2 k hk
  · rw [f6.I rfl, f5.I rfl, f4.I rfl]; exact b3 k hk
  · rw [f6.I rfl, f5.I rfl]; exact b4 k hk
  · rw [f6.I rfl]; exact b5 k hk
  · exact b6 k hk
theorem wa_partLogs_e {μ : Mem} {w p s : Nat} {P : Pl} {S : Nat → Int32} (hk : PlOK P) (hS : StOK P S) (hP : PlC μ p P) (hs : StC μ s P S) (h36 : ∀ k, k < 4 → mI μ 36 w k = nI 0) (h37 : ∀ k, k < 4 → mI μ 37 w k = nI 0) : ∃ μ', wa_partLogs w p s μ = some ((), μ') ∧ ∀ l, l < pLg P → mI μ' 36 w l = nI (sp P S l) ∧ mI μ' 37 w l = nI (lsN P S l) := by
  have hk0 := hk
  obtain ⟨k1, k2, k3, k4, k5, -⟩ := hk
  unfold wa_partLogs
  refine fixN_up (fun i (self : Int32 → Mem → Option (Unit × Mem)) => ∀ μ, PlC μ p P → StC μ s P S → (∀ l, l < 4 → mI μ 36 w l = nI (wNi P S i l) ∧ mI μ 37 w l = nI (wRvi P S i l)) → ∃ μ', self (nI i) μ = some ((), μ') ∧ ∀ l, l < pLg P → mI μ' 36 w l = nI (sp P S l) ∧ mI μ' 37 w l = nI (lsN P S l)) (pNo P) ?_ ?_ 60000 0 (by omega) (by omega) μ hP hs (fun l hl => ⟨h36 l hl, h37 l hl⟩)
  · intro i self hi ih μ hP hs hq
    have h4 := k4 i hi
    have h5 := k5 i hi
    obtain ⟨q1, q2⟩ := hq (pLog P i) (by omega)
    obtain ⟨w1, w2⟩ := hS.1 i hi
    unfold wa_partLogs_B2
    simp (disch := omega) only [hP.no, hP.lo hi, nI_leF, inB_nI, cl_nI, ↓mb_e, q1, hs.wi hi, w1, nI_add, ↓reduceIte]
    have t1 : mI (stI μ 36 w (pLog P i) (nI (wNi P S i (pLog P i) + sW S i))) 23 p i = nI (pTo P i) := hP.to hi
    have u1 : mI (stI μ 36 w (pLog P i) (nI (wNi P S i (pLog P i) + sW S i))) 37 w (pLog P i) = nI (wRvi P S i (pLog P i)) := q2
    have v1 : mI (stI μ 36 w (pLog P i) (nI (wNi P S i (pLog P i) + sW S i))) 27 s i = nI (sW S i) := (hs.wi hi).trans w1
    have z36 : ∀ l, l < 4 → mI (stI μ 36 w (pLog P i) (nI (wNi P S i (pLog P i) + sW S i))) 36 w l = nI (wNi P S (i + 1) l) := fun l hl => by
      rw [mI_stI, wNi_s]
      by_cases e : l = pLog P i
      · subst e; rw [if_pos ⟨rfl, rfl, rfl⟩, if_pos rfl]
      · rw [if_neg (fun z => e z.2.2), if_neg (fun z => e z.symm), (hq l hl).1]; rfl
    by_cases c : pTo P i = 20
    · simp (disch := omega) only [t1, c, u1, v1, nI_add, ↓reduceIte]
      refine ih _ hP hs (fun l hl => ⟨z36 l hl, ?_⟩)
      rw [mI_stI, wRvi_s]
      by_cases e : l = pLog P i
      · subst e; rw [if_pos ⟨rfl, rfl, rfl⟩, if_pos ⟨rfl, c⟩]
      · rw [if_neg (fun z => e z.2.2), if_neg (fun z => e z.1.symm)]; exact (hq l hl).2
    · simp (disch := omega) only [t1, nI_eqF, ↓reduceIte]
      refine ih _ hP hs (fun l hl => ⟨z36 l hl, ?_⟩)
      rw [wRvi_s, if_neg (fun z => c z.2)]
      exact (hq l hl).2
  · intro self μ hP hs hq
    unfold wa_partLogs_B2
    simp (disch := omega) only [hP.no, nI_leT, ↓reduceIte]
    refine fixN_up (fun i (self : Int32 → Mem → Option (Unit × Mem)) => ∀ μ, PlC μ p P → (∀ l, l < 4 → mI μ 36 w l = nI (if l < i then sp P S l else wN P S l) ∧ mI μ 37 w l = nI (if l < i then lsN P S l else wRv P S l)) → ∃ μ', self (nI i) μ = some ((), μ') ∧ ∀ l, l < pLg P → mI μ' 36 w l = nI (sp P S l) ∧ mI μ' 37 w l = nI (lsN P S l)) (pLg P) ?_ ?_ 60000 0 (by omega) (by omega) μ hP hq
    · intro i self hi ih μ hP hq
      obtain ⟨q1, q2⟩ := hq i (by omega)
      rw [if_neg (Nat.lt_irrefl i)] at q1 q2
      have hb := wN_le hk0 hS i
      unfold wa_partLogs_B69
      by_cases c : wN P S i = 0
      · rw [c] at q1
        simp (disch := omega) only [hP.lg, nI_leF, inB_nI, cl_nI, q1, ↓mb_e, nI_add, ↓reduceIte]
        refine ih _ hP (fun l hl => ?_)
        by_cases e : l = i
        · subst e
          rw [if_pos (Nat.lt_succ_self l), if_pos (Nat.lt_succ_self l)]
          unfold sp lsN
          rw [if_pos c, if_pos c]
          exact ⟨by simp [mI_stI], by simp [mI_stI]⟩
        · obtain ⟨r1, r2⟩ := hq l hl
          rw [← if_c (show l < i ↔ l < i + 1 from ⟨fun _ => by omega, fun _ => by omega⟩), ← if_c (show l < i ↔ l < i + 1 from ⟨fun _ => by omega, fun _ => by omega⟩)]
          exact ⟨by rw [mI_stI, if_neg (by simp), mI_stI, if_neg (fun z => e z.2.2)]; exact r1, by rw [mI_stI, if_neg (fun z => e z.2.2)]; exact r2⟩
      · simp (disch := omega) only [hP.lg, nI_leF, inB_nI, cl_nI, q1, nI_eqF, nI_add, ↓reduceIte]
        refine ih _ hP (fun l hl => ?_)
        obtain ⟨r1, r2⟩ := hq l hl
        by_cases e : l = i
        · subst e
          rw [if_neg (Nat.lt_irrefl l)] at r1 r2
          rw [if_pos (Nat.lt_succ_self l), if_pos (Nat.lt_succ_self l), r1, r2]
          unfold sp lsN
          rw [if_neg c, if_neg c]
          exact ⟨rfl, rfl⟩
        · rw [← if_c (show l < i ↔ l < i + 1 from ⟨fun _ => by omega, fun _ => by omega⟩), ← if_c (show l < i ↔ l < i + 1 from ⟨fun _ => by omega, fun _ => by omega⟩)]
          exact ⟨r1, r2⟩
    · intro self μ hP hq
      unfold wa_partLogs_B69
      simp (disch := omega) only [hP.lg, nI_leT, ↓reduceIte]
      refine ⟨μ, rfl, fun l hl => ?_⟩
      obtain ⟨r1, r2⟩ := hq l (by omega)
      rw [if_pos hl] at r1 r2
      exact ⟨r1, r2⟩
/-- the log to which a notch leads, by a drain or without -/
def nx (P : Pl) (S : Nat → Int32) (n : Nat) : Option Nat := if pTo P n < 10 then some (pTo P n) else if pTo P n = 20 then none else if sQ S (pTo P n - 10) = 0 then none else some (sD S (pTo P n - 10))
def nxI (o : Option Nat) : Int32 := match o with
  | some t => nI t
  | none => (-1 : Int32)
theorem nx_1 {P : Pl} (S : Nat → Int32) {n : Nat} (h : pTo P n < 10) : nx P S n = some (pTo P n) := if_pos h
theorem nx_2 {P : Pl} {S : Nat → Int32} {n : Nat} (h : 10 ≤ pTo P n) (h2 : pTo P n < 20) (c : sQ S (pTo P n - 10) = 0) : nx P S n = none := by
  unfold nx; rw [if_neg (by omega), if_neg (by omega), if_pos c]
theorem nx_3 {P : Pl} {S : Nat → Int32} {n : Nat} (h : 10 ≤ pTo P n) (h2 : pTo P n < 20) (c : ¬ sQ S (pTo P n - 10) = 0) : nx P S n = some (sD S (pTo P n - 10)) := by
  unfold nx; rw [if_neg (by omega), if_neg (by omega), if_neg c]
theorem nx_4 {P : Pl} (S : Nat → Int32) {n : Nat} (h : pTo P n = 20) : nx P S n = none := by
  unfold nx; rw [if_neg (by omega), if_pos h]
theorem ldT_1 {P : Pl} (S : Nat → Int32) {n : Nat} (t : Nat) (h : pTo P n < 10) : ldT P S n t = if pTo P n = t then 4 * sW S n else 0 := if_pos h
theorem ldT_2 {P : Pl} {S : Nat → Int32} {n : Nat} (t : Nat) (h : 10 ≤ pTo P n) (h2 : pTo P n < 20) : ldT P S n t = if t < 4 ∧ S (pTo P n - 10) = nI t then sW S n * sQ S (pTo P n - 10) else 0 := by
  unfold ldT; rw [if_neg (by omega), if_pos h2]
theorem ldT_4 {P : Pl} (S : Nat → Int32) {n : Nat} (t : Nat) (h : pTo P n = 20) : ldT P S n t = 0 := by
  unfold ldT; rw [if_neg (by omega), if_neg (by omega)]
theorem wa_nextLog_e {μ : Mem} {p s : Nat} {P : Pl} {S : Nat → Int32} (hk : PlOK P) (hS : StOK P S) (hP : PlC μ p P) (hs : StC μ s P S) {n : Nat} (hn : n < pNo P) : wa_nextLog p s (nI n) μ = some (nxI (nx P S n), μ) := by
  obtain ⟨k1, k2, k3, k4, k5, -⟩ := hk
  have h5 := k5 n hn
  have hto : pTo P n < 2147483648 := by omega
  unfold wa_nextLog
  rcases h5 with h5 | ⟨h5, h6⟩ | h5
  · rw [nx_1 S (by omega)]
    simp (disch := omega) only [inB_nI, cl_nI, hP.to hn, nI_leF, nxI, ↓reduceIte]
  · obtain ⟨q1, q2, q3, -⟩ := hS.2.1 (pTo P n - 10) (by omega)
    by_cases c : sQ S (pTo P n - 10) = 0
    · rw [nx_2 h5 (by omega) c]
      rw [c] at q1
      simp (disch := omega) only [inB_nI, cl_nI, hP.to hn, nI_leT, nI_eqF, pk_sub, hs.qu, q1, nxI, ↓reduceIte]
    · rw [nx_3 h5 (by omega) c]
      rcases q3 with ⟨q3, q4⟩ | ⟨q3, q4⟩
      · exact absurd q4 c
      · simp (disch := omega) only [inB_nI, cl_nI, hP.to hn, nI_leT, nI_eqF, pk_sub, hs.qu, hs.dr, q1, nxI, q3, ↓reduceIte]
  · rw [nx_4 S h5]
    have h23 := hP.to hn
    rw [h5] at h23
    simp (disch := omega) only [inB_nI, cl_nI, h23, nI_leT, nxI, ↓reduceIte]
theorem nx_lt {P : Pl} {S : Nat → Int32} (hk : PlOK P) (hS : StOK P S) {n : Nat} (hn : n < pNo P) {t : Nat} (h : nx P S n = some t) : t < pLg P := by
  have h5 := hk.2.2.2.2.1 n hn
  have k1 := hk.1
  have k2 := hk.2.1
  rcases h5 with h5 | ⟨h5, h6⟩ | h5
  · rw [nx_1 S (by omega)] at h; cases h; exact h5
  · by_cases c : sQ S (pTo P n - 10) = 0
    · rw [nx_2 h5 (by omega) c] at h; cases h
    · rw [nx_3 h5 (by omega) c] at h; cases h
      obtain ⟨-, -, q3, -⟩ := hS.2.1 (pTo P n - 10) (by omega)
      rcases q3 with ⟨q3, q4⟩ | ⟨q3, q4⟩
      · exact absurd q4 c
      · exact q4
  · rw [nx_4 S h5] at h; cases h
theorem ldT_nx {P : Pl} {S : Nat → Int32} (hk : PlOK P) (hS : StOK P S) {n : Nat} (hn : n < pNo P) {t : Nat} : 0 < ldT P S n t ↔ 0 < sW S n ∧ nx P S n = some t := by
  have h5 := hk.2.2.2.2.1 n hn
  have k1 := hk.1
  have k2 := hk.2.1
  rcases h5 with h5 | ⟨h5, h6⟩ | h5
  · rw [ldT_1 S t (by omega), nx_1 S (by omega)]
    by_cases e : pTo P n = t
    · rw [if_pos e, e]; exact ⟨fun z => ⟨by omega, rfl⟩, fun z => by have := z.1; omega⟩
    · rw [if_neg e]; exact ⟨fun z => by omega, fun z => absurd (Option.some.inj z.2) e⟩
  · obtain ⟨q1, q2, q3, -⟩ := hS.2.1 (pTo P n - 10) (by omega)
    rw [ldT_2 t h5 (by omega)]
    by_cases c : sQ S (pTo P n - 10) = 0
    · rw [nx_2 h5 (by omega) c, c]
      refine ⟨fun z => ?_, fun z => by cases z.2⟩
      split at z <;> omega
    · rw [nx_3 h5 (by omega) c]
      rcases q3 with ⟨q3, q4⟩ | ⟨q3, q4⟩
      · exact absurd q4 c
      · by_cases e : sD S (pTo P n - 10) = t
        · subst e
          rw [if_pos ⟨by omega, q3⟩]
          refine ⟨fun z => ⟨Nat.pos_of_ne_zero (fun z2 => by rw [z2] at z; omega), rfl⟩, fun z => Nat.mul_pos z.1 (by omega)⟩
        · rw [if_neg (fun z => e (by
            have h1 := z.2
            rw [q3] at h1
            exact (nI_eq (by omega) (by omega)).mp h1))]
          exact ⟨fun z => by omega, fun z => absurd (Option.some.inj z.2) e⟩
  · rw [ldT_4 S t h5, nx_4 S h5]
    exact ⟨fun z => by omega, fun z => by cases z.2⟩
theorem lead_nx {P : Pl} {S : Nat → Int32} (hk : PlOK P) (hS : StOK P S) {l t : Nat} : 0 < leadN P S l t ↔ ∃ n, n < pNo P ∧ pLog P n = l ∧ 0 < sW S n ∧ nx P S n = some t := by
  refine ⟨fun h => ?_, fun ⟨n, hn, hl, hw⟩ => ?_⟩
  · obtain ⟨n, hn, hp⟩ := sumN_pos h
    split at hp
    · rename_i e
      exact ⟨n, hn, e, (ldT_nx hk hS hn).mp hp⟩
    · omega
  · have := sumN_ge (n := pNo P) (f := fun n => if pLog P n = l then ldT P S n t else 0) hn
    simp only [if_pos hl] at this
    have h2 := (ldT_nx hk hS hn).mpr hw
    unfold leadN
    omega
/-- the walk of reachLogs -/
def cR (P : Pl) (S : Nat → Int32) (n : Nat) (p : Nat → Bool) : Bool := decide (0 < sW S n) && (p (pLog P n) && (nx P S n).isSome)
theorem cR_e (P : Pl) (S : Nat → Int32) (n : Nat) (p : Nat → Bool) : cR P S n p = (decide (0 < sW S n) && (p (pLog P n) && (nx P S n).isSome)) := rfl
def gR (P : Pl) (S : Nat → Int32) (n : Nat) : Nat := (nx P S n).getD 0
theorem b11 : nI 1 &&& 1 = nI 1 := rfl
theorem b01 : nI 0 &&& 1 = nI 0 := rfl
theorem nxI_F {t : Nat} (h : t < 2147483648) : (nI t = (-1 : Int32)) = False := eq_false (fun z => by
  have h1 : (nI t).toInt = (-1 : Int32).toInt := by rw [z]
  rw [nI_toInt (by omega)] at h1
  have h2 : (-1 : Int32).toInt = -1 := by decide
  omega)
theorem RB.at {μ : Mem} {r w M : Nat} {p : Nat → Bool} (h : RB μ r w M p) {l : Nat} (hl : l < M) (hp : p l = true) : mI μ r w l = nI 1 := by rw [h l hl, if_pos hp]
theorem RB.at0 {μ : Mem} {r w M : Nat} {p : Nat → Bool} (h : RB μ r w M p) {l : Nat} (hl : l < M) (hp : ¬ p l = true) : mI μ r w l = nI 0 := by rw [h l hl, if_neg hp]
theorem wa_reach_in {w p s : Nat} {P : Pl} {S : Nat → Int32} (hk : PlOK P) (hS : StOK P S) (x : Int32) (K : Mem → Option (Unit × Mem)) (Q : Mem → Prop) : ∀ (μ : Mem) (q : Nat → Bool), PlC μ p P → StC μ s P S → RB μ 38 w 4 q → (∀ μ', PlC μ' p P → StC μ' s P S → RB μ' 38 w 4 (gs (cR P S) (gR P S) q (pNo P)) → ∃ ν, K μ' = some ((), ν) ∧ Q ν) → ∃ ν, wa_reachLogs_L20 w p s x K (nI 0) μ = some ((), ν) ∧ Q ν := by
  intro μ q hP hs hq hK
  have hk0 := hk
  obtain ⟨k1, k2, k3, k4, k5, -⟩ := hk
  refine fixN_up (fun i (self : Int32 → Mem → Option (Unit × Mem)) => ∀ μ, PlC μ p P → StC μ s P S → RB μ 38 w 4 (gs (cR P S) (gR P S) q i) → ∃ ν, self (nI i) μ = some ((), ν) ∧ Q ν) (pNo P) ?_ ?_ 60000 0 (by omega) (by omega) μ hP hs hq
  · intro i self hi ih μ hP hs hq
    have h4 := k4 i hi
    obtain ⟨w1, w2⟩ := hS.1 i hi
    have e1 := wa_nextLog_e hk0 hS hP hs hi
    unfold wa_reachLogs_B20
    have st0 : cR P S i (gs (cR P S) (gR P S) q i) = false → gs (cR P S) (gR P S) q (i + 1) = gs (cR P S) (gR P S) q i := fun z => by simp only [gs, z]; rfl
    have st1 : cR P S i (gs (cR P S) (gR P S) q i) = true → gs (cR P S) (gR P S) q (i + 1) = ad1 (gs (cR P S) (gR P S) q i) (gR P S i) := fun z => by simp only [gs, z, if_true]
    by_cases c1 : sW S i = 0
    · rw [c1] at w1
      simp (disch := omega) only [hP.no, nI_leF, inB_nI, cl_nI, hs.wi hi, w1, nI_add, ↓reduceIte]
      refine ih μ hP hs ?_
      rw [st0 (by rw [cR_e, c1]; rfl)]; exact hq
    · by_cases c2 : gs (cR P S) (gR P S) q i (pLog P i) = true
      · have hqa := hq.at (show pLog P i < 4 by omega) c2
        match hnx : nx P S i, e1 with
        | none, e1 =>
          simp (disch := omega) only [hP.no, nI_leF, inB_nI, cl_nI, hs.wi hi, w1, nI_eqF, hP.lo hi, hqa, nI_10, ↓ob_eq e1, nxI, nI_add, ↓reduceIte]
          refine ih μ hP hs ?_
          rw [st0 (by rw [cR_e, hnx]; simp)]; exact hq
        | some t, e1 =>
          have ht := nx_lt hk0 hS hi hnx
          simp (disch := omega) only [hP.no, nI_leF, inB_nI, cl_nI, hs.wi hi, w1, nI_eqF, hP.lo hi, hqa, nI_10, ↓ob_eq e1, nxI, nxI_F, nI_add, b11, ↓reduceIte]
          refine ih _ hP hs ?_
          rw [st1 (by rw [cR_e, hnx, c2]; simp; omega)]
          have : gR P S i = t := by unfold gR; rw [hnx]; rfl
          rw [this]
          exact hq.add t
      · have hqa := hq.at0 (show pLog P i < 4 by omega) c2
        simp (disch := omega) only [hP.no, nI_leF, inB_nI, cl_nI, hs.wi hi, w1, nI_eqF, hP.lo hi, hqa, nI_add, ↓reduceIte]
        refine ih μ hP hs ?_
        rw [st0 (by rw [cR_e, show gs (cR P S) (gR P S) q i (pLog P i) = false by simpa using c2]; simp)]; exact hq
  · intro self μ hP hs hq
    unfold wa_reachLogs_B20
    simp (disch := omega) only [hP.no, nI_leT, ↓reduceIte]
    exact hK μ hP hs hq
theorem wa_reachLogs_e {μ : Mem} {w p s : Nat} {P : Pl} {S : Nat → Int32} (hk : PlOK P) (hS : StOK P S) (hP : PlC μ p P) (hs : StC μ s P S) (h0 : 0 < pLg P) (h38 : ∀ k, k < 4 → mI μ 38 w k = nI 0) : ∃ μ' q, wa_reachLogs w p s μ = some ((), μ') ∧ RB μ' 38 w 4 q ∧ ∀ l, q l = true ↔ Rh P S l := by
  have k1 := hk.1
  have k3 := hk.2.2.1
  have hR0 : RB (stI μ 38 w 0 (nI 1 &&& 1)) 38 w 4 (fun i => i == 0) := fun l hl => by
    rw [mI_stI]
    by_cases e : l = 0
    · subst e; rw [if_pos ⟨rfl, rfl, rfl⟩]; rfl
    · rw [if_neg (fun z => e z.2.2), h38 l hl, if_neg (by simp [e])]
  have hg : ∀ n (q : Nat → Bool), n < pNo P → cR P S n q = true → gR P S n < pLg P := fun n q hn hc => by
    unfold cR at hc
    rw [Bool.and_eq_true, Bool.and_eq_true] at hc
    unfold gR
    match hnx : nx P S n, hc.2.2 with
    | some t, _ => exact nx_lt hk hS hn hnx
  have hgrow := rs_grow (c := cR P S) (g := gR P S) (N := pNo P) (M := pLg P) (p := fun i => i == 0) (fun i hi => by have : i = 0 := by simpa using hi
                                                                                                                     omega) hg (pLg P)
  have hcl : closed (cR P S) (gR P S) (pNo P) (rs (cR P S) (gR P S) (pNo P) (fun i => i == 0) (pLg P)) := by
    rcases hgrow.2 with z | z
    · exact z
    · exfalso
      have h1 := cardB_le (pLg P) (rs (cR P S) (gR P S) (pNo P) (fun i => i == 0) (pLg P))
      have h2 : 1 ≤ cardB (pLg P) (fun i => i == 0) := by
        have := cardB_lt (M := pLg P) (p := fun _ => false) (q := fun i => i == 0) (fun i hi => by cases hi) h0 rfl rfl
        omega
      omega
  have hfin : ∀ l, rs (cR P S) (gR P S) (pNo P) (fun i => i == 0) (pLg P) l = true ↔ Rh P S l := fun l => by
    refine ⟨fun h => ?_, fun h => ?_⟩
    · refine rs_s (Rh P S) (fun i hi => by have : i = 0 := by simpa using hi
                                           subst this; exact Rh.z P S) (fun n q hn hq hc => ?_) (pLg P) l h
      unfold cR at hc
      rw [Bool.and_eq_true, Bool.and_eq_true, decide_eq_true_eq] at hc
      unfold gR
      match hnx : nx P S n, hc.2.2 with
      | some t, _ => exact (hq _ hc.2.1).nx ((lead_nx hk hS).mpr ⟨n, hn, rfl, hc.1, hnx⟩)
    · refine h (fun l => rs (cR P S) (gR P S) (pNo P) (fun i => i == 0) (pLg P) l = true) (fun l hl => rs_m (by simpa using hl) _) (fun l t hl hlt => ?_)
      obtain ⟨n, hn, hlg, hw, hnx⟩ := (lead_nx hk hS).mp hlt
      have := hcl n hn (by rw [cR_e, hlg, hl, hnx]; simp [hw])
      unfold gR at this
      rw [hnx] at this
      exact this
  unfold wa_reachLogs
  have key : ∃ μ', wa_reachLogs_L9 w p s (nI 0) (stI μ 38 w 0 (nI 1 &&& 1)) = some ((), μ') ∧ RB μ' 38 w 4 (rs (cR P S) (gR P S) (pNo P) (fun i => i == 0) (pLg P)) := by
    refine fixN_up (fun i (self : Int32 → Mem → Option (Unit × Mem)) => ∀ μ, PlC μ p P → StC μ s P S → RB μ 38 w 4 (rs (cR P S) (gR P S) (pNo P) (fun i => i == 0) i) → ∃ ν, self (nI i) μ = some ((), ν) ∧ RB ν 38 w 4 (rs (cR P S) (gR P S) (pNo P) (fun i => i == 0) (pLg P))) (pLg P) ?_ ?_ 60000 0 (by omega) (by omega) _ hP hs hR0
    · intro i self hi ih μ hP hs hq
      unfold wa_reachLogs_B9
      simp (disch := omega) only [hP.lg, nI_leF, nI_add, ↓reduceIte]
      exact wa_reach_in hk hS (nI i) _ _ μ _ hP hs hq (fun μ' hP' hs' hq' => ih μ' hP' hs' hq')
    · intro self μ hP hs hq
      unfold wa_reachLogs_B9
      simp (disch := omega) only [hP.lg, nI_leT, ↓reduceIte]
      exact ⟨μ, rfl, hq⟩
  obtain ⟨μ', e, hq⟩ := key
  exact ⟨μ', _, e, hq, hfin⟩

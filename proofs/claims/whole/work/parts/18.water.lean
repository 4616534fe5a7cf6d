/-! the water: what it is -/
def sumN : Nat → (Nat → Nat) → Nat
  | 0, _ => 0
  | n + 1, f => sumN n f + f n
theorem sumN_c {n : Nat} {f g : Nat → Nat} (h : ∀ i, i < n → f i = g i) : sumN n f = sumN n g := by
  induction n with
  | zero => rfl
  | succ n ih => simp only [sumN]; rw [ih (fun i hi => h i (by omega)), h n (by omega)]
theorem sumN_le {n : Nat} {f g : Nat → Nat} (h : ∀ i, i < n → f i ≤ g i) : sumN n f ≤ sumN n g := by
  induction n with
  | zero => exact Nat.le_refl _
  | succ n ih =>
    simp only [sumN]
    have := ih (fun i hi => h i (by omega))
    have := h n (by omega)
    omega
theorem sumN_lt {n : Nat} {f g : Nat → Nat} (h : ∀ i, i < n → f i ≤ g i) {k c : Nat} (hk : k < n) (hc : f k + c ≤ g k) : sumN n f + c ≤ sumN n g := by
  induction n with
  | zero => omega
  | succ n ih =>
    simp only [sumN]
    have h1 := h n (by omega)
    by_cases e : k = n
    · subst e
      have := sumN_le (n := k) (fun i hi => h i (by omega))
      omega
    · have := ih (fun i hi => h i (by omega)) (by omega)
      omega
theorem sumN_add {n : Nat} (f g : Nat → Nat) : sumN n (fun i => f i + g i) = sumN n f + sumN n g := by
  induction n with
  | zero => rfl
  | succ n ih => simp only [sumN]; omega
theorem sumN_mul {n : Nat} (c : Nat) (f : Nat → Nat) : sumN n (fun i => c * f i) = c * sumN n f := by
  induction n with
  | zero => rfl
  | succ n ih => simp only [sumN]; rw [ih, Nat.mul_add]
theorem sumN_pos {n : Nat} {f : Nat → Nat} (h : 0 < sumN n f) : ∃ i, i < n ∧ 0 < f i := by
  induction n with
  | zero => simp [sumN] at h
  | succ n ih =>
    simp only [sumN] at h
    by_cases e : 0 < f n
    · exact ⟨n, by omega, e⟩
    · obtain ⟨i, hi, hf⟩ := ih (by omega)
      exact ⟨i, by omega, hf⟩
theorem sumN_ge {n : Nat} {f : Nat → Nat} {k : Nat} (hk : k < n) : f k ≤ sumN n f := by
  induction n with
  | zero => omega
  | succ n ih =>
    simp only [sumN]
    by_cases e : k = n
    · subst e; omega
    · have := ih (by omega)
      omega
theorem sumN_k {n c : Nat} {f : Nat → Nat} (h : ∀ i, i < n → f i ≤ c) : sumN n f ≤ n * c := by
  induction n with
  | zero => simp [sumN]
  | succ n ih =>
    simp only [sumN]
    have := ih (fun i hi => h i (by omega))
    have := h n (by omega)
    rw [Nat.add_mul]
    omega
noncomputable def ifP {α : Type} (p : Prop) (a b : α) : α := @ite α p (Classical.propDecidable p) a b
theorem ifP_t {α : Type} {p : Prop} {a b : α} (h : p) : ifP p a b = a := if_pos h
theorem ifP_f {α : Type} {p : Prop} {a b : α} (h : ¬ p) : ifP p a b = b := if_neg h
def wN (P : Pl) (S : Nat → Int32) (l : Nat) : Nat := sumN (pNo P) (fun n => if pLog P n = l then sW S n else 0)
/-- four times what a notch leads to a log, for each width of its own -/
def ldT (P : Pl) (S : Nat → Int32) (n t : Nat) : Nat := if pTo P n < 10 then (if pTo P n = t then 4 * sW S n else 0) else if pTo P n < 20 then (if t < 4 ∧ S (pTo P n - 10) = nI t then sW S n * sQ S (pTo P n - 10) else 0) else 0
def leadN (P : Pl) (S : Nat → Int32) (l t : Nat) : Nat := sumN (pNo P) (fun n => if pLog P n = l then ldT P S n t else 0)
def sp (P : Pl) (S : Nat → Int32) (l : Nat) : Nat := if wN P S l = 0 then 1 else wN P S l
def outL (P : Pl) (S : Nat → Int32) (l : Nat) : Prop := wN P S l = 0 ∨ ∃ n, n < pNo P ∧ pLog P n = l ∧ 0 < sW S n ∧ 10 ≤ pTo P n
def Cl (P : Pl) (S : Nat → Int32) (A : Nat → Prop) (t : Nat) : Prop := ∀ B : Nat → Prop, (∀ l, A l → B l) → (∀ l t, B l → 0 < leadN P S l t → B t) → B t
def Rh (P : Pl) (S : Nat → Int32) (t : Nat) : Prop := Cl P S (fun l => l = 0) t
def Fl (P : Pl) (S : Nat → Int32) : Prop := ∃ l, l < pLg P ∧ Rh P S l ∧ ∀ t, Cl P S (fun m => m = l) t → ¬ outL P S t
theorem Cl.in {P : Pl} {S : Nat → Int32} {A : Nat → Prop} {t : Nat} (h : A t) : Cl P S A t := fun B hB _ => hB t h
theorem Cl.nx {P : Pl} {S : Nat → Int32} {A : Nat → Prop} {l t : Nat} (h : Cl P S A l) (e : 0 < leadN P S l t) : Cl P S A t := fun B hB hs => hs l t (h B hB hs) e
theorem Rh.z (P : Pl) (S : Nat → Int32) : Rh P S 0 := Cl.in rfl
noncomputable def aM (P : Pl) (S : Nat → Int32) (i j : Nat) : Int := if j < 4 then (if i = j then ifP (Rh P S j) ((4 * sp P S j : Nat) : Int) 1 else 0) - ifP (Rh P S j) ((leadN P S j i : Nat) : Int) 0 else if i = 0 then ((sS S : Nat) : Int) else 0
theorem ldT_le {P : Pl} {S : Nat → Int32} (hk : PlOK P) (hS : StOK P S) {n : Nat} (hn : n < pNo P) : ldT P S n 0 + ldT P S n 1 + ldT P S n 2 + ldT P S n 3 + (if 10 ≤ pTo P n then sW S n else 0) ≤ 4 * sW S n := by
  unfold ldT
  by_cases h : pTo P n < 10
  · simp only [if_pos h, if_neg (show ¬ 10 ≤ pTo P n by omega)]
    rcases (show pTo P n = 0 ∨ pTo P n = 1 ∨ pTo P n = 2 ∨ pTo P n = 3 ∨ 4 ≤ pTo P n by omega) with e | e | e | e | e
    · simp [e]
    · simp [e]
    · simp [e]
    · simp [e]
    · rw [if_neg (by omega), if_neg (by omega), if_neg (by omega), if_neg (by omega)]; omega
  · simp only [if_neg h, if_pos (show 10 ≤ pTo P n by omega), Nat.reduceLT, true_and]
    by_cases h2 : pTo P n < 20
    · simp only [if_pos h2]
      have hf : pTo P n - 10 < pFd P := by have := hk.2.2.2.2.1 n hn; have := hk.1; omega
      obtain ⟨-, hq, hd, -⟩ := hS.2.1 _ hf
      generalize S (pTo P n - 10) = x at hd ⊢
      generalize sQ S (pTo P n - 10) = q at hq hd ⊢
      have hw : sW S n * q ≤ sW S n * 3 := Nat.mul_le_mul_left _ hq
      have a01 : (nI 0 = nI 1) = False := eq_false (by decide)
      have a02 : (nI 0 = nI 2) = False := eq_false (by decide)
      have a03 : (nI 0 = nI 3) = False := eq_false (by decide)
      have a12 : (nI 1 = nI 2) = False := eq_false (by decide)
      have a13 : (nI 1 = nI 3) = False := eq_false (by decide)
      have a23 : (nI 2 = nI 3) = False := eq_false (by decide)
      by_cases e0 : x = nI 0
      · subst e0; simp only [a01, a02, a03, if_true, if_false]; omega
      · by_cases e1 : x = nI 1
        · subst e1; simp only [a12, a13, e0, if_true, if_false]; omega
        · by_cases e2 : x = nI 2
          · subst e2; simp only [a23, e0, e1, if_true, if_false]; omega
          · by_cases e3 : x = nI 3
            · subst e3; simp only [e0, e1, e2, if_true, if_false]; omega
            · simp only [e0, e1, e2, e3, if_false]; omega
    · simp only [if_neg h2]; omega
theorem wN_le {P : Pl} {S : Nat → Int32} (hk : PlOK P) (hS : StOK P S) (l : Nat) : wN P S l ≤ 36 := by
  have h1 : wN P S l ≤ pNo P * 3 := sumN_k (fun i hi => by
    have := (hS.1 i hi).2
    split <;> omega)
  have := hk.2.2.1
  omega
theorem lead_sum (P : Pl) (S : Nat → Int32) (l : Nat) : leadN P S l 0 + leadN P S l 1 + leadN P S l 2 + leadN P S l 3 = sumN (pNo P) (fun n => if pLog P n = l then ldT P S n 0 + ldT P S n 1 + ldT P S n 2 + ldT P S n 3 else 0) := by
  unfold leadN
  rw [← sumN_add, ← sumN_add, ← sumN_add]
  refine sumN_c (fun i _ => ?_)
  split <;> omega
theorem wN4 (P : Pl) (S : Nat → Int32) (l : Nat) : sumN (pNo P) (fun n => if pLog P n = l then 4 * sW S n else 0) = 4 * wN P S l := by
  unfold wN
  rw [← sumN_mul]
  refine sumN_c (fun i _ => ?_)
  split <;> omega
/-- what does not come back to the logs -/
theorem lead_le {P : Pl} {S : Nat → Int32} (hk : PlOK P) (hS : StOK P S) (l : Nat) : leadN P S l 0 + leadN P S l 1 + leadN P S l 2 + leadN P S l 3 ≤ 4 * wN P S l := by
  rw [lead_sum, ← wN4]
  refine sumN_le (fun i hi => ?_)
  have := ldT_le hk hS hi
  split
  · split at this <;> omega
  · omega
theorem lead_out {P : Pl} {S : Nat → Int32} (hk : PlOK P) (hS : StOK P S) {l : Nat} (h : outL P S l) : leadN P S l 0 + leadN P S l 1 + leadN P S l 2 + leadN P S l 3 + 1 ≤ 4 * sp P S l := by
  rcases h with h | ⟨n, hn, hl, hw, ht⟩
  · have := lead_le hk hS l
    unfold sp
    rw [if_pos h]
    omega
  · have h1 : 0 < wN P S l := by
      have := sumN_ge (n := pNo P) (f := fun n => if pLog P n = l then sW S n else 0) hn
      simp only [if_pos hl] at this
      unfold wN
      omega
    unfold sp
    rw [if_neg (by omega), lead_sum, ← wN4]
    refine sumN_lt (k := n) (fun i hi => ?_) hn ?_
    · have := ldT_le hk hS hi
      split
      · split at this <;> omega
      · omega
    · have := ldT_le hk hS hn
      rw [if_pos ht] at this
      simp only [if_pos hl]
      omega
theorem lead_in {P : Pl} {S : Nat → Int32} (hk : PlOK P) (hS : StOK P S) {l t : Nat} (h : 0 < leadN P S l t) : l < pLg P ∧ t < pLg P ∧ 0 < wN P S l := by
  obtain ⟨n, hn, hp⟩ := sumN_pos h
  by_cases hl : pLog P n = l
  · simp only [if_pos hl] at hp
    have h4 := hk.2.2.2.1 n hn
    have h5 := hk.2.2.2.2.1 n hn
    have hw : 0 < sW S n ∧ t < pLg P := by
      unfold ldT at hp
      split at hp
      · rename_i h10
        split at hp
        · omega
        · omega
      · split at hp
        · rename_i h10 h20
          have hf : pTo P n - 10 < pFd P := by have := hk.1; omega
          obtain ⟨-, hq, hd, -⟩ := hS.2.1 _ hf
          split at hp
          · rename_i e
            obtain ⟨ht4, e⟩ := e
            rcases hd with ⟨-, hd⟩ | ⟨hd, hd2⟩
            · rw [hd] at hp; omega
            · rw [e] at hd
              have := (nI_eq (show t < 2 ^ 31 by omega) (show sD S (pTo P n - 10) < 2 ^ 31 by have := hk.1; omega)).mp hd
              refine ⟨Nat.pos_of_ne_zero (fun z => by rw [z] at hp; omega), by omega⟩
          · omega
        · omega
    refine ⟨by omega, hw.2, ?_⟩
    have := sumN_ge (n := pNo P) (f := fun n => if pLog P n = l then sW S n else 0) hn
    simp only [if_pos hl] at this
    unfold wN
    omega
  · rw [if_neg hl] at hp; omega
theorem least_of {p : Nat → Prop} (h : ∃ k, p k) : ∃ k, p k ∧ ∀ j, j < k → ¬ p j := by
  obtain ⟨k, hk⟩ := h
  induction k using Nat.strongRecOn with
  | ind k ih =>
    by_cases e : ∃ j, j < k ∧ p j
    · obtain ⟨j, hj, hp⟩ := e
      exact ih j hj hp
    · exact ⟨k, hk, fun j hj hp => e ⟨j, hj, hp⟩⟩
/-- so many steps to a way out -/
def OD (P : Pl) (S : Nat → Int32) : Nat → Nat → Prop
  | 0, l => outL P S l
  | k + 1, l => ∃ t, t < 4 ∧ 0 < leadN P S l t ∧ OD P S k t
theorem wt_a {K L0 L1 L2 L3 M Q0 Q1 Q2 Q3 q : Int} (a0 : 0 ≤ L0) (a1 : 0 ≤ L1) (a2 : 0 ≤ L2) (a3 : 0 ≤ L3) (p0 : 0 ≤ Q0) (p1 : 0 ≤ Q1) (p2 : 0 ≤ Q2) (p3 : 0 ≤ Q3) (h : L0 + L1 + L2 + L3 + 1 ≤ K) (hM : K * q < M) (hM0 : 0 ≤ M) : L0 * (M - Q0) + L1 * (M - Q1) + L2 * (M - Q2) + L3 * (M - Q3) < K * (M - q) := by
  have h1 := Int.mul_le_mul_of_nonneg_right h hM0
  have b0 := Int.mul_nonneg a0 p0
  have b1 := Int.mul_nonneg a1 p1
  have b2 := Int.mul_nonneg a2 p2
  have b3 := Int.mul_nonneg a3 p3
  simp only [Int.add_mul, Int.mul_sub] at h1 ⊢
  omega
theorem wt_b {K L0 L1 L2 L3 M Q0 Q1 Q2 Q3 q : Int} (a0 : 0 ≤ L0) (a1 : 0 ≤ L1) (a2 : 0 ≤ L2) (a3 : 0 ≤ L3) (h : L0 + L1 + L2 + L3 ≤ K) (hM0 : 0 ≤ M) (hq : K * q < L0 * Q0 + L1 * Q1 + L2 * Q2 + L3 * Q3) : L0 * (M - Q0) + L1 * (M - Q1) + L2 * (M - Q2) + L3 * (M - Q3) < K * (M - q) := by
  have h1 := Int.mul_le_mul_of_nonneg_right h hM0
  simp only [Int.add_mul, Int.mul_sub] at h1 ⊢
  omega
theorem pick4 {L : Nat → Int} {Q : Nat → Int} (hL : ∀ i, 0 ≤ L i) (hQ : ∀ i, 0 ≤ Q i) {t : Nat} (ht : t < 4) (h1 : 1 ≤ L t) : Q t ≤ L 0 * Q 0 + L 1 * Q 1 + L 2 * Q 2 + L 3 * Q 3 := by
  have b0 := Int.mul_nonneg (hL 0) (hQ 0)
  have b1 := Int.mul_nonneg (hL 1) (hQ 1)
  have b2 := Int.mul_nonneg (hL 2) (hQ 2)
  have b3 := Int.mul_nonneg (hL 3) (hQ 3)
  have b := Int.mul_le_mul_of_nonneg_right h1 (hQ t)
  rw [Int.one_mul] at b
  rcases (show t = 0 ∨ t = 1 ∨ t = 2 ∨ t = 3 by omega) with rfl | rfl | rfl | rfl <;> omega
theorem sp_le {P : Pl} {S : Nat → Int32} (hk : PlOK P) (hS : StOK P S) (l : Nat) : 1 ≤ sp P S l ∧ sp P S l ≤ 36 := by
  have := wN_le hk hS l
  unfold sp
  split <;> omega
theorem aM_j {P : Pl} {S : Nat → Int32} {i j : Nat} (hj : j < 4) : aM P S i j = (if i = j then ifP (Rh P S j) ((4 * sp P S j : Nat) : Int) 1 else 0) - ifP (Rh P S j) ((leadN P S j i : Nat) : Int) 0 := if_pos hj
theorem aM_4 {P : Pl} {S : Nat → Int32} {i : Nat} : aM P S i 4 = if i = 0 then ((sS S : Nat) : Int) else 0 := if_neg (by decide)
theorem ipow_mono {b : Int} (h : 1 ≤ b) (a k : Nat) : b ^ a ≤ b ^ (a + k) := by
  induction k with
  | zero => exact Int.le_refl _
  | succ k ih =>
    have h0 : 0 < b ^ (a + k) := Int.pow_pos (by omega)
    have h1 := Int.mul_le_mul_of_nonneg_left h (Int.le_of_lt h0)
    rw [Int.mul_one] at h1
    rw [show a + (k + 1) = a + k + 1 by omega, Int.pow_succ]
    omega
/-- no flood: weights by which each column is above 0 -/
theorem aM_TI {P : Pl} {S : Nat → Int32} (hk : PlOK P) (hS : StOK P S) (h : ¬ Fl P S) : ∃ v : Nat → Int, (∀ i, i < 4 → 0 < v i) ∧ TI (aM P S) v 0 := by
  have hd : ∀ l, ∃ k, (∃ k2, OD P S k2 l) → (OD P S k l ∧ ∀ j, j < k → ¬ OD P S j l) := fun l => by
    by_cases e : ∃ k2, OD P S k2 l
    · obtain ⟨k, hk⟩ := least_of e
      exact ⟨k, fun _ => hk⟩
    · exact ⟨0, fun z => absurd z e⟩
  obtain ⟨d, hd⟩ := Classical.skolem.mp hd
  have hR : ∀ l, l < 4 → Rh P S l → ∃ k, OD P S k l := fun l hl4 hl => by
    refine Classical.byContradiction (fun hn => ?_)
    refine h ⟨l, ?_, hl, fun t ht ho => ?_⟩
    · refine Classical.byContradiction (fun hlt => hn ⟨0, Or.inl ?_⟩)
      unfold wN
      refine Nat.eq_zero_of_not_pos (fun hpos => ?_)
      obtain ⟨n, hn2, hp⟩ := sumN_pos hpos
      have := hk.2.2.2.1 n hn2
      split at hp <;> omega
    · have key := ht (fun m => m < 4 ∧ ¬ ∃ k, OD P S k m) (fun m hm => by subst hm; exact ⟨hl4, hn⟩) (fun m t hm hlt => by
        have ht4 : t < 4 := by have := (lead_in hk hS hlt).2.1; have := hk.1; omega
        exact ⟨ht4, fun ⟨k, hk2⟩ => hm.2 ⟨k + 1, t, ht4, hlt, hk2⟩⟩)
      exact key.2 ⟨0, ho⟩
  have hN : ∃ N, ∀ i, i < 4 → d i ≤ N := ⟨d 0 + d 1 + d 2 + d 3, fun i hi => by
    rcases (show i = 0 ∨ i = 1 ∨ i = 2 ∨ i = 3 by omega) with rfl | rfl | rfl | rfl <;> omega⟩
  obtain ⟨N, hN⟩ := hN
  have hp : ∀ k, 0 < (200 : Int) ^ k := fun k => Int.pow_pos (by decide)
  have hmono : ∀ a b : Nat, a ≤ b → (200 : Int) ^ a ≤ 200 ^ b := fun a b hab => by
    obtain ⟨k, rfl⟩ := Nat.exists_eq_add_of_le hab
    exact ipow_mono (by decide) a k
  let Q : Nat → Int := fun i => (200 : Int) ^ (N - d i)
  let M : Int := (200 : Int) ^ (N + 1)
  have hQM : ∀ i, i < 4 → 200 * Q i ≤ M := fun i _ => by
    have := hmono (N - d i + 1) (N + 1) (by omega)
    rw [Int.pow_succ] at this
    show 200 * (200 : Int) ^ (N - d i) ≤ _
    omega
  have hQ0 : ∀ i, 0 < Q i := fun i => hp _
  refine ⟨fun i => M - Q i, fun i hi => by have := hQM i hi; have := hQ0 i; show 0 < M - Q i; omega, fun i j hi _ hj hij => ?_, fun i hi => ?_, fun j _ hj => ?_⟩
  · rw [aM_j hj, if_neg hij]
    unfold ifP
    split <;> omega
  · rw [aM_4]
    split <;> omega
  · have e4 : ∀ i, aM P S i j = (if i = j then ifP (Rh P S j) ((4 * sp P S j : Nat) : Int) 1 else 0) - ifP (Rh P S j) ((leadN P S j i : Nat) : Int) 0 := fun i => aM_j hj
    simp only [Nat.zero_le, ↓reduceIte, e4]
    by_cases hr : Rh P S j
    · have f1 : ∀ (a b : Int), ifP (Rh P S j) a b = a := fun a b => ifP_t hr
      simp only [f1]
      have hsp := sp_le hk hS j
      have hle : leadN P S j 0 + leadN P S j 1 + leadN P S j 2 + leadN P S j 3 ≤ 4 * sp P S j := by
        have := lead_le hk hS j
        unfold sp
        split <;> omega
      have hmain : (leadN P S j 0 : Int) * (M - Q 0) + (leadN P S j 1 : Int) * (M - Q 1) + (leadN P S j 2 : Int) * (M - Q 2) + (leadN P S j 3 : Int) * (M - Q 3) < ((4 * sp P S j : Nat) : Int) * (M - Q j) := by
        have hkq : ((4 * sp P S j : Nat) : Int) * Q j ≤ 144 * Q j := Int.mul_le_mul_of_nonneg_right (by omega) (Int.le_of_lt (hQ0 j))
        obtain ⟨hod, hmin⟩ := hd j (hR j hj hr)
        match hdj : d j, hod, hmin with
        | 0, hod, hmin =>
          have := lead_out hk hS (show outL P S j from hod)
          refine wt_a (by omega) (by omega) (by omega) (by omega) (Int.le_of_lt (hQ0 0)) (Int.le_of_lt (hQ0 1)) (Int.le_of_lt (hQ0 2)) (Int.le_of_lt (hQ0 3)) (by omega) ?_ (Int.le_of_lt (hp _))
          have := hQM j hj
          have := hQ0 j
          omega
        | k + 1, hod, hmin =>
          obtain ⟨t, ht4, hlt, hod2⟩ := hod
          have hdt : d t ≤ k := by
            obtain ⟨-, hmin2⟩ := hd t ⟨k, hod2⟩
            refine Nat.not_lt.mp (fun z => hmin2 k z hod2)
          refine wt_b (by omega) (by omega) (by omega) (by omega) (by omega) (Int.le_of_lt (hp _)) ?_
          have h1 := pick4 (L := fun i => (leadN P S j i : Int)) (Q := Q) (fun i => by show (0 : Int) ≤ (leadN P S j i : Int); omega) (fun i => Int.le_of_lt (hQ0 i)) ht4 (by show (1 : Int) ≤ (leadN P S j t : Int); omega)
          have h2 : 200 * Q j ≤ Q t := by
            have := hN j hj
            have := hmono (N - d j + 1) (N - d t) (by omega)
            rw [Int.pow_succ] at this
            show 200 * (200 : Int) ^ (N - d j) ≤ (200 : Int) ^ (N - d t)
            omega
          have := hQ0 j
          have h1' : Q t ≤ (leadN P S j 0 : Int) * Q 0 + (leadN P S j 1 : Int) * Q 1 + (leadN P S j 2 : Int) * Q 2 + (leadN P S j 3 : Int) * Q 3 := h1
          omega
      rcases (show j = 0 ∨ j = 1 ∨ j = 2 ∨ j = 3 by omega) with rfl | rfl | rfl | rfl
      all_goals
        simp only [Nat.reduceEqDiff, ↓reduceIte, Int.mul_sub, Int.sub_mul, Int.mul_zero, Int.zero_sub, Int.mul_neg] at hmain ⊢
        simp only [Int.mul_comm M, Int.mul_comm (Q 0), Int.mul_comm (Q 1), Int.mul_comm (Q 2), Int.mul_comm (Q 3)]
        omega
    · have f1 : ∀ (a b : Int), ifP (Rh P S j) a b = b := fun a b => ifP_f hr
      simp only [f1]
      have h1 := hQM j hj
      have h2 := hQ0 j
      rcases (show j = 0 ∨ j = 1 ∨ j = 2 ∨ j = 3 by omega) with rfl | rfl | rfl | rfl
      all_goals
        simp only [Nat.reduceEqDiff, ↓reduceIte, Int.sub_zero, Int.mul_zero, Int.mul_one, Int.zero_add, Int.add_zero]
        omega

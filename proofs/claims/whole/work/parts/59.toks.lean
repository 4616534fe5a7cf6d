/-! tokens -/
def By1 (x : Int32) (b : Nat) : Prop := b < 256 ∧ x &&& nI 255 = nI b ∧ ((b < 128 ∧ x = nI b) ∨ (128 ≤ b ∧ x < nI 0))
theorem by_tab : ∀ k, k < 256 → (Int8.toInt32 (Int8.ofNat k) &&& nI 255 = nI k) ∧ (k < 128 → Int8.toInt32 (Int8.ofNat k) = nI k) ∧ (128 ≤ k → Int8.toInt32 (Int8.ofNat k) < nI 0) ∧ Int8.toInt32 (Int32.toInt8 (Int8.toInt32 (Int8.ofNat k))) = Int8.toInt32 (Int8.ofNat k) := by decide +kernel
theorem byOK_n {x : Int32} (h : byOK x) : ∃ k, k < 256 ∧ x = Int8.toInt32 (Int8.ofNat k) := by
  obtain ⟨z, rfl⟩ := h
  refine ⟨z.toBitVec.toNat, z.toBitVec.isLt, ?_⟩
  congr 1
  apply Int8.toBitVec_inj.mp
  show z.toBitVec = BitVec.ofNat 8 z.toBitVec.toNat
  rw [BitVec.ofNat_toNat, BitVec.setWidth_eq]
theorem byOK_By {x : Int32} (h : byOK x) : By1 x (cl (x &&& nI 255)) := by
  obtain ⟨k, hk, rfl⟩ := byOK_n h
  obtain ⟨a, b, c, -⟩ := by_tab k hk
  rw [a, cl_nI (by omega)]
  refine ⟨hk, a, ?_⟩
  by_cases h : k < 128
  · exact Or.inl ⟨h, b h⟩
  · exact Or.inr ⟨by omega, c (by omega)⟩
theorem byOK_id {x : Int32} (h : byOK x) : Int8.toInt32 (Int32.toInt8 x) = x := by
  obtain ⟨k, hk, rfl⟩ := byOK_n h
  exact (by_tab k hk).2.2.2
def isLb (b : Nat) : Bool := decide (97 ≤ b) && decide (b ≤ 122)
def isDb (b : Nat) : Bool := decide (48 ≤ b) && decide (b ≤ 57)
def isWb (b : Nat) : Bool := decide (b = 9) || (decide (b = 10) || (decide (b = 13) || decide (b = 32)))
theorem By1.lt {x : Int32} {b c : Nat} (h : By1 x b) (hc : c < 128) : (x < nI c) ↔ (b < c ∨ 128 ≤ b) := by
  obtain ⟨h1, -, ⟨h2, rfl⟩ | ⟨h2, h3⟩⟩ := h
  · by_cases z : b < c
    · rw [nI_ltT z (by omega)]; exact ⟨fun _ => Or.inl z, fun _ => trivial⟩
    · rw [nI_ltF (by omega) (by omega)]; exact ⟨fun h => h.elim, fun h => by omega⟩
  · exact ⟨fun _ => Or.inr h2, fun _ => Int32.lt_of_lt_of_le h3 (nI_le (Nat.zero_le _) (by omega))⟩
theorem nI_neg {c : Nat} (hc : c < 2147483648) (z : nI c < nI 0) : False := by
  rw [nI_ltF (Nat.zero_le _) hc] at z
  exact z
theorem By1.gt {x : Int32} {b c : Nat} (h : By1 x b) (hc : c < 128) : (nI c < x) ↔ (c < b ∧ b < 128) := by
  obtain ⟨h1, -, ⟨h2, rfl⟩ | ⟨h2, h3⟩⟩ := h
  · by_cases z : c < b
    · rw [nI_ltT z (by omega)]; exact ⟨fun _ => ⟨z, h2⟩, fun _ => trivial⟩
    · rw [nI_ltF (by omega) (by omega)]; exact ⟨fun h => h.elim, fun h => by omega⟩
  · exact ⟨fun z => (nI_neg (by omega) (Int32.lt_trans z h3)).elim, fun z => by omega⟩
theorem By1.eq {x : Int32} {b c : Nat} (h : By1 x b) (hc : c < 128) : (x = nI c) ↔ b = c := by
  obtain ⟨h1, -, ⟨h2, rfl⟩ | ⟨h2, h3⟩⟩ := h
  · exact nI_eq (by omega) (by omega)
  · refine ⟨fun z => ?_, fun z => by omega⟩
    rw [z] at h3
    exact (nI_neg (by omega) h3).elim
theorem to_isLetter_e {x : Int32} {b : Nat} (h : By1 x b) (μ : Mem) : to_isLetter x μ = some (b01I (isLb b), μ) := by
  unfold to_isLetter isLb
  by_cases c1 : b < 97 ∨ 128 ≤ b
  · rw [if_pos ((h.lt (by omega)).mpr c1)]
    by_cases c2 : 97 ≤ b
    · rw [decide_eq_true c2, decide_eq_false (show ¬ b ≤ 122 by omega)]; rfl
    · rw [decide_eq_false c2]; rfl
  · rw [if_neg (fun z => c1 ((h.lt (by omega)).mp z)), decide_eq_true (show 97 ≤ b by omega)]
    by_cases c2 : b ≤ 122
    · rw [if_neg (fun z => by have := (h.gt (by omega)).mp z; omega), decide_eq_true c2]; rfl
    · rw [if_pos ((h.gt (by omega)).mpr (by omega)), decide_eq_false c2]; rfl
theorem to_isDigit_e {x : Int32} {b : Nat} (h : By1 x b) (μ : Mem) : to_isDigit x μ = some (b01I (isDb b), μ) := by
  unfold to_isDigit isDb
  by_cases c1 : b < 48 ∨ 128 ≤ b
  · rw [if_pos ((h.lt (by omega)).mpr c1)]
    by_cases c2 : 48 ≤ b
    · rw [decide_eq_true c2, decide_eq_false (show ¬ b ≤ 57 by omega)]; rfl
    · rw [decide_eq_false c2]; rfl
  · rw [if_neg (fun z => c1 ((h.lt (by omega)).mp z)), decide_eq_true (show 48 ≤ b by omega)]
    by_cases c2 : b ≤ 57
    · rw [if_neg (fun z => by have := (h.gt (by omega)).mp z; omega), decide_eq_true c2]; rfl
    · rw [if_pos ((h.gt (by omega)).mpr (by omega)), decide_eq_false c2]; rfl
theorem to_isBlank_e {x : Int32} {b : Nat} (h : By1 x b) (μ : Mem) : to_isBlank x μ = some (b01I (isWb b), μ) := by
  unfold to_isBlank isWb
  simp only [h.eq (show 9 < 128 by omega), h.eq (show 10 < 128 by omega), h.eq (show 13 < 128 by omega), h.eq (show 32 < 128 by omega)]
  by_cases c1 : b = 9
  · rw [if_pos c1, decide_eq_true c1]; rfl
  by_cases c2 : b = 10
  · rw [if_neg c1, if_pos c2, decide_eq_true c2, decide_eq_false c1]; rfl
  by_cases c3 : b = 13
  · rw [if_neg c1, if_neg c2, if_pos c3, decide_eq_true c3, decide_eq_false c1, decide_eq_false c2]; rfl
  by_cases c4 : b = 32
  · rw [if_neg c1, if_neg c2, if_neg c3, if_pos c4, decide_eq_true c4, decide_eq_false c1, decide_eq_false c2, decide_eq_false c3]; rfl
  · rw [if_neg c1, if_neg c2, if_neg c3, if_neg c4, decide_eq_false c4, decide_eq_false c1, decide_eq_false c2, decide_eq_false c3]; rfl
/-- how far what q holds of goes -/
def runE (q : Nat → Bool) (B : Nat → Nat) : Nat → Nat → Nat
  | 0, e => e
  | f + 1, e => if q (B e) = true then runE q B f (e + 1) else e
theorem runE_p (q : Nat → Bool) (B : Nat → Nat) : ∀ f e, e ≤ runE q B f e ∧ runE q B f e ≤ e + f ∧ (∀ j, e ≤ j → j < runE q B f e → q (B j) = true) ∧ (runE q B f e < e + f → q (B (runE q B f e)) = false)
  | 0, e => ⟨Nat.le_refl _, Nat.le_refl _, fun j h1 h2 => absurd (show j < e from h2) (by omega), fun h => absurd (show e < e + 0 from h) (by omega)⟩
  | f + 1, e => by
    unfold runE
    cases c : q (B e) with
    | false =>
      rw [if_neg (by decide)]
      exact ⟨Nat.le_refl _, by omega, fun j h1 h2 => by omega, fun _ => c⟩
    | true =>
      rw [if_pos rfl]
      obtain ⟨a, b, d, g⟩ := runE_p q B f (e + 1)
      refine ⟨by omega, by omega, fun j h1 h2 => ?_, fun h => g (by omega)⟩
      by_cases z : j = e
      · subst z; exact c
      · exact d j (by omega) h2
def tEnd (B : Nat → Nat) (m a : Nat) : Nat := if isLb (B a) = true then runE isLb B (m - (a + 1)) (a + 1) else if isDb (B a) = true then runE isDb B (m - (a + 1)) (a + 1) else a + 1
theorem LD {b : Nat} (h : isLb b = true) : isDb b = false := by
  unfold isLb at h
  unfold isDb
  simp only [Bool.and_eq_true, decide_eq_true_eq] at h
  rw [decide_eq_false (show ¬ b ≤ 57 by omega), Bool.and_false]
theorem tEnd_p {B : Nat → Nat} {m a : Nat} (h : a < m) : a + 1 ≤ tEnd B m a ∧ tEnd B m a ≤ m := by
  unfold tEnd
  split
  · have := runE_p isLb B (m - (a + 1)) (a + 1); omega
  · split
    · have := runE_p isDb B (m - (a + 1)) (a + 1); omega
    · omega
def ByT (X : Nat → Int32) (B : Nat → Nat) (m : Nat) : Prop := ∀ k, k < m → By1 (X k) (B k)
theorem to_end_e {μ : Mem} {X : Nat → Int32} {B : Nat → Nat} {m a : Nat} (hm : m ≤ 2000) (hb : ByT X B m) (hx : ∀ k, k < m → mI μ 11 0 k = X k) (ha : a < m) : to_endOfToken_r11 (nI m) (nI a) μ = some (nI (tEnd B m a), μ) := by
  have e1 := to_isLetter_e (hb a ha) μ
  have e2 := to_isDigit_e (hb a ha) μ
  unfold to_endOfToken_r11
  simp (disch := omega) only [inB_nI, cl_nI, hx a ha, ↓ob_eq e1, ↓ob_eq e2, nI_add, ↓reduceIte]
  unfold tEnd
  cases c1 : isLb (B a) with
  | true =>
    rw [LD c1, if_pos rfl]
    obtain ⟨p1, p2, p3, p4⟩ := runE_p isLb B (m - (a + 1)) (a + 1)
    refine fixN_up (fun i (self : Int32 → Mem → Option (Int32 × Mem)) => a + 1 ≤ i → self (nI i) μ = some (nI (runE isLb B (m - (a + 1)) (a + 1)), μ)) (runE isLb B (m - (a + 1)) (a + 1)) ?_ ?_ 60000 (a + 1) p1 (by omega) (Nat.le_refl _)
    · intro i self hi ih h1
      have e3 := to_isLetter_e (hb i (by omega)) μ
      rw [p3 i h1 hi] at e3
      unfold to_endOfToken_r11_B20
      simp (disch := omega) only [nI_leF, inB_nI, cl_nI, hx i (show i < m by omega), ↓ob_eq e3, show b01I true = nI 1 from rfl, show b01I false = nI 0 from rfl, nI_10, nI_add, ↓reduceIte]
      exact ih (by omega)
    · intro self h1
      unfold to_endOfToken_r11_B20
      by_cases z : runE isLb B (m - (a + 1)) (a + 1) = m
      · rw [if_pos (by rw [nI_leT (by omega) (by omega)]; trivial)]
      · have e3 := to_isLetter_e (hb (runE isLb B (m - (a + 1)) (a + 1)) (by omega)) μ
        rw [p4 (by omega)] at e3
        simp (disch := omega) only [nI_leF, inB_nI, cl_nI, hx (runE isLb B (m - (a + 1)) (a + 1)) (show runE isLb B (m - (a + 1)) (a + 1) < m by omega), ↓ob_eq e3, show b01I true = nI 1 from rfl, show b01I false = nI 0 from rfl, nI_10, ↓reduceIte]
  | false =>
    rw [if_neg (by decide)]
    cases c2 : isDb (B a) with
    | true =>
      rw [if_pos rfl]
      obtain ⟨p1, p2, p3, p4⟩ := runE_p isDb B (m - (a + 1)) (a + 1)
      refine fixN_up (fun i (self : Int32 → Mem → Option (Int32 × Mem)) => a + 1 ≤ i → self (nI i) μ = some (nI (runE isDb B (m - (a + 1)) (a + 1)), μ)) (runE isDb B (m - (a + 1)) (a + 1)) ?_ ?_ 60000 (a + 1) p1 (by omega) (Nat.le_refl _)
      · intro i self hi ih h1
        have e3 := to_isDigit_e (hb i (by omega)) μ
        rw [p3 i h1 hi] at e3
        unfold to_endOfToken_r11_B20
        simp (disch := omega) only [nI_leF, inB_nI, cl_nI, hx i (show i < m by omega), ↓ob_eq e3, show b01I true = nI 1 from rfl, show b01I false = nI 0 from rfl, nI_10, nI_add, ↓reduceIte]
        exact ih (by omega)
      · intro self h1
        unfold to_endOfToken_r11_B20
        by_cases z : runE isDb B (m - (a + 1)) (a + 1) = m
        · rw [if_pos (by rw [nI_leT (by omega) (by omega)]; trivial)]
        · have e3 := to_isDigit_e (hb (runE isDb B (m - (a + 1)) (a + 1)) (by omega)) μ
          rw [p4 (by omega)] at e3
          simp (disch := omega) only [nI_leF, inB_nI, cl_nI, hx (runE isDb B (m - (a + 1)) (a + 1)) (show runE isDb B (m - (a + 1)) (a + 1) < m by omega), ↓ob_eq e3, show b01I true = nI 1 from rfl, show b01I false = nI 0 from rfl, nI_10, ↓reduceIte]
    | false =>
      rw [if_neg (by decide)]
      unfold to_endOfToken_r11_L20
      rw [show 60000 = 59999 + 1 from rfl, fixN_s]
      unfold to_endOfToken_r11_B20
      by_cases z : m ≤ a + 1
      · rw [if_pos (by rw [nI_leT (by omega) (by omega)]; trivial)]
      · simp (disch := omega) only [nI_leF, show b01I false = nI 0 from rfl, ↓reduceIte]
/-! words -/
def lts (B : Nat → Nat) (a e : Nat) : List Nat := (List.range (e - a)).map (fun j => B (a + j) - 96)
theorem lts_len (B : Nat → Nat) (a e : Nat) : (lts B a e).length = e - a := by simp [lts]
theorem lts_get {B : Nat → Nat} {a e j : Nat} (h : j < e - a) : (lts B a e).getD j 0 = B (a + j) - 96 := by simp [lts, h]
theorem lts_s {B : Nat → Nat} {a i : Nat} (h : a ≤ i) : lts B a (i + 1) = lts B a i ++ [B i - 96] := by
  unfold lts
  rw [show i + 1 - a = (i - a) + 1 by omega, List.range_succ, List.map_append, List.map_singleton, show a + (i - a) = i by omega]
theorem vlW_s (l : List Nat) (c : Nat) : vlW (l ++ [c]) = 27 * vlW l + c := by simp [vlW]
def dts (B : Nat → Nat) (a e : Nat) : List Nat := (List.range (e - a)).map (fun j => B (a + j) - 48)
def vlD (l : List Nat) : Nat := l.foldl (fun v c => 10 * v + c) 0
theorem dts_s {B : Nat → Nat} {a i : Nat} (h : a ≤ i) : dts B a (i + 1) = dts B a i ++ [B i - 48] := by
  unfold dts
  rw [show i + 1 - a = (i - a) + 1 by omega, List.range_succ, List.map_append, List.map_singleton, show a + (i - a) = i by omega]
theorem vlD_s (l : List Nat) (c : Nat) : vlD (l ++ [c]) = 10 * vlD l + c := by simp [vlD]
/-- the words in the class' order -/
def wdC : List (List Nat) := [[12,15,7], [6,9,5,12,4], [14,15,20,3,8], [4,18,1,9,14], [19,16,18,9,14,7], [14,5,5,4,19], [23,15,18,20,8], [3,15,19,20,19], [19,9,12,20,19], [19,5,5,4], [18,9,22,5,18], [9,6], [20,8,5,14], [5,12,19,5], [6,12,15,23], [1,18,5,1], [23,9,4,5], [7,18,15,23,14], [4,1,25], [23,8,9,3,8], [19,20,15,18,5], [12,15,7,19], [6,9,5,12,4,19]]
def wkF (ls : List Nat) : Nat → Nat → Nat
  | 0, _ => 40
  | f + 1, w => if wdC.getD w [] = ls then w else wkF ls f (w + 1)
def wk (ls : List Nat) : Nat := wkF ls 23 0
def pd8 (l : List Nat) (i : Nat) : Nat := if i < l.length then 96 + l.getD i 0 else 32
theorem bytS_w : ∀ w, w < 23 → ∀ i, i < 8 → ((bytS.getD 0 []).getD (w * 8 + i) 0) = nI (pd8 (wdC.getD w []) i) ∧ pd8 (wdC.getD w []) i < 128 := by decide +kernel
theorem wdC_len : ∀ w, w < 23 → (wdC.getD w []).length ≤ 8 ∧ ∀ c ∈ wdC.getD w [], 1 ≤ c := by decide +kernel
theorem pd8_ext {l l' : List Nat} (h1 : l.length ≤ 8) (h2 : l'.length ≤ 8) (p1 : ∀ c ∈ l, 1 ≤ c) (p2 : ∀ c ∈ l', 1 ≤ c) (h : ∀ i, i < 8 → pd8 l i = pd8 l' i) : l = l' := by
  have len : l.length = l'.length := by
    rcases Nat.lt_trichotomy l.length l'.length with c | c | c
    · exfalso
      have := h l.length (by omega)
      unfold pd8 at this
      rw [if_neg (by omega), if_pos c] at this
      omega
    · exact c
    · exfalso
      have := h l'.length (by omega)
      unfold pd8 at this
      rw [if_pos c, if_neg (by omega)] at this
      omega
  refine List.ext_getElem len fun i g1 g2 => ?_
  have := h i (by omega)
  unfold pd8 at this
  rw [if_pos g1, if_pos g2] at this
  rw [List.getD_eq_getElem?_getD, List.getElem?_eq_getElem g1, List.getD_eq_getElem?_getD, List.getElem?_eq_getElem g2, Option.getD_some, Option.getD_some] at this
  omega
theorem isWord_e {μ : Mem} {X : Nat → Int32} {B : Nat → Nat} {m a e w : Nat} (hm : m ≤ 2000) (hb : ByT X B m) (hx : ∀ k, k < m → mI μ 11 0 k = X k) (hae : a < e) (he : e ≤ m) (h8 : e - a ≤ 8) (hl : ∀ j, a ≤ j → j < e → isLb (B j) = true) (hw : w < 23) : to_isWord_r11 (nI a) (nI e) (nI (w * 8)) μ = some (b01I (decide (wdC.getD w [] = lts B a e)), μ) := by
  have lb : ∀ j, a ≤ j → j < e → 97 ≤ B j ∧ B j ≤ 122 := fun j h1 h2 => by
    have := hl j h1 h2
    unfold isLb at this
    simpa using this
  have len := lts_len B a e
  have pl : ∀ c ∈ lts B a e, 1 ≤ c := fun c hc => by
    unfold lts at hc
    rw [List.mem_map] at hc
    obtain ⟨j, hj, rfl⟩ := hc
    have := lb (a + j) (by omega) (by simp at hj; omega)
    omega
  have pdl : ∀ i, i < 8 → pd8 (lts B a e) i = if a + i < e then B (a + i) else 32 := fun i hi => by
    unfold pd8
    rw [len]
    by_cases c : a + i < e
    · have := lb (a + i) (by omega) c
      rw [if_pos (by omega), if_pos c, lts_get (by omega)]
      omega
    · rw [if_neg (by omega), if_neg c]
  obtain ⟨wl, wp⟩ := wdC_len w hw
  unfold to_isWord_r11
  refine fixN_up (fun i (self : Int32 → Mem → Option (Int32 × Mem)) => (∀ j, j < i → pd8 (wdC.getD w []) j = pd8 (lts B a e) j) → self (nI i) μ = some (b01I (decide (wdC.getD w [] = lts B a e)), μ)) 8 ?_ ?_ 60000 0 (by omega) (by omega) (fun j hj => by omega)
  · intro i self hi ih hj
    obtain ⟨b1, b2⟩ := bytS_w w hw i hi
    have hp := pdl i hi
    have step : (if pd8 (wdC.getD w []) i = pd8 (lts B a e) i then self (nI (i + 1)) μ else some (nI 0, μ)) = some (b01I (decide (wdC.getD w [] = lts B a e)), μ) := by
      by_cases c : pd8 (wdC.getD w []) i = pd8 (lts B a e) i
      · rw [if_pos c]
        refine ih (fun j hj2 => ?_)
        by_cases z : j = i
        · subst z; exact c
        · exact hj j (by omega)
      · rw [if_neg c, decide_eq_false (fun z => c (by rw [z]))]; rfl
    unfold to_isWord_r11_B3
    by_cases c : a + i < e
    · rw [if_pos c] at hp
      rw [hp] at step
      have hq := (hb (a + i) (by omega)).eq b2
      simp (disch := omega) only [nI_leF, nI_add, inB_nI, cl_nI, b1, hx (a + i) (show a + i < m by omega), ↓reduceIte]
      simp only [show (nI (pd8 (wdC.getD w []) i) = X (a + i)) = (pd8 (wdC.getD w []) i = B (a + i)) from propext ⟨fun z => (hq.mp z.symm).symm, fun z => (hq.mpr z.symm).symm⟩]
      exact step
    · rw [if_neg c] at hp
      rw [hp] at step
      simp (disch := omega) only [nI_leF, nI_leT, nI_add, inB_nI, cl_nI, b1, nI_eqN, ↓reduceIte]
      exact step
  · intro self hj
    unfold to_isWord_r11_B3
    rw [if_pos (by rw [nI_leT (by omega) (by omega)]; trivial), decide_eq_true (pd8_ext wl (by omega) wp pl hj)]
    rfl
theorem wordOrName_e {μ : Mem} {X : Nat → Int32} {B : Nat → Nat} {m a e : Nat} (hm : m ≤ 2000) (hb : ByT X B m) (hx : ∀ k, k < m → mI μ 11 0 k = X k) (hae : a < e) (he : e ≤ m) (h8 : e - a ≤ 8) (hl : ∀ j, a ≤ j → j < e → isLb (B j) = true) : to_wordOrName_r11 (nI a) (nI e) μ = some (nI (wk (lts B a e)), μ) := by
  unfold to_wordOrName_r11
  refine fixN_up (fun i (self : Int32 → Mem → Option (Int32 × Mem)) => self (nI i) μ = some (nI (wkF (lts B a e) (23 - i) i), μ)) 23 ?_ ?_ 60000 0 (by omega) (by omega)
  · intro i self hi ih
    have e1 := isWord_e hm hb hx hae he h8 hl hi
    rw [show 23 - i = (23 - (i + 1)) + 1 by omega]
    unfold to_wordOrName_r11_B2 wkF
    simp (disch := omega) only [nI_ltF, pk_mul, ↓ob_eq e1, nI_add, ↓reduceIte]
    by_cases c : wdC.getD i [] = lts B a e
    · rw [if_pos c, decide_eq_true c, if_neg (by decide)]
    · rw [if_neg c, decide_eq_false c, if_pos (show b01I false = nI 0 from rfl)]
      exact ih
  · intro self
    unfold to_wordOrName_r11_B2
    rw [if_pos (by rw [nI_ltT (by omega) (by omega)]; trivial)]
    rfl
/-! signs -/
def sgn : List Nat := [59, 61, 43, 45, 42, 47, 60, 40, 41]
def sgF (b : Nat) : Nat → Nat → Nat
  | 0, _ => 42
  | f + 1, i => if sgn.getD i 0 = b then 30 + i else sgF b f (i + 1)
def sgK (b : Nat) : Nat := sgF b 9 0
theorem bytS_s : ∀ i, i < 9 → ((bytS.getD 1 []).getD i 0) = nI (sgn.getD i 0) ∧ sgn.getD i 0 < 128 := by decide +kernel
def tkK (B : Nat → Nat) (a e : Nat) : Nat := if isLb (B a) = true then (if e - a ≤ 8 then wk (lts B a e) else 42) else if isDb (B a) = true then (if e - a ≤ 4 then 41 else 42) else sgK (B a)
def tkV (B : Nat → Nat) (a e : Nat) : Nat := if isLb (B a) = true then vlW (lts B a e) else if isDb (B a) = true then vlD (dts B a e) else 0
theorem kindOf_e {μ : Mem} {X : Nat → Int32} {B : Nat → Nat} {m a : Nat} (hm : m ≤ 2000) (hb : ByT X B m) (hx : ∀ k, k < m → mI μ 11 0 k = X k) (ha : a < m) : to_kindOf_r11 (nI a) (nI (tEnd B m a)) μ = some (nI (tkK B a (tEnd B m a)), μ) := by
  have e1 := to_isLetter_e (hb a ha) μ
  have e2 := to_isDigit_e (hb a ha) μ
  obtain ⟨q1, q2⟩ := tEnd_p (B := B) ha
  unfold to_kindOf_r11 tkK
  simp (disch := omega) only [inB_nI, cl_nI, hx a ha, ↓ob_eq e1, pk_sub, ↓reduceIte]
  cases c1 : isLb (B a) with
  | true =>
    rw [if_pos rfl, if_neg (by decide)]
    by_cases c : tEnd B m a - a ≤ 8
    · have hl : ∀ j, a ≤ j → j < tEnd B m a → isLb (B j) = true := fun j h1 h2 => by
        by_cases z : j = a
        · rw [z]; exact c1
        · unfold tEnd at h2
          rw [if_pos c1] at h2
          exact (runE_p isLb B (m - (a + 1)) (a + 1)).2.2.1 j (by omega) h2
      have e3 := wordOrName_e hm hb hx (by omega) q2 c hl
      rw [if_pos c, if_pos (by rw [nI_leT (by omega) (by omega)]; trivial), ob_eq e3]
    · rw [if_neg c, if_neg (by rw [nI_leF (by omega) (by omega)]; exact id)]
  | false =>
    rw [if_pos (show b01I false = nI 0 from rfl), if_neg (show ¬ (false = true) by decide), ob_eq e2]
    cases c2 : isDb (B a) with
    | true =>
      rw [if_pos rfl, if_neg (by decide)]
      by_cases c : tEnd B m a - a ≤ 4
      · rw [if_pos c, if_pos (by rw [nI_leT (by omega) (by omega)]; trivial)]
      · rw [if_neg c, if_neg (by rw [nI_leF (by omega) (by omega)]; exact id)]
    | false =>
      rw [if_pos (show b01I false = nI 0 from rfl), if_neg (show ¬ (false = true) by decide)]
      refine fixN_up (fun i (self : Int32 → Mem → Option (Int32 × Mem)) => self (nI i) μ = some (nI (sgF (B a) (9 - i) i), μ)) 9 ?_ ?_ 60000 0 (by omega) (by omega)
      · intro i self hi ih
        obtain ⟨b1, b2⟩ := bytS_s i hi
        have hq := (hb a ha).eq b2
        rw [show 9 - i = (9 - (i + 1)) + 1 by omega]
        unfold to_kindOf_r11_B55 sgF
        simp (disch := omega) only [nI_leF, inB_nI, cl_nI, hx a ha, b1, nI_add, ↓reduceIte]
        by_cases c : sgn.getD i 0 = B a
        · rw [if_pos c, if_pos (hq.mpr c.symm).symm]
        · rw [if_neg c, if_neg (fun z => c (hq.mp z.symm).symm)]
          exact ih
      · intro self
        unfold to_kindOf_r11_B55
        rw [if_pos (by rw [nI_leT (by omega) (by omega)]; trivial)]
        rfl
theorem valueOf_e {μ : Mem} {X : Nat → Int32} {B : Nat → Nat} {m a : Nat} (hm : m ≤ 2000) (hb : ByT X B m) (hx : ∀ k, k < m → mI μ 11 0 k = X k) (ha : a < m) : ∃ v, to_valueOf_r11 (nI a) (nI (tEnd B m a)) μ = some (v, μ) ∧ (isLb (B a) = true ∨ isDb (B a) = true → v = oL ((tkV B a (tEnd B m a) : Nat) : Int)) := by
  obtain ⟨q1, q2⟩ := tEnd_p (B := B) ha
  unfold to_valueOf_r11 tkV
  cases c1 : isLb (B a) with
  | true =>
    rw [if_pos rfl]
    have hl : ∀ j, a ≤ j → j < tEnd B m a → isLb (B j) = true := fun j h1 h2 => by
      by_cases z : j = a
      · rw [z]; exact c1
      · unfold tEnd at h2
        rw [if_pos c1] at h2
        exact (runE_p isLb B (m - (a + 1)) (a + 1)).2.2.1 j (by omega) h2
    refine ⟨_, ?_, fun _ => rfl⟩
    have := fixN_up (bot := fun _ _ _ => none) (b := to_valueOf_r11_B5 (nI (tEnd B m a))) (fun i (self : Int64 → Int32 → Mem → Option (Int64 × Mem)) => a ≤ i → self (oL ((vlW (lts B a i) : Nat) : Int)) (nI i) μ = some (oL ((vlW (lts B a (tEnd B m a)) : Nat) : Int), μ)) (tEnd B m a) ?_ ?_ 60000 a (by omega) (by omega) (Nat.le_refl _)
    · have z : lts B a a = [] := by simp [lts]
      rw [z] at this
      exact this
    · intro i self hi ih h1
      have l1 := hl i h1 hi
      have e3 := to_isDigit_e (hb i (by omega)) μ
      rw [LD l1] at e3
      have h9 : 97 ≤ B i ∧ B i ≤ 122 := by unfold isLb at l1; simpa using l1
      have hX : X i = nI (B i) := by
        rcases (hb i (by omega)).2.2 with h | h
        · exact h.2
        · omega
      rw [hX] at e3
      have ih2 := ih (by omega)
      rw [lts_s h1, vlW_s] at ih2
      unfold to_valueOf_r11_B5
      simp (disch := omega) only [nI_leF, inB_nI, cl_nI, hx i (show i < m by omega), ↓ob_eq e3, show b01I false = nI 0 from rfl, hX, pk_sub, nI_add, ↓vb_e, oL_nI, show (27 : Int64) = oL 27 from rfl, oL_mul, oL_add, ↓reduceIte]
      rw [show (((vlW (lts B a i) : Nat) : Int) * 27 + ((B i - 97 + 1 : Nat) : Int)) = ((27 * vlW (lts B a i) + (B i - 96) : Nat) : Int) by omega]
      exact ih2
    · intro self h1
      unfold to_valueOf_r11_B5
      rw [if_pos (Int32.le_refl _)]
  | false =>
    rw [if_neg (by decide)]
    cases c2 : isDb (B a) with
    | true =>
      rw [if_pos rfl]
      have hl : ∀ j, a ≤ j → j < tEnd B m a → isDb (B j) = true := fun j h1 h2 => by
        by_cases z : j = a
        · rw [z]; exact c2
        · unfold tEnd at h2
          rw [if_neg (by rw [c1]; decide), if_pos c2] at h2
          exact (runE_p isDb B (m - (a + 1)) (a + 1)).2.2.1 j (by omega) h2
      refine ⟨_, ?_, fun _ => rfl⟩
      have := fixN_up (bot := fun _ _ _ => none) (b := to_valueOf_r11_B5 (nI (tEnd B m a))) (fun i (self : Int64 → Int32 → Mem → Option (Int64 × Mem)) => a ≤ i → self (oL ((vlD (dts B a i) : Nat) : Int)) (nI i) μ = some (oL ((vlD (dts B a (tEnd B m a)) : Nat) : Int), μ)) (tEnd B m a) ?_ ?_ 60000 a (by omega) (by omega) (Nat.le_refl _)
      · have z : dts B a a = [] := by simp [dts]
        rw [z] at this
        exact this
      · intro i self hi ih h1
        have l1 := hl i h1 hi
        have e3 := to_isDigit_e (hb i (by omega)) μ
        rw [l1] at e3
        have h9 : 48 ≤ B i ∧ B i ≤ 57 := by unfold isDb at l1; simpa using l1
        have hX : X i = nI (B i) := by
          rcases (hb i (by omega)).2.2 with h | h
          · exact h.2
          · omega
        rw [hX] at e3
        have ih2 := ih (by omega)
        rw [dts_s h1, vlD_s] at ih2
        unfold to_valueOf_r11_B5
        simp (disch := omega) only [nI_leF, inB_nI, cl_nI, hx i (show i < m by omega), ↓ob_eq e3, show b01I true = nI 1 from rfl, nI_10, hX, pk_sub, nI_add, ↓vb_e, oL_nI, show (10 : Int64) = oL 10 from rfl, oL_mul, oL_add, ↓reduceIte]
        rw [show (((vlD (dts B a i) : Nat) : Int) * 10 + ((B i - 48 : Nat) : Int)) = ((10 * vlD (dts B a i) + (B i - 48) : Nat) : Int) by omega]
        exact ih2
      · intro self h1
        unfold to_valueOf_r11_B5
        rw [if_pos (Int32.le_refl _)]
    | false =>
      have e3 := to_isDigit_e (hb a ha) μ
      rw [c2] at e3
      have te : tEnd B m a = a + 1 := by unfold tEnd; rw [c1, c2]; rfl
      rw [te]
      unfold to_valueOf_r11_L5
      rw [show 60000 = 59998 + 1 + 1 from rfl, fixN_s, fixN_s]
      unfold to_valueOf_r11_B5
      simp (disch := omega) only [nI_leF, nI_leT, inB_nI, cl_nI, hx a ha, ↓ob_eq e3, show b01I false = nI 0 from rfl, nI_add, ↓vb_e, ↓reduceIte]
      exact ⟨_, rfl, fun z => by rcases z with z | z <;> cases z⟩
/-! a text's tokens: kind, place, value -/
def tks (B : Nat → Nat) (m : Nat) : Nat → Nat → List (Nat × Nat × Nat)
  | 0, _ => []
  | f + 1, a => if m ≤ a then [] else if isWb (B a) = true then tks B m f (a + 1) else (tkK B a (tEnd B m a), a, tkV B a (tEnd B m a)) :: tks B m f (tEnd B m a)
theorem tks_s (B : Nat → Nat) (m f a : Nat) : tks B m (f + 1) a = if m ≤ a then [] else if isWb (B a) = true then tks B m f (a + 1) else (tkK B a (tEnd B m a), a, tkV B a (tEnd B m a)) :: tks B m f (tEnd B m a) := rfl
abbrev Tks : Type := List (Nat × Nat × Nat) × Nat
def tkd (Z : Tks) (i : Nat) : Nat := (Z.1.getD i (43, Z.2, 0)).1
def tpl (Z : Tks) (i : Nat) : Nat := (Z.1.getD i (43, Z.2, 0)).2.1
def tvl (Z : Tks) (i : Nat) : Nat := (Z.1.getD i (43, Z.2, 0)).2.2
def TokC (μ : Mem) (Z : Tks) : Prop := ∀ i, i ≤ Z.1.length → i ≤ 400 → mI μ 14 0 i = nI (tkd Z i) ∧ mI μ 15 0 i = nI (tpl Z i) ∧ (tkd Z i = 40 ∨ tkd Z i = 41 → mL μ 16 0 i = oL ((tvl Z i : Nat) : Int))
theorem sgF_k (b : Nat) : ∀ f i, i + f ≤ 9 → 30 ≤ sgF b f i ∧ sgF b f i ≤ 42 ∧ sgF b f i ≠ 40 ∧ sgF b f i ≠ 41
  | 0, i, h => by unfold sgF; omega
  | f + 1, i, h => by
    unfold sgF
    split
    · omega
    · exact sgF_k b f (i + 1) (by omega)
theorem tkK_v {B : Nat → Nat} {a e : Nat} (h : tkK B a e = 40 ∨ tkK B a e = 41) : isLb (B a) = true ∨ isDb (B a) = true := by
  unfold tkK at h
  cases c1 : isLb (B a) with
  | true => exact Or.inl rfl
  | false =>
    cases c2 : isDb (B a) with
    | true => exact Or.inr rfl
    | false =>
      rw [c1, c2, if_neg (by decide), if_neg (by decide)] at h
      have := sgF_k (B a) 9 0 (by omega)
      unfold sgK at h
      omega
theorem tkd_some {Z : Tks} {i : Nat} {q : Nat × Nat × Nat} (h : Z.1[i]? = some q) : tkd Z i = q.1 ∧ tpl Z i = q.2.1 ∧ tvl Z i = q.2.2 := by
  unfold tkd tpl tvl
  rw [List.getD_eq_getElem?_getD, h]
  exact ⟨rfl, rfl, rfl⟩
theorem tkd_end {Z : Tks} {i : Nat} (h : Z.1.length ≤ i) : tkd Z i = 43 ∧ tpl Z i = Z.2 ∧ tvl Z i = 0 := by
  unfold tkd tpl tvl
  rw [List.getD_eq_getElem?_getD, List.getElem?_eq_none h]
  exact ⟨rfl, rfl, rfl⟩
def StD (μ : Mem) (D : List (Nat × Nat × Nat)) : Prop := ∀ i q, D[i]? = some q → mI μ 14 0 i = nI q.1 ∧ mI μ 15 0 i = nI q.2.1 ∧ (q.1 = 40 ∨ q.1 = 41 → mL μ 16 0 i = oL ((q.2.2 : Nat) : Int))
theorem getElem_snoc {α : Type} {D : List α} {q x : α} {i : Nat} (h : (D ++ [q])[i]? = some x) : (i < D.length ∧ D[i]? = some x) ∨ (i = D.length ∧ x = q) := by
  rcases Nat.lt_trichotomy i D.length with c | c | c
  · rw [List.getElem?_append_left c] at h
    exact Or.inl ⟨c, h⟩
  · rw [List.getElem?_append_right (by omega), c, Nat.sub_self] at h
    exact Or.inr ⟨c, by simpa using h.symm⟩
  · rw [List.getElem?_eq_none (by simp; omega)] at h
    cases h
theorem scan_x {μ : Mem} {B : Nat → Nat} {m : Nat} {D T : List (Nat × Nat × Nat)} (hm : m ≤ 2000) (hD : tks B m 2001 0 = D ++ T) (hT : T = [] ∨ D.length = 401) (h1 : D.length ≤ 401) (h3 : mI μ 13 0 3 = nI D.length) (hs : StD μ D) : ∃ μ', (if inB (mI μ 13 0 3) 402 = true then
mb (stI μ 14 0 (cl (mI μ 13 0 3)) (nI 43)) fun μ58 =>
if inB (mI μ58 13 0 3) 402 = true then
if inB (mI (stI μ58 15 0 (cl (mI μ58 13 0 3)) (nI m)) 13 0 3) 402 = true then
mb (stL (stI μ58 15 0 (cl (mI μ58 13 0 3)) (nI m)) 16 0 (cl (mI (stI μ58 15 0 (cl (mI μ58 13 0 3)) (nI m)) 13 0 3)) (0 : Int64)) fun μ64 =>
some ((), μ64) else none else none else none) = some ((), μ') ∧ TokC μ' (tks B m 2001 0, m) := by
  have f1 : mI (stI μ 14 0 D.length (nI 43)) 13 0 3 = nI D.length := h3
  have f2 : mI (stI (stI μ 14 0 D.length (nI 43)) 15 0 D.length (nI m)) 13 0 3 = nI D.length := h3
  refine ⟨stL (stI (stI μ 14 0 D.length (nI 43)) 15 0 D.length (nI m)) 16 0 D.length 0, ?_, fun i hi h4 => ?_⟩
  · simp (disch := omega) only [h3, inB_nI, cl_nI, ↓mb_e, f1, f2, ↓reduceIte]
  · have hi2 : i ≤ (tks B m 2001 0).length := hi
    have len : (tks B m 2001 0).length = D.length + T.length := by rw [hD, List.length_append]
    by_cases c : i < D.length
    · have g : (tks B m 2001 0, m).1[i]? = some (D[i]) := by
        show (tks B m 2001 0)[i]? = _
        rw [hD, List.getElem?_append_left c, List.getElem?_eq_getElem c]
      obtain ⟨a1, a2, a3⟩ := tkd_some (Z := (tks B m 2001 0, m)) g
      obtain ⟨b1, b2, b3⟩ := hs i D[i] (List.getElem?_eq_getElem c)
      rw [a1, a2, a3]
      refine ⟨?_, ?_, fun z => ?_⟩
      · rw [mI_stL, mI_stI, if_neg (by omega), mI_stI, if_neg (by omega)]; exact b1
      · rw [mI_stL, mI_stI, if_neg (by omega), mI_stI, if_neg (by omega)]; exact b2
      · rw [mL_stL, if_neg (by omega)]; exact b3 z
    · have hl : T = [] := by
        rcases hT with h | h
        · exact h
        · omega
      rw [hl, List.length_nil, Nat.add_zero] at len
      have ie : i = D.length := by omega
      subst ie
      obtain ⟨a1, a2, a3⟩ := tkd_end (Z := (tks B m 2001 0, m)) (i := D.length) (show (tks B m 2001 0).length ≤ D.length by omega)
      rw [a1, a2]
      refine ⟨?_, ?_, fun z => by omega⟩
      · rw [mI_stL, mI_stI, if_neg (by omega), mI_stI, if_pos ⟨rfl, rfl, rfl⟩]
      · rw [mI_stL, mI_stI, if_pos ⟨rfl, rfl, rfl⟩]
theorem to_scan_e {μ : Mem} {X : Nat → Int32} {B : Nat → Nat} {m : Nat} (hm : m ≤ 2000) (hb : ByT X B m) (hx : ∀ k, k < m → mI μ 11 0 k = X k) : ∃ μ', to_scan_r11 (nI m) μ = some ((), μ') ∧ TokC μ' (tks B m 2001 0, m) := by
  unfold to_scan_r11 to_scan_r11_L7
  refine fixN_m (fun f (self : Int32 → Mem → Option (Unit × Mem)) => ∀ (a : Nat) (μ : Mem) (D : List (Nat × Nat × Nat)), a ≤ m → f = m - a → (∃ g, m - a < g ∧ tks B m 2001 0 = D ++ tks B m g a) → D.length ≤ 401 → mI μ 13 0 3 = nI D.length → StD μ D → (∀ k, k < m → mI μ 11 0 k = X k) → ∃ μ', self (nI a) μ = some ((), μ') ∧ TokC μ' (tks B m 2001 0, m)) ?_ 60000 m (by omega) 0 _ [] (Nat.zero_le _) rfl ⟨2001, by omega, rfl⟩ (by simp) (by rw [mI_stI, if_pos ⟨rfl, rfl, rfl⟩]; rfl) (fun i q h => by simp at h) hx
  intro f self ih a μ D ha hf hL h1 h3 hs hx
  obtain ⟨g, hg, hL⟩ := hL
  unfold to_scan_r11_B7
  obtain ⟨g, rfl⟩ : ∃ g', g = g' + 1 := ⟨g - 1, by omega⟩
  by_cases c1 : m ≤ a
  · rw [if_pos (by rw [nI_leT c1 (by omega)]; trivial)]
    exact scan_x hm hL (Or.inl (by rw [tks_s, if_pos c1])) h1 h3 hs
  · rw [if_neg (by rw [nI_leF (by omega) (by omega)]; exact id), h3]
    by_cases c2 : D.length = 401
    · rw [if_pos (by rw [c2]; decide)]
      exact scan_x hm hL (Or.inr c2) h1 h3 hs
    · rw [if_neg (by rw [nI_ltF (by omega) (by omega)]; exact id), if_pos (inB_nI (by omega) (by omega)), cl_nI (by omega), hx a (by omega), ob_eq (to_isBlank_e (hb a (by omega)) μ)]
      rw [tks_s B m g a, if_neg c1] at hL
      cases c3 : isWb (B a) with
      | true =>
        rw [c3, if_pos rfl] at hL
        rw [if_neg (by decide), nI_add]
        exact ih (m - (a + 1)) (by omega) (a + 1) μ D (by omega) rfl ⟨g, by omega, hL⟩ h1 h3 hs hx
      | false =>
        rw [c3, if_neg (by decide)] at hL
        rw [if_pos (show b01I false = nI 0 from rfl)]
        obtain ⟨q1, q2⟩ := tEnd_p (B := B) (show a < m by omega)
        have e1 := to_end_e hm hb hx (show a < m by omega)
        have e2 := kindOf_e hm hb hx (show a < m by omega)
        generalize hn : D.length = n at *
        generalize he : tEnd B m a = e at *
        have f1 : mI (stI μ 14 0 n (nI (tkK B a e))) 13 0 3 = nI n := h3
        obtain ⟨v, e3, hv⟩ := valueOf_e (μ := stI (stI μ 14 0 n (nI (tkK B a e))) 15 0 n (nI a)) hm hb hx (show a < m by omega)
        rw [he] at e3 hv
        have f2 : mI (stI (stI μ 14 0 n (nI (tkK B a e))) 15 0 n (nI a)) 13 0 3 = nI n := h3
        have f3 : mI (stL (stI (stI μ 14 0 n (nI (tkK B a e))) 15 0 n (nI a)) 16 0 n v) 13 0 3 = nI n := h3
        have e4 : ∀ ν, j_max (nI a) (nI (e - 1)) ν = some (nI (e - 1), ν) := fun ν => by
          unfold j_max
          by_cases z : a < e - 1
          · rw [if_pos (nI_lt z (by omega))]
          · rw [if_neg (by rw [nI_ltF (by omega) (by omega)]; exact id), show a = e - 1 by omega]
        simp (disch := omega) only [↓ob_eq e1, ↓ob_eq e2, h3, inB_nI, cl_nI, ↓mb_e, f1, f2, f3, ↓ob_eq e3, nI_sub1, ↓ob_eq (e4 _), nI_add, ↓reduceIte]
        rw [show e - 1 + 1 = e by omega]
        refine ih (m - e) (by omega) e _ (D ++ [(tkK B a e, a, tkV B a e)]) q2 rfl ⟨g, by omega, by rw [List.append_assoc]; exact hL⟩ (by simp; omega) (by rw [mI_stI, if_pos ⟨rfl, rfl, rfl⟩]; simp [hn]) (fun i q h => ?_) hx
        rcases getElem_snoc h with ⟨z1, z2⟩ | ⟨z1, z2⟩
        · obtain ⟨b1, b2, b3⟩ := hs i q z2
          refine ⟨?_, ?_, fun z => ?_⟩
          · rw [mI_stI, if_neg (by omega), mI_stL, mI_stI, if_neg (by omega), mI_stI, if_neg (by omega)]; exact b1
          · rw [mI_stI, if_neg (by omega), mI_stL, mI_stI, if_neg (by omega), mI_stI, if_neg (by omega)]; exact b2
          · rw [mL_stI, mL_stL, if_neg (by omega)]; exact b3 z
        · rw [z1, hn, z2]
          refine ⟨?_, ?_, fun z => ?_⟩
          · rw [mI_stI, if_neg (by omega), mI_stL, mI_stI, if_neg (by omega), mI_stI, if_pos ⟨rfl, rfl, rfl⟩]
          · rw [mI_stI, if_neg (by omega), mI_stL, mI_stI, if_pos ⟨rfl, rfl, rfl⟩]
          · rw [mL_stI, mL_stL, if_pos ⟨rfl, rfl, rfl⟩]; exact hv (tkK_v z)

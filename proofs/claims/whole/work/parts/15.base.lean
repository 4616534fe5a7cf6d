/-! words for the meaning: counting, sums, bits -/
theorem fixN_s {F : Type} (bot : F) (b : F → F) (n : Nat) : fixN bot b (n + 1) = b (fixN bot b n) := rfl
theorem fixN_up {F : Type} {bot : F} {b : F → F} (P : Nat → F → Prop) (n : Nat) (hs : ∀ i self, i < n → P (i + 1) self → P i (b self)) (he : ∀ self, P n (b self)) : ∀ fuel i, i ≤ n → n - i < fuel → P i (fixN bot b fuel) := by
  intro fuel
  induction fuel with
  | zero => intro i _ h; omega
  | succ fuel ih =>
    intro i h1 h2
    rw [fixN_s]
    by_cases e : i = n
    · subst e; exact he _
    · exact hs i _ (by omega) (ih (i + 1) (by omega) (by omega))
/-- by a measure that falls -/
theorem fixN_m {F : Type} {bot : F} {b : F → F} (P : Nat → F → Prop) (hs : ∀ m self, (∀ j, j < m → P j self) → P m (b self)) : ∀ fuel m, m < fuel → P m (fixN bot b fuel) := by
  intro fuel
  induction fuel with
  | zero => intro i h; omega
  | succ fuel ih =>
    intro m h
    rw [fixN_s]
    exact hs m _ (fun j hj => ih j (by omega))
theorem ob_some {α β : Type} (x : α) (μ : Mem) (f : α → Mem → Option β) : ob (some (x, μ)) f = f x μ := rfl
theorem ob_eq {α β : Type} {o : Option (α × Mem)} {x : α} {μ : Mem} (h : o = some (x, μ)) (f : α → Mem → Option β) : ob o f = f x μ := by rw [h]; rfl
theorem mb_e {β : Type} (μ : Mem) (f : Mem → Option β) : mb μ f = f μ := rfl
theorem vb_e {α β : Type} (x : α) (f : α → Option β) : vb x f = f x := rfl
theorem cl_nI {n : Nat} (h : n < 2147483648) : cl (nI n) = n := nI_clamp h
theorem inB_nI {i n : Nat} (h : i < n) (hn : n < 2147483648) : inB (nI i) n = true := by
  unfold inB
  rw [Bool.and_eq_true, decide_eq_true_eq, decide_eq_true_eq, cl_nI (by omega)]
  exact ⟨nI_pos' (by omega), h⟩
theorem inB_nIF {i n : Nat} (h : n ≤ i) (hn : i < 2147483648) : inB (nI i) n = false := by
  unfold inB
  rw [cl_nI hn, decide_eq_false (show ¬ i < n by omega), Bool.and_false]
theorem nI_leT {a b : Nat} (h : a ≤ b) (hb : b < 2147483648) : (nI a ≤ nI b) = True := eq_true (nI_le h hb)
theorem nI_leF {a b : Nat} (h : b < a) (ha : a < 2147483648) : (nI a ≤ nI b) = False := eq_false (nI_ge h ha)
theorem nI_ltT {a b : Nat} (h : a < b) (hb : b < 2147483648) : (nI a < nI b) = True := eq_true (nI_lt h hb)
theorem nI_ltF {a b : Nat} (h : b ≤ a) (ha : a < 2147483648) : (nI a < nI b) = False := eq_false (nI_nlt h ha)
theorem nI_eqF {a b : Nat} (h : a ≠ b) (ha : a < 2147483648) (hb : b < 2147483648) : (nI a = nI b) = False := eq_false (fun z => h ((nI_eq ha hb).mp z))
theorem nI_eqN {a b : Nat} (ha : a < 2147483648) (hb : b < 2147483648) : (nI a = nI b) = (a = b) := propext (nI_eq ha hb)
theorem nI_leN {a b : Nat} (ha : a < 2147483648) (hb : b < 2147483648) : (nI a ≤ nI b) = (a ≤ b) := propext (nI_leI ha hb)
theorem nI_ltN {a b : Nat} (ha : a < 2147483648) (hb : b < 2147483648) : (nI a < nI b) = (a < b) := propext (nI_ltI ha hb)
theorem nI_sub1 {a : Nat} (h : 1 ≤ a) : nI a - nI 1 = nI (a - 1) := pk_sub h
theorem nI_m1 {a : Nat} (h : 1 ≤ a) : nI a + (-1 : Int32) = nI (a - 1) := by
  obtain ⟨b, rfl⟩ : ∃ b, a = b + 1 := ⟨a - 1, by omega⟩
  rw [pk_m1]; rfl
theorem nI_m2 {a : Nat} (h : 2 ≤ a) : nI a + (-2 : Int32) = nI (a - 2) := by
  obtain ⟨b, rfl⟩ : ∃ b, a = b + 2 := ⟨a - 2, by omega⟩
  rw [← nI_add, Int32.add_assoc, show nI 2 + (-2 : Int32) = 0 by rfl, Int32.add_zero]; rfl
theorem nI_div2 {a d : Nat} (ha : a < 2147483648) (h0 : 0 < d) (hd : d < 2147483648) : nI a / nI d = nI (a / d) := pk_div ha h0 hd
theorem nI_rem2 {a d : Nat} (ha : a < 2147483648) (h0 : 0 < d) (hd : d < 2147483648) : irm (nI a) (nI d) = nI (a % d) := pk_rem ha h0 hd
theorem nI_01 : (nI 0 = nI 1) = False := eq_false (by decide)
theorem nI_10 : (nI 1 = nI 0) = False := eq_false (by decide)
theorem n2_le {x : Int32} : ((-2 : Int32) = nI 0) = False := eq_false (by decide)
def sumI : Nat → (Nat → Int32) → Int32
  | 0, _ => nI 0
  | n + 1, f => sumI n f + f n
def sumL : Nat → (Nat → Int64) → Int64
  | 0, _ => 0
  | n + 1, f => sumL n f + f n
/-- the bits of those below n of which p tells -/
def bitI : Nat → (Nat → Bool) → Int32
  | 0, _ => nI 0
  | n + 1, p => if p n = true then bitI n p ||| (nI 1 <<< (nI n &&& 31)) else bitI n p
theorem sumI_s (n : Nat) (f : Nat → Int32) : sumI (n + 1) f = sumI n f + f n := rfl
theorem sumL_s (n : Nat) (f : Nat → Int64) : sumL (n + 1) f = sumL n f + f n := rfl
theorem bitI_s (n : Nat) (p : Nat → Bool) : bitI (n + 1) p = if p n = true then bitI n p ||| (nI 1 <<< (nI n &&& 31)) else bitI n p := rfl
theorem sumI_c {n : Nat} {f g : Nat → Int32} (h : ∀ i, i < n → f i = g i) : sumI n f = sumI n g := by
  induction n with
  | zero => rfl
  | succ n ih => rw [sumI_s, sumI_s, ih (fun i hi => h i (by omega)), h n (by omega)]
theorem sumL_c {n : Nat} {f g : Nat → Int64} (h : ∀ i, i < n → f i = g i) : sumL n f = sumL n g := by
  induction n with
  | zero => rfl
  | succ n ih => rw [sumL_s, sumL_s, ih (fun i hi => h i (by omega)), h n (by omega)]
theorem bitI_c {n : Nat} {f g : Nat → Bool} (h : ∀ i, i < n → f i = g i) : bitI n f = bitI n g := by
  induction n with
  | zero => rfl
  | succ n ih => rw [bitI_s, bitI_s, ih (fun i hi => h i (by omega)), h n (by omega)]
theorem nI_z : nI 0 = 0 := rfl
theorem add_z (x : Int32) : x + nI 0 = x := Int32.add_zero x
/-- which regions a list names -/
def offR (R : List Nat) (T : List At) : Bool := T.all (fun a => !(R.contains a.1))
theorem offR_f {R : List Nat} {T : List At} (h : offR R T = true) {r : Nat} (hr : R.contains r = true) (i k : Nat) : inT T r i k = false := by
  cases e : inT T r i k with
  | false => rfl
  | true =>
    exfalso
    obtain ⟨a, ha, hb⟩ := List.any_eq_true.mp e
    have h1 := List.all_eq_true.mp h a ha
    unfold inA at hb
    rw [Bool.and_eq_true, beq_iff_eq] at hb
    rw [hb.1, hr] at h1
    cases h1
/-- expressions as rows of (kind, number): 0 an int, 1 a variable, 2 + 3 - 4 * 5 / -/
abbrev Rp : Type := List (Nat × Nat)
def opV (k : Nat) (a b : Int32) : Int32 := if k = 2 then a + b else if k = 3 then a - b else if k = 4 then a * b else a / b
def rpn (v : Nat → Int32) : Rp → List Int32 → Option (List Int32)
  | [], st => some st
  | (0, n) :: t, st => rpn v t (nI n :: st)
  | (1, n) :: t, st => rpn v t (v n :: st)
  | (k + 2, _) :: t, b :: a :: st => if k = 3 ∧ b = nI 0 then none else rpn v t (opV (k + 2) a b :: st)
  | (_ + 2, _) :: _, _ => none
/-- how many stand on the stack behind it; none: it can't be -/
def rpd : Rp → Nat → Option Nat
  | [], d => some d
  | (0, n) :: t, d => if n < 10000 then rpd t (d + 1) else none
  | (1, n) :: t, d => if n < 9 then rpd t (d + 1) else none
  | (k + 2, _) :: t, d => if k < 4 ∧ 2 ≤ d then rpd t (d - 1) else none
def evR (v : Nat → Int32) (l : Rp) : Option Int32 := match rpn v l [] with
  | some (a :: _) => some a
  | _ => none
abbrev Lw : Type := List (Rp × Rp × Rp) × Rp
def lawB (v : Nat → Int32) (e : Rp) : List (Rp × Rp × Rp) → Int32
  | [] => (evR v e).getD (nI 0)
  | (a, b, c) :: t => match evR v a, evR v b with
    | some x, some y => if x < y then (evR v c).getD (nI 0) else lawB v e t
    | _, _ => nI 0
def lawV (L : Lw) (v : Nat → Int32) : Int32 := lawB v L.2 L.1
def rpOK (l : Rp) : Prop := rpd l 0 = some 1
def lwOK (L : Lw) : Prop := (∀ q ∈ L.1, rpOK q.1 ∧ rpOK q.2.1 ∧ rpOK q.2.2) ∧ rpOK L.2
theorem rpn_d (v : Nat → Int32) : ∀ (l : Rp) (d e : Nat) (st : List Int32), rpd l d = some e → st.length = d → rpn v l st = none ∨ ∃ st', rpn v l st = some st' ∧ st'.length = e
  | [], d, e, st, h, hl => by
    simp only [rpd, Option.some.injEq] at h
    exact Or.inr ⟨st, rfl, by omega⟩
  | (0, n) :: t, d, e, st, h, hl => by
    simp only [rpd] at h
    split at h
    · exact rpn_d v t _ e _ h (by simp [hl])
    · cases h
  | (1, n) :: t, d, e, st, h, hl => by
    simp only [rpd] at h
    split at h
    · exact rpn_d v t _ e _ h (by simp [hl])
    · cases h
  | (k + 2, n) :: t, d, e, st, h, hl => by
    simp only [rpd] at h
    split at h
    · rename_i hk
      match st, hl with
      | b :: a :: st, hl =>
        simp only [rpn]
        split
        · exact Or.inl rfl
        · exact rpn_d v t _ e _ h (by simp at hl ⊢; omega)
      | [b], hl => simp at hl; omega
      | [], hl => simp at hl; omega
    · cases h
theorem rpn_v {v v' : Nat → Int32} (hv : ∀ j, j < 9 → v j = v' j) : ∀ (l : Rp) (d e : Nat) (st : List Int32), rpd l d = some e → rpn v l st = rpn v' l st
  | [], d, e, st, h => rfl
  | (0, n) :: t, d, e, st, h => by
    simp only [rpd] at h
    split at h
    · exact rpn_v hv t _ e _ h
    · cases h
  | (1, n) :: t, d, e, st, h => by
    simp only [rpd] at h
    split at h
    · rename_i hn
      simp only [rpn, hv n hn]
      exact rpn_v hv t _ e _ h
    · cases h
  | (k + 2, n) :: t, d, e, st, h => by
    simp only [rpd] at h
    split at h
    · match st with
      | b :: a :: st => simp only [rpn, rpn_v hv t _ e _ h]
      | [b] => rfl
      | [] => rfl
    · cases h
theorem evR_v {v v' : Nat → Int32} (hv : ∀ j, j < 9 → v j = v' j) {l : Rp} (h : rpOK l) : evR v l = evR v' l := by
  unfold evR
  rw [rpn_v hv l 0 1 [] h]
theorem lawB_v {v v' : Nat → Int32} (hv : ∀ j, j < 9 → v j = v' j) {e : Rp} (he : rpOK e) : ∀ (L : List (Rp × Rp × Rp)), (∀ q ∈ L, rpOK q.1 ∧ rpOK q.2.1 ∧ rpOK q.2.2) → lawB v e L = lawB v' e L
  | [], h => by simp only [lawB, evR_v hv he]
  | (a, b, c) :: t, h => by
    obtain ⟨h1, h2, h3⟩ := h (a, b, c) List.mem_cons_self
    simp only [lawB, evR_v hv h1, evR_v hv h2, evR_v hv h3, lawB_v hv he t (fun q hq => h q (List.mem_cons_of_mem _ hq))]
theorem lawV_v {v v' : Nat → Int32} (hv : ∀ j, j < 9 → v j = v' j) {L : Lw} (h : lwOK L) : lawV L v = lawV L v' := lawB_v hv h.2 L.1 h.1
/-- what a text tells: how many logs, fields, notches, the seed, areas, a notch's log, where it leads, the laws -/
def Pl : Type := Nat × Nat × Nat × Int32 × (Nat → Int32) × (Nat → Nat) × (Nat → Nat) × (Nat → Lw)
def pLg (P : Pl) : Nat := P.1
def pFd (P : Pl) : Nat := P.2.1
def pNo (P : Pl) : Nat := P.2.2.1
def pSeed (P : Pl) : Int32 := P.2.2.2.1
def pArea (P : Pl) : Nat → Int32 := P.2.2.2.2.1
def pLog (P : Pl) : Nat → Nat := P.2.2.2.2.2.1
def pTo (P : Pl) : Nat → Nat := P.2.2.2.2.2.2.1
def pLaw (P : Pl) : Nat → Lw := P.2.2.2.2.2.2.2
def PlOK (P : Pl) : Prop := pLg P ≤ 4 ∧ pFd P ≤ 6 ∧ pNo P ≤ 12 ∧ (∀ n, n < pNo P → pLog P n < pLg P) ∧ (∀ n, n < pNo P → pTo P n < pLg P ∨ (10 ≤ pTo P n ∧ pTo P n < 10 + pFd P) ∨ pTo P n = 20) ∧ (∀ k, lwOK (pLaw P k))
/-- a state is a row of 33: drains' logs, quarters, grown, widths, spring, day, paid -/
def sW (S : Nat → Int32) (n : Nat) : Nat := cl (S (18 + n))
def sQ (S : Nat → Int32) (f : Nat) : Nat := cl (S (6 + f))
def sD (S : Nat → Int32) (f : Nat) : Nat := cl (S f)
def sG (S : Nat → Int32) (f : Nat) : Nat := cl (S (12 + f))
def sS (S : Nat → Int32) : Nat := cl (S 30)
def StOK (P : Pl) (S : Nat → Int32) : Prop := (∀ n, n < pNo P → S (18 + n) = nI (sW S n) ∧ sW S n ≤ 3) ∧ (∀ f, f < pFd P → S (6 + f) = nI (sQ S f) ∧ sQ S f ≤ 3 ∧ ((S f = (-2 : Int32) ∧ sQ S f = 0) ∨ (S f = nI (sD S f) ∧ sD S f < pLg P)) ∧ S (12 + f) = nI (sG S f) ∧ sG S f ≤ 9999) ∧ S 30 = nI (sS S) ∧ 1 ≤ sS S ∧ sS S ≤ 9
def wTo (P : Pl) (S : Nat → Int32) (f : Nat) : Int32 := sumI (pNo P) (fun n => if pTo P n = 10 + f then S (18 + n) else nI 0)
def wBy (P : Pl) (S : Nat → Int32) (l : Nat) : Int32 := sumI (pNo P) (fun n => if pLog P n = l then S (18 + n) else nI 0)
/-- the class' plan at row p -/
def PlC (μ : Mem) (p : Nat) (P : Pl) : Prop := mI μ 18 p 0 = nI (pLg P) ∧ mI μ 18 p 1 = nI (pFd P) ∧ mI μ 18 p 2 = nI (pNo P) ∧ mI μ 18 p 3 = pSeed P ∧ (∀ f, f < pFd P → mI μ 21 p f = pArea P f) ∧ (∀ n, n < pNo P → mI μ 22 p n = nI (pLog P n)) ∧ (∀ n, n < pNo P → mI μ 23 p n = nI (pTo P n))
theorem PlC.lg {μ : Mem} {p : Nat} {P : Pl} (h : PlC μ p P) : mI μ 18 p 0 = nI (pLg P) := h.1
theorem PlC.fd {μ : Mem} {p : Nat} {P : Pl} (h : PlC μ p P) : mI μ 18 p 1 = nI (pFd P) := h.2.1
theorem PlC.no {μ : Mem} {p : Nat} {P : Pl} (h : PlC μ p P) : mI μ 18 p 2 = nI (pNo P) := h.2.2.1
theorem PlC.sd {μ : Mem} {p : Nat} {P : Pl} (h : PlC μ p P) : mI μ 18 p 3 = pSeed P := h.2.2.2.1
theorem PlC.ar {μ : Mem} {p : Nat} {P : Pl} (h : PlC μ p P) {f : Nat} (hf : f < pFd P) : mI μ 21 p f = pArea P f := h.2.2.2.2.1 f hf
theorem PlC.lo {μ : Mem} {p : Nat} {P : Pl} (h : PlC μ p P) {n : Nat} (hn : n < pNo P) : mI μ 22 p n = nI (pLog P n) := h.2.2.2.2.2.1 n hn
theorem PlC.to {μ : Mem} {p : Nat} {P : Pl} (h : PlC μ p P) {n : Nat} (hn : n < pNo P) : mI μ 23 p n = nI (pTo P n) := h.2.2.2.2.2.2 n hn
/-- the class' state at row s -/
def StC (μ : Mem) (s : Nat) (P : Pl) (S : Nat → Int32) : Prop := (∀ n, n < pNo P → mI μ 27 s n = S (18 + n)) ∧ (∀ f, f < pFd P → mI μ 28 s f = S f ∧ mI μ 29 s f = S (6 + f) ∧ mI μ 30 s f = S (12 + f)) ∧ mI μ 26 s 4 = S 30 ∧ mI μ 26 s 5 = S 31 ∧ mI μ 26 s 6 = S 32
theorem StC.wi {μ : Mem} {s : Nat} {P : Pl} {S : Nat → Int32} (h : StC μ s P S) {n : Nat} (hn : n < pNo P) : mI μ 27 s n = S (18 + n) := h.1 n hn
theorem StC.dr {μ : Mem} {s : Nat} {P : Pl} {S : Nat → Int32} (h : StC μ s P S) {f : Nat} (hf : f < pFd P) : mI μ 28 s f = S f := (h.2.1 f hf).1
theorem StC.qu {μ : Mem} {s : Nat} {P : Pl} {S : Nat → Int32} (h : StC μ s P S) {f : Nat} (hf : f < pFd P) : mI μ 29 s f = S (6 + f) := (h.2.1 f hf).2.1
theorem StC.gr {μ : Mem} {s : Nat} {P : Pl} {S : Nat → Int32} (h : StC μ s P S) {f : Nat} (hf : f < pFd P) : mI μ 30 s f = S (12 + f) := (h.2.1 f hf).2.2
theorem StC.sp {μ : Mem} {s : Nat} {P : Pl} {S : Nat → Int32} (h : StC μ s P S) : mI μ 26 s 4 = S 30 := h.2.2.1
theorem StC.da {μ : Mem} {s : Nat} {P : Pl} {S : Nat → Int32} (h : StC μ s P S) : mI μ 26 s 5 = S 31 := h.2.2.2.1
theorem StC.pd {μ : Mem} {s : Nat} {P : Pl} {S : Nat → Int32} (h : StC μ s P S) : mI μ 26 s 6 = S 32 := h.2.2.2.2
theorem PlC.fr {μ μ' : Mem} {p : Nat} {P : Pl} {T : List At} (h : PlC μ p P) (g : Fr T μ μ') (h18 : ∀ k, k < 4 → inT T 18 p k = false) (h21 : ∀ k, inT T 21 p k = false) (h22 : ∀ k, inT T 22 p k = false) (h23 : ∀ k, inT T 23 p k = false) : PlC μ' p P := by
  refine ⟨?_, ?_, ?_, ?_, fun f hf => ?_, fun n hn => ?_, fun n hn => ?_⟩
  · rw [g.I (h18 _ (by decide))]; exact h.lg
  · rw [g.I (h18 _ (by decide))]; exact h.fd
  · rw [g.I (h18 _ (by decide))]; exact h.no
  · rw [g.I (h18 _ (by decide))]; exact h.sd
  · rw [g.I (h21 _)]; exact h.ar hf
  · rw [g.I (h22 _)]; exact h.lo hn
  · rw [g.I (h23 _)]; exact h.to hn
theorem StC.fr {μ μ' : Mem} {s : Nat} {P : Pl} {S : Nat → Int32} {T : List At} (h : StC μ s P S) (g : Fr T μ μ') (h26 : ∀ k, 4 ≤ k → k < 7 → inT T 26 s k = false) (h27 : ∀ k, inT T 27 s k = false) (h28 : ∀ k, inT T 28 s k = false) (h29 : ∀ k, inT T 29 s k = false) (h30 : ∀ k, inT T 30 s k = false) : StC μ' s P S := by
  refine ⟨fun n hn => ?_, fun f hf => ⟨?_, ?_, ?_⟩, ?_, ?_, ?_⟩
  · rw [g.I (h27 _)]; exact h.wi hn
  · rw [g.I (h28 _)]; exact h.dr hf
  · rw [g.I (h29 _)]; exact h.qu hf
  · rw [g.I (h30 _)]; exact h.gr hf
  · rw [g.I (h26 _ (by decide) (by decide))]; exact h.sp
  · rw [g.I (h26 _ (by decide) (by decide))]; exact h.da
  · rw [g.I (h26 _ (by decide) (by decide))]; exact h.pd
theorem wo_widthsTo_e {μ : Mem} {w p : Nat} {P : Pl} {S : Nat → Int32} (hp : mR μ 31 w 0 = p) (hp2 : p < 2) (hk : PlOK P) (hP : PlC μ p P) (hS : StC μ (w + 2) P S) {f : Nat} (hf : f < 6) : wo_widthsTo w (nI f) μ = some (wTo P S f, μ) := by
  obtain ⟨k1, k2, k3, k4, k5, -⟩ := hk
  refine fixN_up (fun i (self : Int32 → Int32 → Mem → Option (Int32 × Mem)) => self (sumI i (fun n => if pTo P n = 10 + f then S (18 + n) else nI 0)) (nI i) μ = some (wTo P S f, μ)) (pNo P) ?_ ?_ 60000 0 (by omega) (by omega)
  · intro i self hi ih
    have h5 := k5 i hi
    rw [sumI_s] at ih
    by_cases e : pTo P i = 10 + f
    · simp only [e, if_true] at ih
      simp (disch := omega) only [wo_widthsTo_B4, hp, hp2, hP.no, hP.to hi, e, nI_leF, inB_nI, cl_nI, nI_add, hS.wi hi, ↓reduceIte]
      exact ih
    · simp only [e, if_false, add_z] at ih
      simp (disch := omega) only [wo_widthsTo_B4, hp, hp2, hP.no, hP.to hi, e, nI_leF, inB_nI, cl_nI, nI_add, nI_eqN, ↓reduceIte]
      exact ih
  · intro self
    simp (disch := omega) only [wo_widthsTo_B4, hp, hp2, hP.no, nI_leT, ↓reduceIte, wTo]

/-! what tokens are like -/
theorem tkK_lt (B : Nat → Nat) (a e : Nat) : tkK B a e < 43 := by
  unfold tkK
  split
  · split
    · have := (wk_R (lts B a e)).2; omega
    · omega
  · split
    · split <;> omega
    · have := sgF_k (B a) 9 0 (by omega); unfold sgK; omega
theorem tkV_41 {B : Nat → Nat} {m a : Nat} (ha : a < m) (h : tkK B a (tEnd B m a) = 41) : tkV B a (tEnd B m a) < 10000 := by
  unfold tkK at h
  unfold tkV
  cases c1 : isLb (B a) with
  | true =>
    rw [c1, if_pos rfl] at h
    split at h
    · have := (wk_R (lts B a (tEnd B m a))).2; omega
    · omega
  | false =>
    rw [c1, if_neg (by decide)] at h
    rw [if_neg (by decide)]
    cases c2 : isDb (B a) with
    | true =>
      rw [c2, if_pos rfl] at h
      rw [if_pos rfl]
      split at h
      · rename_i c4
        have := vlD_lt (B := B) (a := a) (tEnd B m a - a) (fun j h1 h2 => by
          have te : tEnd B m a = runE isDb B (m - (a + 1)) (a + 1) := by unfold tEnd; rw [if_neg (by rw [c1]; decide), if_pos c2]
          obtain ⟨q1, q2⟩ := tEnd_p (B := B) ha
          have : isDb (B j) = true := by
            by_cases z : j = a
            · rw [z]; exact c2
            · exact (runE_p isDb B (m - (a + 1)) (a + 1)).2.2.1 j (by omega) (by omega)
          unfold isDb at this; simpa using this)
        obtain ⟨q1, q2⟩ := tEnd_p (B := B) ha
        rw [show a + (tEnd B m a - a) = tEnd B m a by omega] at this
        have b3 : 10 ^ (tEnd B m a - a) ≤ 10 ^ 4 := Nat.pow_le_pow_right (by omega) c4
        omega
      · omega
    | false =>
      rw [c2, if_neg (by decide)] at h
      have := sgF_k (B a) 9 0 (by omega); unfold sgK at h; omega
theorem tkV_40 {B : Nat → Nat} {m a : Nat} (ha : a < m) (h : tkK B a (tEnd B m a) = 40) : tkV B a (tEnd B m a) < 1000000000000 := by
  unfold tkK at h
  unfold tkV
  cases c1 : isLb (B a) with
  | true =>
    rw [c1, if_pos rfl] at h
    rw [if_pos rfl]
    split at h
    · rename_i c4
      have := vlW_lt _ (lts B a (tEnd B m a)) (lts_len _ _ _) (fun c hc => (lts_let ha c1 c hc).2)
      have b3 : 27 ^ (tEnd B m a - a) ≤ 27 ^ 8 := Nat.pow_le_pow_right (by omega) c4
      have b5 : (27 : Nat) ^ 8 = 282429536481 := by decide
      omega
    · omega
  | false =>
    rw [c1, if_neg (by decide)] at h
    split at h
    · split at h <;> omega
    · have := sgF_k (B a) 9 0 (by omega); unfold sgK at h; omega
theorem tks_p (B : Nat → Nat) (m : Nat) : ∀ f a, (∀ (i : Nat) (q : Nat × Nat × Nat), (tks B m f a)[i]? = some q → a ≤ q.2.1 ∧ q.2.1 < m ∧ q.1 < 43 ∧ (q.1 = 41 → q.2.2 < 10000) ∧ (q.1 = 40 → q.2.2 < 1000000000000)) ∧ ∀ (i j : Nat) (q r : Nat × Nat × Nat), i < j → (tks B m f a)[i]? = some q → (tks B m f a)[j]? = some r → q.2.1 < r.2.1
  | 0, a => by unfold tks; exact ⟨fun i q h => by simp at h, fun i j q r _ h => by simp at h⟩
  | f + 1, a => by
    unfold tks
    by_cases c1 : m ≤ a
    · rw [if_pos c1]; exact ⟨fun i q h => by simp at h, fun i j q r _ h => by simp at h⟩
    · rw [if_neg c1]
      split
      · obtain ⟨h1, h2⟩ := tks_p B m f (a + 1)
        exact ⟨fun i q h => by have := h1 i q h; exact ⟨by omega, this.2⟩, h2⟩
      · obtain ⟨h1, h2⟩ := tks_p B m f (tEnd B m a)
        obtain ⟨q1, q2⟩ := tEnd_p (B := B) (show a < m by omega)
        refine ⟨fun i q h => ?_, fun i j q r hij hi hj => ?_⟩
        · match i, h with
          | 0, h =>
            rw [List.getElem?_cons_zero, Option.some.injEq] at h
            subst h
            exact ⟨Nat.le_refl _, by show a < m; omega, tkK_lt _ _ _, fun z => tkV_41 (by omega) z, fun z => tkV_40 (by omega) z⟩
          | i + 1, h =>
            rw [List.getElem?_cons_succ] at h
            have := h1 i q h
            exact ⟨by omega, this.2⟩
        · match j, hij, hj with
          | j + 1, hij, hj =>
            rw [List.getElem?_cons_succ] at hj
            match i, hij, hi with
            | 0, _, hi =>
              rw [List.getElem?_cons_zero, Option.some.injEq] at hi
              subst hi
              have := h1 j r hj
              show a < r.2.1
              omega
            | i + 1, hij, hi =>
              rw [List.getElem?_cons_succ] at hi
              exact h2 i j q r (by omega) hi hj
theorem ZOK_tks {B : Nat → Nat} {m : Nat} (hm : m ≤ 2000) : ZOK (tks B m 2001 0, m) := by
  obtain ⟨h1, h2⟩ := tks_p B m 2001 0
  have dc : ∀ i, (i < (tks B m 2001 0).length ∧ ∃ q, (tks B m 2001 0)[i]? = some q ∧ tkd (tks B m 2001 0, m) i = q.1 ∧ tpl (tks B m 2001 0, m) i = q.2.1 ∧ tvl (tks B m 2001 0, m) i = q.2.2) ∨ ((tks B m 2001 0).length ≤ i ∧ tkd (tks B m 2001 0, m) i = 43 ∧ tpl (tks B m 2001 0, m) i = m ∧ tvl (tks B m 2001 0, m) i = 0) := fun i => by
    by_cases c : i < (tks B m 2001 0).length
    · exact Or.inl ⟨c, _, List.getElem?_eq_getElem c, tkd_some (Z := (tks B m 2001 0, m)) (List.getElem?_eq_getElem c)⟩
    · exact Or.inr ⟨by omega, tkd_end (Z := (tks B m 2001 0, m)) (by show (tks B m 2001 0).length ≤ i; omega)⟩
  refine ⟨fun i j hij hj => ?_, fun i => ?_, fun i hi => ?_, fun i h => ?_, fun i h => ?_, fun i => ?_⟩
  · have hj2 : j ≤ (tks B m 2001 0).length := hj
    rcases dc i with ⟨a1, q, a2, -, a3, -⟩ | ⟨a1, -⟩
    · rcases dc j with ⟨b1, r, b2, -, b3, -⟩ | ⟨b1, -, b3, -⟩
      · rw [a3, b3]; exact h2 i j q r hij a2 b2
      · rw [a3, b3]; exact (h1 i q a2).2.1
    · omega
  · rcases dc i with ⟨a1, q, a2, a3, -⟩ | ⟨a1, a3, -⟩
    · rw [a3]; have := h1 i q a2; omega
    · rw [a3]; decide
  · have hi2 : i < (tks B m 2001 0).length := hi
    rcases dc i with ⟨a1, q, a2, a3, -⟩ | ⟨a1, a3, -⟩
    · rw [a3]; have := h1 i q a2; omega
    · omega
  · rcases dc i with ⟨a1, q, a2, a3, a4, a5⟩ | ⟨a1, a3, a4, a5⟩
    · rw [a5]; rw [a3] at h; exact (h1 i q a2).2.2.2.1 h
    · omega
  · rcases dc i with ⟨a1, q, a2, a3, a4, a5⟩ | ⟨a1, a3, a4, a5⟩
    · rw [a5]; rw [a3] at h; exact (h1 i q a2).2.2.2.2 h
    · omega
  · rcases dc i with ⟨a1, q, a2, a3, a4, a5⟩ | ⟨a1, a3, a4, a5⟩
    · rw [a4]; have := h1 i q a2; omega
    · rw [a4]; exact hm
/-! the grammar: what a text tells, or its fault -/
/-- where it reads, the later fault, the names told, how many logs, fields, notches, the numbers, the laws -/
abbrev Sg : Type := Nat × (Nat × Int32) × List (Nat × Nat) × (Nat × Nat × Nat) × (Nat → Nat → Int32) × (Nat → Lw)
def yT (s : Sg) : Nat := s.1
def yL (s : Sg) : Nat × Int32 := s.2.1
def yN (s : Sg) : List (Nat × Nat) := s.2.2.1
def yC (s : Sg) : Nat × Nat × Nat := s.2.2.2.1
def yA (s : Sg) : Nat → Nat → Int32 := s.2.2.2.2.1
def yW (s : Sg) : Nat → Lw := s.2.2.2.2.2
def wyT (s : Sg) (t : Nat) : Sg := (t, yL s, yN s, yC s, yA s, yW s)
abbrev Rs := Except (Nat × Int32) Sg
def bG {α : Type} (e : Except (Nat × Int32) α) (g : α → Rs) : Rs := match e with
  | .error f => .error f
  | .ok a => g a
def up2 (A : Nat → Nat → Int32) (i k : Nat) (v : Int32) : Nat → Nat → Int32 := up A i (up (A i) k v)
def gFl (Z : Tks) (c : Nat) (s : Sg) : Rs := .error (c, nI (tpl Z (yT s)))
def gPass (Z : Tks) (s : Sg) : Rs := if yT s = 400 then gFl Z 2 s else .ok (wyT s (yT s + 1))
def gTake (Z : Tks) (k : Nat) (s : Sg) : Rs := if tkd Z (yT s) = k then gPass Z s else gFl Z 1 s
/-- a later fault, at token i -/
def lat (Z : Tks) (c i : Nat) (s : Sg) : Sg := if (yL s).1 = 0 then (yT s, (c, nI (tpl Z i)), yN s, yC s, yA s, yW s) else s
def gNum (Z : Tks) (a b : Nat) (s : Sg) : Rs := bG (gTake Z 41 s) fun r => .ok (if tvl Z (yT s) < a ∨ b < tvl Z (yT s) then lat Z 5 (yT s) r else r)
def inN (v : Nat) (N : List (Nat × Nat)) : Bool := N.any (fun q => q.1 == v)
def gNew (Z : Tks) (s : Sg) : Rs := bG (gTake Z 40 s) fun r => .ok (if inN (tvl Z (yT s)) (yN s) = true then lat Z 3 (yT s) r else r)
/-- the first name told of this kind (logs from 0 on, fields from 10 on) -/
def lkW (b v : Nat) : List (Nat × Nat) → Int32
  | [] => -1
  | (w, a) :: t => if w = v ∧ b ≤ a ∧ a < b + 10 then nI (a - b) else lkW b v t
def adLog (v : Nat) (s : Sg) : Sg := (yT s, yL s, yN s ++ [(v, (yC s).1)], ((yC s).1 + 1, (yC s).2), yA s, yW s)
def adFld (v : Nat) (x : Int32) (s : Sg) : Sg := (yT s, yL s, yN s ++ [(v, 10 + (yC s).2.1)], ((yC s).1, (yC s).2.1 + 1, (yC s).2.2), up2 (up2 (up2 (yA s) 1 (yC s).2.1 x) 5 (yC s).2.1 (-2)) 6 (yC s).2.1 (nI 0), yW s)
def adNo (l t x : Int32) (s : Sg) : Sg := (yT s, yL s, yN s, ((yC s).1, (yC s).2.1, (yC s).2.2 + 1), up2 (up2 (up2 (yA s) 2 (yC s).2.2 l) 3 (yC s).2.2 t) 4 (yC s).2.2 x, yW s)
def stDr (f : Nat) (l x : Int32) (s : Sg) : Sg := (yT s, yL s, yN s, yC s, up2 (up2 (yA s) 5 f l) 6 f x, yW s)
def stAt (i k : Nat) (x : Int32) (s : Sg) : Sg := (yT s, yL s, yN s, yC s, up2 (yA s) i k x, yW s)
def stLw (k : Nat) (L : Lw) (s : Sg) : Sg := (yT s, yL s, yN s, yC s, yA s, up (yW s) k L)
def gLog (Z : Tks) (s : Sg) : Rs := if (yC s).1 = 4 then gFl Z 2 s else bG (gPass Z s) fun r => bG (gNew Z r) fun q => bG (gTake Z 30 q) fun p => .ok (adLog (tvl Z (yT r)) p)
def gFld (Z : Tks) (s : Sg) : Rs := if (yC s).2.1 = 6 then gFl Z 2 s else bG (gPass Z s) fun r => bG (gNew Z r) fun q => bG (gNum Z 1 99 q) fun p => bG (gTake Z 30 p) fun o => .ok (adFld (tvl Z (yT r)) (nI (tvl Z (yT q))) o)
def toV (Z : Tks) (s : Sg) : Int32 := if tkd Z (yT s) = 10 then nI 20 else if lkW 0 (tvl Z (yT s)) (yN s) = -1 then nI 10 + lkW 10 (tvl Z (yT s)) (yN s) else lkW 0 (tvl Z (yT s)) (yN s)
def gTo (Z : Tks) (s : Sg) : Rs := if tkd Z (yT s) = 10 then gPass Z s else bG (gTake Z 40 s) fun r => .ok (if lkW 0 (tvl Z (yT s)) (yN s) = -1 ∧ lkW 10 (tvl Z (yT s)) (yN s) = -1 then lat Z 4 (yT s) r else r)
def ofLog (s : Sg) (l : Int32) : Nat := cntB (yC s).2.2 (fun n => decide (yA s 2 n = l))
/-- a known log of too many notches, an unknown log -/
def latN (Z : Tks) (i : Nat) (l : Int32) (s : Sg) : Sg := if l = -1 then lat Z 4 i s else if 3 ≤ ofLog s l then lat Z 6 i s else s
def gNotch (Z : Tks) (s : Sg) : Rs := if (yC s).2.2 = 12 then gFl Z 2 s else bG (gPass Z s) fun r => bG (gTake Z 40 r) fun q => bG (gTo Z (latN Z (yT r) (lkW 0 (tvl Z (yT r)) (yN r)) q)) fun p => bG (gNum Z 0 3 p) fun o => bG (gTake Z 30 o) fun n => .ok (adNo (lkW 0 (tvl Z (yT r)) (yN r)) (toV Z q) (nI (tvl Z (yT p))) n)
def gKn (Z : Tks) (b : Nat) (s : Sg) : Rs := bG (gTake Z 40 s) fun r => .ok (if lkW b (tvl Z (yT s)) (yN s) = -1 then lat Z 4 (yT s) r else r)
def gDrain (Z : Tks) (s : Sg) : Rs := bG (gPass Z s) fun r => bG (gKn Z 10 r) fun q => bG (gKn Z 0 q) fun p => bG (gNum Z 0 3 p) fun o => bG (gTake Z 30 o) fun n => .ok (if lkW 10 (tvl Z (yT r)) (yN r) = -1 then n else stDr (cl (lkW 10 (tvl Z (yT r)) (yN r))) (lkW 0 (tvl Z (yT q)) (yN q)) (nI (tvl Z (yT p))) n)
def gSpring (Z : Tks) (s : Sg) : Rs := bG (gPass Z s) fun r => bG (gNum Z 1 9 r) fun q => bG (gTake Z 30 q) fun p => .ok (stAt 0 1 (nI (tvl Z (yT r))) p)
def gSeed (Z : Tks) (s : Sg) : Rs := bG (gPass Z s) fun r => bG (gTake Z 41 r) fun q => bG (gTake Z 30 q) fun p => .ok (stAt 0 0 (nI (tvl Z (yT r))) p)
/-! expressions -/
def rkT (k : Nat) : Nat := if k = 34 ∨ k = 35 then 2 else if k = 32 ∨ k = 33 then 1 else 0
/-- what waits and joins at least as closely comes out -/
def popW (r : Nat) : List Nat → Rp → List Nat × Rp
  | [], out => ([], out)
  | k :: st, out => if r ≤ rkT k then popW r st (out ++ [(k - 30, 0)]) else (k :: st, out)
def bV {α β : Type} (e : Except (Nat × Int32) (α × Sg)) (g : α → Sg → Except (Nat × Int32) β) : Except (Nat × Int32) β := match e with
  | .error f => .error f
  | .ok (a, s) => g a s
def bE {β : Type} (e : Rs) (g : Sg → Except (Nat × Int32) β) : Except (Nat × Int32) β := match e with
  | .error f => .error f
  | .ok s => g s
def unT (k v : Nat) : Option (Nat × Nat) := if k = 41 then some (0, v) else if 14 ≤ k ∧ k ≤ 22 then some (1, k - 14) else none
def eE (Z : Tks) : Nat → Bool → Nat → List Nat → Rp → Sg → Except (Nat × Int32) (Rp × Sg)
  | 0, _, _, _, _, s => .error (2, nI (tpl Z (yT s)))
  | f + 1, true, op, st, out, s => if tkd Z (yT s) = 37 then (if op = 6 then .error (2, nI (tpl Z (yT s))) else bE (gPass Z s) fun r => eE Z f true (op + 1) (37 :: st) out r) else match unT (tkd Z (yT s)) (tvl Z (yT s)) with
    | some q => bE (gPass Z s) fun r => eE Z f false op st (out ++ [q]) r
    | none => .error (1, nI (tpl Z (yT s)))
  | f + 1, false, op, st, out, s => if rkT (tkd Z (yT s)) = 0 then (if tkd Z (yT s) = 38 ∧ 0 < op then bE (gPass Z s) fun r => eE Z f false (op - 1) (popW 1 st out).1.tail (popW 1 st out).2 r else if op = 0 then .ok ((popW 1 st out).2, s) else .error (1, nI (tpl Z (yT s)))) else bE (gPass Z s) fun r => eE Z f true op (tkd Z (yT s) :: (popW (rkT (tkd Z (yT s))) st out).1) (popW (rkT (tkd Z (yT s))) st out).2 r
def gE (Z : Tks) (s : Sg) : Except (Nat × Int32) (Rp × Sg) := eE Z (401 - yT s) true 0 [] [] s
def gLast (Z : Tks) (k : Nat) (L : List (Rp × Rp × Rp)) (s : Sg) : Rs := bV (gE Z s) fun e r => bG (gTake Z 30 r) fun q => .ok (stLw k (L, e) q)
def gIfs (Z : Tks) (k : Nat) : Nat → List (Rp × Rp × Rp) → Sg → Rs
  | 0, L, s => if tkd Z (yT s) = 11 then gFl Z 2 s else gLast Z k L s
  | n + 1, L, s => if tkd Z (yT s) = 11 then bG (gPass Z s) fun r => bV (gE Z r) fun a r => bG (gTake Z 36 r) fun r => bV (gE Z r) fun b r => bG (gTake Z 12 r) fun r => bV (gE Z r) fun c r => bG (gTake Z 13 r) fun r => gIfs Z k n (L ++ [(a, b, c)]) r else gLast Z k L s
def gLaw (Z : Tks) (k : Nat) (s : Sg) : Rs := bG (gPass Z s) fun r => bG (gTake Z 31 r) fun q => gIfs Z k 4 [] q
def gTell (Z : Tks) (s : Sg) : Rs := if tkd Z (yT s) = 0 then gLog Z s else if tkd Z (yT s) = 1 then gFld Z s else if tkd Z (yT s) = 2 then gNotch Z s else if tkd Z (yT s) = 3 then gDrain Z s else if tkd Z (yT s) = 4 then gSpring Z s else if tkd Z (yT s) = 9 then gSeed Z s else if 5 ≤ tkd Z (yT s) ∧ tkd Z (yT s) ≤ 8 then gLaw Z (tkd Z (yT s) - 5) s else gFl Z 1 s
def gTells (Z : Tks) : Nat → Sg → Rs
  | 0, s => .ok s
  | f + 1, s => if tkd Z (yT s) = 43 then .ok s else bG (gTell Z s) (gTells Z f)
def sg0 : Sg := (0, (0, -1), [], (0, 0, 0), up2 (fun _ _ => nI 0) 0 1 (nI 8), plainL)
def gText (Z : Tks) : Rs := gTells Z 401 sg0

/-! the object: what both sides hold -/
def Ob : Type := Pl × (Nat → Int32) × (Nat × (Nat → Nat → Int32)) × ((Nat → Bool) × (Nat → Nat → Int32)) × Tk × (Nat × (Nat → Int32)) × Int32
def zP (o : Ob) : Pl := o.1
def zS (o : Ob) : Nat → Int32 := o.2.1
def zN (o : Ob) : Nat := o.2.2.1.1
def zH (o : Ob) : Nat → Nat → Int32 := o.2.2.1.2
def zB (o : Ob) : Nat → Bool := o.2.2.2.1.1
def zV (o : Ob) : Nat → Nat → Int32 := o.2.2.2.1.2
def zT (o : Ob) : Tk := o.2.2.2.2.1
def zM (o : Ob) : Nat := o.2.2.2.2.2.1.1
def zX (o : Ob) : Nat → Int32 := o.2.2.2.2.2.1.2
def zE (o : Ob) : Int32 := o.2.2.2.2.2.2
def byOK (x : Int32) : Prop := ∃ z : Int8, x = Int8.toInt32 z
def OkO (o : Ob) : Prop := PlOK (zP o) ∧ StOK (zP o) (zS o) ∧ zN o ≤ 40 ∧ (∀ j, j < zN o → StOK (zP o) (zH o j)) ∧ (∀ k, k < 3 → zB o k = true → StOK (zP o) (zV o k)) ∧ TkOK (zP o) (zT o) ∧ zM o ≤ 2000 ∧ ∀ k, k < zM o → byOK (zX o k)
def PastC (μ : Mem) (P : Pl) (n : Nat) (H : Nat → Nat → Int32) : Prop := ∃ la, la < 40 ∧ mI μ 44 0 1 = nI la ∧ mI μ 44 0 2 = nI n ∧ ∀ j, j < n → StC μ (4 + (la + 40 - j) % 40) P (H j)
def SlotC (μ : Mem) (P : Pl) (b : Nat → Bool) (V : Nat → Nat → Int32) : Prop := ∀ k, k < 3 → mI μ 47 0 k = b01I (b k) ∧ (b k = true → StC μ (44 + k) P (V k))
def TapC (μ : Mem) (m : Nat) (X : Nat → Int32) : Prop := mI μ 10 0 1 = nI m ∧ ∀ k, k < m → mI μ 11 0 k = X k
def RestC (μ : Mem) (o : Ob) : Prop := PastC μ (zP o) (zN o) (zH o) ∧ SlotC μ (zP o) (zB o) (zV o) ∧ TkC μ (zT o) ∧ TapC μ (zM o) (zX o) ∧ mI μ 10 0 2 = zE o
def InvC (μ : Mem) (p : Nat) (o : Ob) : Prop := CCore μ p (zP o) (zS o) ∧ RestC μ o
/-- what may be written while all but what is now stays -/
def okS1 (a : At) : Bool := (decide (32 ≤ a.1) && decide (a.1 ≤ 43)) || ((decide (52 ≤ a.1) && decide (a.1 ≤ 54)) || ((decide (26 ≤ a.1) && decide (a.1 ≤ 30)) && (a.2.1 == some 2 || a.2.1 == some 3)))
def okS (T : List At) : Bool := T.all okS1
theorem okS_f {T : List At} (h : okS T = true) {r i k : Nat} (hr : ¬ (32 ≤ r ∧ r ≤ 43)) (h2 : ¬ (52 ≤ r ∧ r ≤ 54)) (h3 : ¬ ((26 ≤ r ∧ r ≤ 30) ∧ (i = 2 ∨ i = 3))) : inT T r i k = false := by
  cases e : inT T r i k with
  | false => rfl
  | true =>
    exfalso
    obtain ⟨a, ha, hb⟩ := List.any_eq_true.mp e
    have h1 := List.all_eq_true.mp h a ha
    unfold inA at hb
    rw [Bool.and_eq_true, beq_iff_eq] at hb
    obtain ⟨hb1, hb2⟩ := hb
    unfold okS1 at h1
    rw [hb1] at h1
    simp only [Bool.or_eq_true, Bool.and_eq_true, decide_eq_true_eq, beq_iff_eq] at h1
    rcases h1 with h1 | h1 | h1
    · exact hr h1
    · exact h2 h1
    · rcases h1.2 with q | q <;>
      · rw [q] at hb2
        simp only [Bool.and_eq_true, beq_iff_eq] at hb2
        exact h3 ⟨h1.1, by omega⟩
theorem okQ_S {T : List At} (h : okQ T = true) : okS T = true := by
  unfold okS
  rw [List.all_eq_true]
  intro a ha
  have h1 := List.all_eq_true.mp h a ha
  unfold okA at h1
  unfold okS1
  simp only [Bool.or_eq_true, Bool.and_eq_true, decide_eq_true_eq, beq_iff_eq] at h1 ⊢
  rcases h1 with h1 | h1 | h1 | h1
  · exact Or.inl (by omega)
  · exact Or.inr (Or.inl h1)
  · exact Or.inr (Or.inr ⟨h1.1, Or.inr h1.2⟩)
  · exact Or.inl (by omega)
theorem StC.frs {μ μ' : Mem} {s : Nat} {P : Pl} {S : Nat → Int32} {T : List At} (h : StC μ s P S) (g : Fr T μ μ') (o : okS T = true) (hs : s ≠ 2 ∧ s ≠ 3) : StC μ' s P S := h.fr g (fun _ _ _ => okS_f o (by omega) (by omega) (by omega)) (fun _ => okS_f o (by omega) (by omega) (by omega)) (fun _ => okS_f o (by omega) (by omega) (by omega)) (fun _ => okS_f o (by omega) (by omega) (by omega)) (fun _ => okS_f o (by omega) (by omega) (by omega))
theorem RestC.fr {μ μ' : Mem} {o : Ob} {T : List At} (h : RestC μ o) (g : Fr T μ μ') (ok : okS T = true) : RestC μ' o := by
  obtain ⟨⟨la, a1, a2, a3, a4⟩, b, c, d, e⟩ := h
  have z : ∀ {r i k : Nat}, ¬ (32 ≤ r ∧ r ≤ 43) → ¬ (52 ≤ r ∧ r ≤ 54) → ¬ ((26 ≤ r ∧ r ≤ 30) ∧ (i = 2 ∨ i = 3)) → inT T r i k = false := fun a b c => okS_f ok a b c
  refine ⟨⟨la, a1, ?_, ?_, fun j hj => (a4 j hj).frs g ok (by omega)⟩, fun k hk => ⟨?_, fun hb => ((b k hk).2 hb).frs g ok (by omega)⟩, ⟨?_, fun i hi => ⟨?_, ?_, ?_⟩⟩, ⟨?_, fun k hk => ?_⟩, ?_⟩
  · rw [g.I (z (by omega) (by omega) (by omega))]; exact a2
  · rw [g.I (z (by omega) (by omega) (by omega))]; exact a3
  · rw [g.I (z (by omega) (by omega) (by omega))]; exact (b k hk).1
  · rw [g.I (z (by omega) (by omega) (by omega))]; exact c.1
  · rw [g.I (z (by omega) (by omega) (by omega))]; exact (c.2 i hi).1
  · rw [g.I (z (by omega) (by omega) (by omega))]; exact (c.2 i hi).2.1
  · rw [g.I (z (by omega) (by omega) (by omega))]; exact (c.2 i hi).2.2
  · rw [g.I (z (by omega) (by omega) (by omega))]; exact d.1
  · rw [g.I (z (by omega) (by omega) (by omega))]; exact d.2 k hk
  · rw [g.I (z (by omega) (by omega) (by omega))]; exact e
theorem InvC.fr {μ μ' : Mem} {p : Nat} {o : Ob} {T : List At} (h : InvC μ p o) (g : Fr T μ μ') (ok : okQ T = true) : InvC μ' p o := ⟨h.1.fr g ok, h.2.fr g (okQ_S ok)⟩
/-- what the core reads -/
def NdC (r i k : Nat) : Prop := (r = 10 ∧ (k = 3 ∨ k = 4)) ∨ r = 31 ∨ (18 ≤ r ∧ r ≤ 25) ∨ ((26 ≤ r ∧ r ≤ 30) ∧ i = 2) ∨ ((32 ≤ r ∧ r ≤ 35) ∧ i = 0)
theorem WoC.frn {μ μ' : Mem} {p : Nat} {P : Pl} {S : Nat → Int32} (h : WoC μ 0 p P S) (g : ∀ r i k, NdC r i k → mI μ' r i k = mI μ r i k ∧ mL μ' r i k = mL μ r i k ∧ mR μ' r i k = mR μ r i k) : WoC μ' 0 p P S := by
  unfold NdC at g
  refine ⟨h.p2, ?_, ⟨?_, ?_, ?_, ?_, fun f hf => ?_, fun n hn => ?_, fun n hn => ?_⟩, ?_, ⟨fun n hn => ?_, fun f hf => ⟨?_, ?_, ?_⟩, ?_, ?_, ?_⟩⟩
  · rw [(g _ _ _ (by omega)).2.2]; exact h.r
  · rw [(g _ _ _ (by omega)).1]; exact h.pl.lg
  · rw [(g _ _ _ (by omega)).1]; exact h.pl.fd
  · rw [(g _ _ _ (by omega)).1]; exact h.pl.no
  · rw [(g _ _ _ (by omega)).1]; exact h.pl.sd
  · rw [(g _ _ _ (by omega)).1]; exact h.pl.ar hf
  · rw [(g _ _ _ (by omega)).1]; exact h.pl.lo hn
  · rw [(g _ _ _ (by omega)).1]; exact h.pl.to hn
  · obtain ⟨cs, h1, h2, h3⟩ := h.la
    refine ⟨cs, h1, by rw [(g _ _ _ (by omega)).1]; exact h2, fun k hk => ?_⟩
    obtain ⟨s, a, b, c⟩ := h3 k hk
    exact ⟨s, by rw [(g _ _ _ (by omega)).1]; exact a, b, fun i hi => by rw [(g _ _ _ (by omega)).1]; exact c i hi⟩
  · rw [(g _ _ _ (by omega)).1]; exact h.st.wi hn
  · rw [(g _ _ _ (by omega)).1]; exact h.st.dr hf
  · rw [(g _ _ _ (by omega)).1]; exact h.st.qu hf
  · rw [(g _ _ _ (by omega)).1]; exact h.st.gr hf
  · rw [(g _ _ _ (by omega)).1]; exact h.st.sp
  · rw [(g _ _ _ (by omega)).1]; exact h.st.da
  · rw [(g _ _ _ (by omega)).1]; exact h.st.pd
theorem CCore.frn {μ μ' : Mem} {p : Nat} {P : Pl} {S : Nat → Int32} (h : CCore μ p P S) (g : ∀ r i k, NdC r i k → mI μ' r i k = mI μ r i k ∧ mL μ' r i k = mL μ r i k ∧ mR μ' r i k = mR μ r i k) : CCore μ' p P S :=
  ⟨(g _ _ _ (by unfold NdC; omega)).2.2.trans h.1, (g _ _ _ (by unfold NdC; omega)).2.2.trans h.2.1, (g _ _ _ (by unfold NdC; omega)).2.2.trans h.2.2.1, h.wo.frn g, h.wa.eq (fun r k h1 h2 => ⟨(g _ _ _ (by unfold NdC; omega)).1, (g _ _ _ (by unfold NdC; omega)).2.1⟩)⟩
/-! what was is put away, and comes back -/
def cons1 (S : Nat → Int32) (H : Nat → Nat → Int32) : Nat → Nat → Int32 := fun j => if j = 0 then S else H (j - 1)
def min40 (n : Nat) : Nat := if n < 40 then n + 1 else 40
theorem j_mn40 {n : Nat} (h : n ≤ 40) (μ : Mem) : j_min (nI (n + 1)) (nI 40) μ = some (nI (min40 n), μ) := by
  unfold j_min min40
  by_cases c : n < 40
  · rw [if_pos c, if_neg (by rw [nI_ltF (by omega) (by omega)]; exact id)]
  · rw [if_neg c, if_pos (by rw [nI_ltT (by omega) (by omega)]; trivial)]
/-- the places of push -/
def pshA (r i k : Nat) : Prop := (r = 44 ∧ (k = 1 ∨ k = 2)) ∨ ((26 ≤ r ∧ r ≤ 30) ∧ 4 ≤ i ∧ i < 44)
theorem pa_push_e {μ : Mem} {P : Pl} {S : Nat → Int32} {n : Nat} {H : Nat → Nat → Int32} (hk : PlOK P) (hp : PastC μ P n H) (hs : StC μ 2 P S) (hn : n ≤ 40) : ∃ μ', pa_push 2 μ = some ((), μ') ∧ PastC μ' P (min40 n) (cons1 S H) ∧ ∀ r i k, ¬ pshA r i k → mI μ' r i k = mI μ r i k ∧ mL μ' r i k = mL μ r i k ∧ mR μ' r i k = mR μ r i k := by
  obtain ⟨la, h1, h2, h3, h4⟩ := hp
  have key : ∀ l', l' < 40 → (∀ j, 1 ≤ j → j < 40 → (l' + 40 - j) % 40 = (la + 40 - (j - 1)) % 40 ∧ (l' + 40 - j) % 40 ≠ l') → ∃ μ6, st_become (l' + 4) 2 (stI μ 44 0 1 (nI l')) = some ((), μ6) ∧ mI μ6 44 0 2 = nI n ∧ PastC (stI μ6 44 0 2 (nI (min40 n))) P (min40 n) (cons1 S H) ∧ ∀ r i k, ¬ pshA r i k → mI (stI μ6 44 0 2 (nI (min40 n))) r i k = mI μ r i k ∧ mL (stI μ6 44 0 2 (nI (min40 n))) r i k = mL μ r i k ∧ mR (stI μ6 44 0 2 (nI (min40 n))) r i k = mR μ r i k := by
    intro l' hl' hj
    obtain ⟨μ6, e6, s6⟩ := st_become_e (μ := stI μ 44 0 1 (nI l')) (i := l' + 4) hk (show StC (stI μ 44 0 1 (nI l')) 2 P S from hs) (by omega)
    have g6 := f_st_become e6
    have off : ∀ r i k, ¬ (26 ≤ r ∧ r ≤ 30 ∧ i = l' + 4) → inT (T_st_become (l' + 4) 2) r i k = false := fun r i k hh => by
      cases e : inT (T_st_become (l' + 4) 2) r i k with
      | false => rfl
      | true =>
        exfalso
        obtain ⟨a, ha, hb⟩ := List.any_eq_true.mp e
        unfold T_st_become at ha
        unfold inA at hb
        simp only [List.mem_cons, List.not_mem_nil, or_false] at ha
        rcases ha with rfl | rfl | rfl | rfl | rfl | rfl | rfl <;> (simp only [Bool.and_eq_true, beq_iff_eq] at hb; omega)
    have o44 : ∀ k, mI μ6 44 0 k = mI (stI μ 44 0 1 (nI l')) 44 0 k := fun k => g6.I (off _ _ _ (by omega))
    refine ⟨μ6, e6, ?_, ⟨l', hl', ?_, ?_, fun j hjn => ?_⟩, fun r i k hno => ?_⟩
    · rw [o44, mI_stI, if_neg (by omega)]; exact h3
    · rw [mI_stI, if_neg (by omega), o44, mI_stI, if_pos ⟨rfl, rfl, rfl⟩]
    · rw [mI_stI, if_pos ⟨rfl, rfl, rfl⟩]
    · have hj40 : j < 40 := by unfold min40 at hjn; split at hjn <;> omega
      by_cases e : j = 0
      · subst e
        have : (4 + (l' + 40 - 0) % 40) = l' + 4 := by omega
        rw [this]
        exact s6
      · obtain ⟨q1, q2⟩ := hj j (by omega) hj40
        rw [q1]
        rw [q1] at q2
        have hjn2 : j - 1 < n := by unfold min40 at hjn; split at hjn <;> omega
        have := h4 (j - 1) hjn2
        have ec : cons1 S H j = H (j - 1) := if_neg e
        rw [ec]
        have st : StC (stI μ 44 0 1 (nI l')) (4 + (la + 40 - (j - 1)) % 40) P (H (j - 1)) := this
        have st6 : StC μ6 (4 + (la + 40 - (j - 1)) % 40) P (H (j - 1)) := st.fr g6 (fun _ _ _ => off _ _ _ (by omega)) (fun _ => off _ _ _ (by omega)) (fun _ => off _ _ _ (by omega)) (fun _ => off _ _ _ (by omega)) (fun _ => off _ _ _ (by omega))
        exact st6
    · unfold pshA at hno
      have a1 := g6.1 r i k (off _ _ _ (by omega))
      refine ⟨?_, a1.2.1, a1.2.2⟩
      rw [mI_stI, if_neg (by omega), a1.1, mI_stI, if_neg (by omega)]
  unfold pa_push
  rw [h2, nI_add]
  by_cases c : la + 1 < 40
  · obtain ⟨μ6, e6, e44, hp, hf⟩ := key (la + 1) c (fun j a b => by omega)
    have e7 := j_mn40 hn μ6
    refine ⟨_, ?_, hp, hf⟩
    simp (disch := omega) only [nI_leF, mI_stI, and_self, inB_nI, cl_nI, ↓reduceIte]
    rw [ob_eq e6]
    simp only [e44, nI_add, ↓ob_eq e7]
  · obtain ⟨μ6, e6, e44, hp, hf⟩ := key 0 (by omega) (fun j a b => by omega)
    have e7 := j_mn40 hn μ6
    refine ⟨_, ?_, hp, hf⟩
    simp (disch := omega) only [nI_leT, mI_stI, and_self, inB_nI, cl_nI, ↓reduceIte]
    rw [ob_eq e6]
    simp only [e44, nI_add, ↓ob_eq e7]
theorem pa_pop_e {μ : Mem} {P : Pl} {n : Nat} {H : Nat → Nat → Int32} (hk : PlOK P) (hp : PastC μ P (n + 1) H) (hn : n + 1 ≤ 40) : ∃ μ', pa_pop 2 μ = some (nI 1, μ') ∧ PastC μ' P n (fun j => H (j + 1)) ∧ StC μ' 2 P (H 0) ∧ ∀ r i k, ¬ ((r = 44 ∧ (k = 1 ∨ k = 2)) ∨ ((26 ≤ r ∧ r ≤ 30) ∧ i = 2)) → mI μ' r i k = mI μ r i k ∧ mL μ' r i k = mL μ r i k ∧ mR μ' r i k = mR μ r i k := by
  obtain ⟨la, h1, h2, h3, h4⟩ := hp
  have h0 := h4 0 (by omega)
  rw [show 4 + (la + 40 - 0) % 40 = la + 4 by omega] at h0
  obtain ⟨μ6, e6, s6⟩ := st_become_e (i := 2) hk h0 (by omega)
  have g6 := f_st_become e6
  have off : ∀ r i k, ¬ (26 ≤ r ∧ r ≤ 30 ∧ i = 2) → inT (T_st_become 2 (la + 4)) r i k = false := fun r i k hh => by
    cases e : inT (T_st_become 2 (la + 4)) r i k with
    | false => rfl
    | true =>
      exfalso
      obtain ⟨a, ha, hb⟩ := List.any_eq_true.mp e
      unfold T_st_become at ha
      unfold inA at hb
      simp only [List.mem_cons, List.not_mem_nil, or_false] at ha
      rcases ha with rfl | rfl | rfl | rfl | rfl | rfl | rfl <;> (simp only [Bool.and_eq_true, beq_iff_eq] at hb; omega)
  have o44 : ∀ k, mI μ6 44 0 k = mI μ 44 0 k := fun k => g6.I (off _ _ _ (by omega))
  have e1 := (o44 1).trans h2
  have e2 := (o44 2).trans h3
  have key : ∀ l', l' < 40 → (∀ j, j + 1 < 41 → (l' + 40 - j) % 40 = (la + 40 - (j + 1)) % 40) → PastC (stI (stI μ6 44 0 1 (nI l')) 44 0 2 (nI n)) P n (fun j => H (j + 1)) := fun l' hl' hj => by
    refine ⟨l', hl', ?_, ?_, fun j hjn => ?_⟩
    · rw [mI_stI, if_neg (by omega), mI_stI, if_pos ⟨rfl, rfl, rfl⟩]
    · rw [mI_stI, if_pos ⟨rfl, rfl, rfl⟩]
    · rw [hj j (by omega)]
      have := h4 (j + 1) (by omega)
      have st : StC μ6 (4 + (la + 40 - (j + 1)) % 40) P (H (j + 1)) := this.fr g6 (fun _ _ _ => off _ _ _ (by omega)) (fun _ => off _ _ _ (by omega)) (fun _ => off _ _ _ (by omega)) (fun _ => off _ _ _ (by omega)) (fun _ => off _ _ _ (by omega))
      exact st
  have fin : ∀ l' r i k, ¬ ((r = 44 ∧ (k = 1 ∨ k = 2)) ∨ ((26 ≤ r ∧ r ≤ 30) ∧ i = 2)) → mI (stI (stI μ6 44 0 1 (nI l')) 44 0 2 (nI n)) r i k = mI μ r i k ∧ mL (stI (stI μ6 44 0 1 (nI l')) 44 0 2 (nI n)) r i k = mL μ r i k ∧ mR (stI (stI μ6 44 0 1 (nI l')) 44 0 2 (nI n)) r i k = mR μ r i k := fun l' r i k hno => by
    have a1 := g6.1 r i k (off _ _ _ (by omega))
    refine ⟨?_, a1.2.1, a1.2.2⟩
    rw [mI_stI, if_neg (by omega), mI_stI, if_neg (by omega)]
    exact a1.1
  unfold pa_pop
  rw [h3, h2]
  by_cases c : la = 0
  · refine ⟨_, ?_, key 39 (by omega) (fun j hj => by omega), s6, fin 39⟩
    simp (disch := omega) only [nI_eqF, inB_nI, cl_nI, ↓reduceIte]
    rw [ob_eq e6]
    subst c
    simp (disch := omega) only [e1, nI_leT, mI_stI, Nat.reduceEqDiff, and_false, e2, nI_sub1, Nat.add_sub_cancel, ↓mb_e, ↓reduceIte]
  · refine ⟨_, ?_, key (la - 1) (by omega) (fun j hj => by omega), s6, fin (la - 1)⟩
    simp (disch := omega) only [nI_eqF, inB_nI, cl_nI, ↓reduceIte]
    rw [ob_eq e6]
    simp (disch := omega) only [e1, nI_leF, mI_stI, Nat.reduceEqDiff, and_false, e2, nI_sub1, Nat.add_sub_cancel, ↓mb_e, ↓reduceIte]
/-! the object's next state -/
def wS (o : Ob) (S : Nat → Int32) : Ob := (zP o, S, (zN o, zH o), (zB o, zV o), zT o, (zM o, zX o), zE o)
def psh (o : Ob) (S : Nat → Int32) : Ob := (zP o, S, (min40 (zN o), cons1 (zS o) (zH o)), (zB o, zV o), zT o, (zM o, zX o), zE o)
def wN2 (o : Ob) (n : Nat) (H : Nat → Nat → Int32) : Ob := (zP o, zS o, (n, H), (zB o, zV o), zT o, (zM o, zX o), zE o)
def wT (o : Ob) (T : Tk) : Ob := (zP o, zS o, (zN o, zH o), (zB o, zV o), T, (zM o, zX o), zE o)
def wB (o : Ob) (b : Nat → Bool) (V : Nat → Nat → Int32) : Ob := (zP o, zS o, (zN o, zH o), (b, V), zT o, (zM o, zX o), zE o)
def wM (o : Ob) (m : Nat) (X : Nat → Int32) : Ob := (zP o, zS o, (zN o, zH o), (zB o, zV o), zT o, (m, X), zE o)
theorem psh_ok {o : Ob} (h : OkO o) {S : Nat → Int32} (hS : StOK (zP o) S) : OkO (psh o S) := by
  obtain ⟨a, b, c, d, e, f, g⟩ := h
  refine ⟨a, hS, ?_, fun j hj => ?_, e, f, g⟩
  · show min40 (zN o) ≤ 40
    unfold min40
    split <;> omega
  · show StOK (zP o) (cons1 (zS o) (zH o) j)
    have hj2 : j < min40 (zN o) := hj
    unfold cons1
    by_cases z : j = 0
    · rw [if_pos z]; exact b
    · rw [if_neg z]
      refine d (j - 1) ?_
      unfold min40 at hj2
      split at hj2 <;> omega
/-- the rest behind a push, and behind what is written then -/
theorem RestC.push {μ : Mem} {o : Ob} (hk : PlOK (zP o)) (h : RestC μ o) (hs : StC μ 2 (zP o) (zS o)) (hn : zN o ≤ 40) (S : Nat → Int32) : ∃ μ', pa_push 2 μ = some ((), μ') ∧ RestC μ' (psh o S) ∧ ∀ r i k, NdC r i k → mI μ' r i k = mI μ r i k ∧ mL μ' r i k = mL μ r i k ∧ mR μ' r i k = mR μ r i k := by
  obtain ⟨a, b, c, d, e⟩ := h
  obtain ⟨μ', e1, a1, f⟩ := pa_push_e hk a hs hn
  unfold pshA at f
  refine ⟨μ', e1, ⟨a1, fun k hk => ⟨?_, fun hb => ?_⟩, ⟨?_, fun i hi => ⟨?_, ?_, ?_⟩⟩, ⟨?_, fun k hk => ?_⟩, ?_⟩, fun r i k hh => f r i k (by unfold NdC at hh; omega)⟩
  · exact (f 47 0 k (by omega)).1.trans (b k hk).1
  · have st := (b k hk).2 hb
    refine ⟨fun n hn => (f _ _ _ (by omega)).1.trans (st.wi hn), fun g hg => ⟨(f _ _ _ (by omega)).1.trans (st.dr hg), (f _ _ _ (by omega)).1.trans (st.qu hg), (f _ _ _ (by omega)).1.trans (st.gr hg)⟩, (f _ _ _ (by omega)).1.trans st.sp, (f _ _ _ (by omega)).1.trans st.da, (f _ _ _ (by omega)).1.trans st.pd⟩
  · exact (f _ _ _ (by omega)).1.trans c.1
  · exact (f _ _ _ (by omega)).1.trans (c.2 i hi).1
  · exact (f _ _ _ (by omega)).1.trans (c.2 i hi).2.1
  · exact (f _ _ _ (by omega)).1.trans (c.2 i hi).2.2
  · exact (f _ _ _ (by omega)).1.trans d.1
  · exact (f _ _ _ (by omega)).1.trans (d.2 k hk)
  · exact (f _ _ _ (by omega)).1.trans e
/-- the core, put together anew behind a settling -/
theorem CCore.mk {μ : Mem} {p : Nat} {P : Pl} {S S' : Nat → Int32} {μ' : Mem} (h : CCore μ p P S) (hr : ∀ i k, (i = 10 ∧ (k = 3 ∨ k = 4)) → mR μ' 10 0 k = mR μ 10 0 k) (h31 : mR μ' 31 1 0 = mR μ 31 1 0) (w : WoC μ' 0 p P S') (a : WaC μ' 0 P S') : CCore μ' p P S' := ⟨(hr 10 3 ⟨rfl, Or.inl rfl⟩).trans h.1, (hr 10 4 ⟨rfl, Or.inr rfl⟩).trans h.2.1, h31.trans h.2.2.1, w, a⟩
theorem WoC.paid {μ : Mem} {w p : Nat} {P : Pl} {S : Nat → Int32} (hk : PlOK P) (h : WoC μ w p P S) (v : Int32) : WoC (stI μ 26 (w + 2) 6 v) w p P (up S 32 v) := by
  have k2 := hk.2.1
  have k3 := hk.2.2.1
  refine ⟨h.p2, h.r, h.pl, h.la, fun n hn => ?_, fun f hf => ⟨?_, ?_, ?_⟩, ?_, ?_, ?_⟩
  · rw [up_n _ _ (by omega)]; exact h.st.wi hn
  · rw [up_n _ _ (by omega)]; exact h.st.dr hf
  · rw [up_n _ _ (by omega)]; exact h.st.qu hf
  · rw [up_n _ _ (by omega)]; exact h.st.gr hf
  · rw [up_n _ _ (by omega), mI_stI, if_neg (by omega)]; exact h.st.sp
  · rw [up_n _ _ (by omega), mI_stI, if_neg (by omega)]; exact h.st.da
  · rw [up_s, mI_stI, if_pos ⟨rfl, rfl, rfl⟩]
theorem WoC.spr {μ : Mem} {w p : Nat} {P : Pl} {S : Nat → Int32} (hk : PlOK P) (h : WoC μ w p P S) (v : Int32) : WoC (stI μ 26 (w + 2) 4 v) w p P (up S 30 v) := by
  have k2 := hk.2.1
  have k3 := hk.2.2.1
  refine ⟨h.p2, h.r, h.pl, h.la, fun n hn => ?_, fun f hf => ⟨?_, ?_, ?_⟩, ?_, ?_, ?_⟩
  · rw [up_n _ _ (by omega)]; exact h.st.wi hn
  · rw [up_n _ _ (by omega)]; exact h.st.dr hf
  · rw [up_n _ _ (by omega)]; exact h.st.qu hf
  · rw [up_n _ _ (by omega)]; exact h.st.gr hf
  · rw [up_s, mI_stI, if_pos ⟨rfl, rfl, rfl⟩]
  · rw [up_n _ _ (by omega), mI_stI, if_neg (by omega)]; exact h.st.da
  · rw [up_n _ _ (by omega), mI_stI, if_neg (by omega)]; exact h.st.pd
theorem up32_ok {P : Pl} {S : Nat → Int32} (hk : PlOK P) (hS : StOK P S) (v : Int32) : StOK P (up S 32 v) := by
  have k2 := hk.2.1
  have k3 := hk.2.2.1
  refine ⟨fun n hn => ?_, fun f hf => ?_, ?_⟩
  · have := hS.1 n hn
    unfold sW at this ⊢
    rw [up_n _ _ (by omega)]; exact this
  · have := hS.2.1 f hf
    unfold sQ sD sG at this ⊢
    rw [up_n _ _ (by omega), up_n _ _ (by omega), up_n _ _ (by omega)]; exact this
  · have := hS.2.2
    unfold sS at this ⊢
    rw [up_n _ _ (by omega)]; exact this
theorem up30_ok {P : Pl} {S : Nat → Int32} (hk : PlOK P) (hS : StOK P S) {j : Nat} (h1 : 1 ≤ j) (h9 : j ≤ 9) : StOK P (up S 30 (nI j)) := by
  have k2 := hk.2.1
  have k3 := hk.2.2.1
  refine ⟨fun n hn => ?_, fun f hf => ?_, ?_⟩
  · have := hS.1 n hn
    unfold sW at this ⊢
    rw [up_n _ _ (by omega)]; exact this
  · have := hS.2.1 f hf
    unfold sQ sD sG at this ⊢
    rw [up_n _ _ (by omega), up_n _ _ (by omega), up_n _ _ (by omega)]; exact this
  · unfold sS
    rw [up_s, cl_nI (by omega)]
    exact ⟨rfl, h1, h9⟩
/-! step -/
noncomputable def rStep (o : Ob) (x y : Int32) : Int32 := if inB x (pNo (zP o)) = true then (if canS (zP o) (zS o) (if y = nI 0 then 2 * cl x else 2 * cl x + 1) = true then costs (zP o) (zS o) (cl x) else -1) else -1
noncomputable def stpO (o : Ob) (n s : Nat) : Ob := psh o (up (stS (zS o) s) 32 (zS o 32 + costs (zP o) (zS o) n))
noncomputable def nStep (o : Ob) (x y : Int32) : Ob := if inB x (pNo (zP o)) = true then (if canS (zP o) (zS o) (if y = nI 0 then 2 * cl x else 2 * cl x + 1) = true then stpO o (cl x) (if y = nI 0 then 2 * cl x else 2 * cl x + 1) else o) else o
theorem nStep_ok {o : Ob} (h : OkO o) (x y : Int32) : OkO (nStep o x y) := by
  unfold nStep
  generalize (if y = nI 0 then 2 * cl x else 2 * cl x + 1) = s
  split
  · split
    · rename_i hc
      exact psh_ok h (up32_ok h.1 (stS_ok h.1 h.2.1 hc) _)
    · exact h
  · exact h
theorem s_step_e {μ : Mem} {p : Nat} {o : Ob} (ok : OkO o) (h : InvC μ p o) (x y : Int32) : ∃ μ', s_step x y μ = some (rStep o x y, μ') ∧ InvC μ' p (nStep o x y) := by
  obtain ⟨hk, hS, hN, -⟩ := ok
  obtain ⟨hc, hr⟩ := h
  have k3 := hk.2.2.1
  have e0 := s_isNotch_e hk hc x
  unfold s_step rStep nStep
  rcases inB_cases x (show pNo (zP o) < 2147483648 by omega) with ⟨a, n, hn, e⟩ | ⟨a, -⟩
  · subst e
    rw [a] at e0
    rw [if_pos a, if_pos a, cl_nI (by omega)]
    have e2 := fun μ => s_stepNumber_e (show n < 12 by omega) y μ
    generalize hs : (if y = nI 0 then 2 * n else 2 * n + 1) = s at e2 ⊢
    have hs2 : s < 1000 := by rw [← hs]; split <;> omega
    have e3 := wo_canStep_e hk hS hc.wo hs2
    cases c : canS (zP o) (zS o) s with
    | false =>
      rw [c] at e3
      refine ⟨μ, ?_, hc, hr⟩
      simp only [↓ob_eq e0, ↓ob_eq (e2 μ), ↓ob_eq e3, b01I, nI_10, Bool.false_eq_true, ↓reduceIte]
    | true =>
      rw [c] at e3
      rw [if_pos rfl, if_pos rfl]
      obtain ⟨μ1, e4⟩ := wo_costsOf_e hk hc.wo hn
      have g1 := f_wo_costsOf e4
      have c1 : CCore μ1 p (zP o) (zS o) := hc.frn (fun r i k hh => g1.1 r i k (by
        cases e : inT (T_wo_costsOf 0) r i k with
        | false => rfl
        | true =>
          exfalso
          have := okS_f (T := T_wo_costsOf 0) rfl (r := r) (i := i) (k := k)
          obtain ⟨a, ha, hb⟩ := List.any_eq_true.mp e
          unfold T_wo_costsOf at ha
          unfold inA at hb
          unfold NdC at hh
          simp only [List.mem_cons, List.not_mem_nil, or_false] at ha
          rcases ha with rfl | rfl <;> (simp only [Bool.and_eq_true, beq_iff_eq] at hb; omega)))
      have r1 : RestC μ1 o := hr.fr g1 rfl
      obtain ⟨μ2, e5, r2, f2⟩ := r1.push hk c1.wo.st hN (up (stS (zS o) s) 32 (zS o 32 + costs (zP o) (zS o) n))
      have c2 : CCore μ2 p (zP o) (zS o) := c1.frn f2
      obtain ⟨μ3, e6, w3⟩ := wo_doStep_e hk hS c2.wo c
      have g3 := f_wo_doStep e6
      have h32 : mI μ3 26 2 6 = zS o 32 := (g3.I rfl).trans c2.wo.st.pd
      have w4 := w3.paid hk (zS o 32 + costs (zP o) (zS o) n)
      have g4 : Fr [(26, some 2, some 6)] μ3 (stI μ3 26 2 6 (zS o 32 + costs (zP o) (zS o) n)) := Fr.stI (Fr.rf _ _) (iT 0 rfl inA_es)
      obtain ⟨μ5, e7, w5, a5⟩ := wo_settle_e hk (up32_ok hk (stS_ok hk hS c) _) w4
      have g5 := f_wo_settle e7
      refine ⟨μ5, ?_, c2.mk ?_ ?_ w5 a5, (((show RestC μ2 (stpO o n s) from r2).fr g3 rfl).fr g4 rfl).fr g5 rfl⟩
      · simp only [↓ob_eq e0, ↓ob_eq (e2 μ), ↓ob_eq e3, b01I, nI_10, ↓ob_eq e4, ↓ob_eq e5, ↓ob_eq (e2 μ2), ↓ob_eq e6, h32, ↓ob_eq e7, ↓reduceIte]
      · rintro i k ⟨-, rfl | rfl⟩ <;> exact (g5.R rfl).trans ((g4.R rfl).trans (g3.R rfl))
      · exact (g5.R rfl).trans ((g4.R rfl).trans (g3.R rfl))
  · rw [a] at e0
    rw [if_neg (by rw [a]; decide), if_neg (by rw [a]; decide)]
    exact ⟨μ, by simp only [↓ob_eq e0, b01I, Bool.false_eq_true, ↓reduceIte], hc, hr⟩

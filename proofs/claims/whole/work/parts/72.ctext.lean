/-! the class reads a text -/
def lwOff (T : List At) : Bool := T.all (fun a => a.1 != 24 && (a.1 != 25 && (a.1 != 18 || (match a.2.2 with | some j => j != 11 | none => false))))
theorem lwOff_f {T : List At} (h : lwOff T = true) {r i k : Nat} (hr : r = 24 ∨ r = 25 ∨ (r = 18 ∧ k = 11)) : inT T r i k = false := by
  cases e : inT T r i k with
  | false => rfl
  | true =>
    exfalso
    obtain ⟨a, ha, hb⟩ := List.any_eq_true.mp e
    have h1 := List.all_eq_true.mp h a ha
    unfold inA at hb
    rw [Bool.and_eq_true, beq_iff_eq] at hb
    simp only [Bool.and_eq_true, Bool.or_eq_true, bne_iff_ne, ne_eq] at h1 hb
    obtain ⟨h1, h2, h3⟩ := h1
    obtain ⟨b1, b2, b3⟩ := hb
    rcases hr with hr | hr | ⟨hr, hk⟩
    · omega
    · omega
    · rcases h3 with h3 | h3
      · omega
      · cases z : a.2.2 with
        | none => rw [z] at h3; cases h3
        | some j =>
          rw [z] at h3 b3
          simp only [bne_iff_ne, ne_eq, beq_iff_eq] at h3 b3
          omega
theorem LwC.fr {ip : Nat} {μ μ' : Mem} {s r : Sg} {T : List At} (h : LwC ip μ s) (g : Fr T μ μ') (o : lwOff T = true) (t : yT s ≤ yT r) (w : yW r = yW s) : LwC ip μ' r := by
  obtain ⟨cs, l1, l2, l3⟩ := h
  refine ⟨cs, by omega, (g.I (lwOff_f o (by omega))).trans l2, fun k hk => ?_⟩
  obtain ⟨a, b1, b2, b3⟩ := l3 k hk
  rw [w]
  exact ⟨a, (g.I (lwOff_f o (by omega))).trans b1, b2, fun i hi => (g.I (lwOff_f o (by omega))).trans (b3 i hi)⟩
def CQ (Z : Tks) (ip : Nat) (s : Sg) (μ : Mem) : Prop := (CuC Z ip μ s ∧ PnC ip μ s) ∧ LwC ip μ s
theorem CX.lw {Z : Tks} {ip : Nat} {μ : Mem} {s : Sg} {f : Option (Int32 × Mem)} {e : Rs} {T : List At} (h : CX f (CP Z ip) e) (l : LwC ip μ s) (fr : ∀ z, f = some z → Fr T μ z.2) (o : lwOff T = true) (hI : ∀ r, e = .ok r → yT s ≤ yT r ∧ yW r = yW s) : CX f (CQ Z ip) e := by
  unfold CX at h ⊢
  cases e with
  | error φ => exact h
  | ok r =>
    obtain ⟨μ', h1, h2⟩ := h
    obtain ⟨t, w⟩ := hI r rfl
    exact ⟨μ', h1, h2, l.fr (fr _ h1) o t w⟩
theorem rd_readTell_e {Z : Tks} {ip : Nat} {μ : Mem} {s : Sg} (h : CuC Z ip μ s) (p : PnC ip μ s) (l : LwC ip μ s) (hs : SgI Z s) (hz : ZOK Z) (k0 : tkd Z (yT s) ≠ 43) : CX (rd_readTell μ) (CQ Z ip) (gTell Z s) := by
  have hi := h.2.1
  have k44 := hz.2.1 (yT s)
  have E0 : CX (rd_readLog μ) (CQ Z ip) (gLog Z s) := (rd_readLog_e h p hs hz k0).lw l (fun z e => f_rd_readLog hi e) rfl (fun r e => by obtain ⟨-, a, b, -⟩ := gLog_I hz hs k0 e; exact ⟨a, b⟩)
  have E1 : CX (rd_readField μ) (CQ Z ip) (gFld Z s) := (rd_readField_e h p hs hz k0).lw l (fun z e => f_rd_readField hi e) rfl (fun r e => by obtain ⟨-, a, b, -⟩ := gFld_I hz hs k0 e; exact ⟨a, b⟩)
  have E2 : CX (rd_readNotch μ) (CQ Z ip) (gNotch Z s) := (rd_readNotch_e h p hs hz k0).lw l (fun z e => f_rd_readNotch hi e) rfl (fun r e => by obtain ⟨-, a, b, -⟩ := gNotch_I hz hs k0 e; exact ⟨a, b⟩)
  have E3 : CX (rd_readDrain μ) (CQ Z ip) (gDrain Z s) := (rd_readDrain_e h p hs hz k0).lw l (fun z e => f_rd_readDrain hi e) rfl (fun r e => by obtain ⟨-, a, b, -⟩ := gDrain_I hz hs k0 e; exact ⟨a, b⟩)
  have E4 : CX (rd_readSpring μ) (CQ Z ip) (gSpring Z s) := (rd_readSpring_e h p hs hz k0).lw l (fun z e => f_rd_readSpring hi e) rfl (fun r e => by obtain ⟨-, a, b, -⟩ := gSpring_I hs k0 e; exact ⟨a, b⟩)
  have E9 : CX (rd_readSeed μ) (CQ Z ip) (gSeed Z s) := (rd_readSeed_e h p hs hz k0).lw l (fun z e => f_rd_readSeed hi e) rfl (fun r e => by obtain ⟨-, a, b, -⟩ := gSeed_I hs k0 e; exact ⟨a, b⟩)
  have F := rd_fail_e h hs (c := 1) (Or.inl rfl) (Q := CQ Z ip)
  unfold rd_readTell gTell
  rw [ob_eq (rd_kind_e h hs)]
  generalize hk : tkd Z (yT s) = k at *
  by_cases c0 : k = 0
  · subst c0; exact E0.t
  by_cases c1 : k = 1
  · subst c1; exact E1.t
  by_cases c2 : k = 2
  · subst c2; exact E2.t
  by_cases c3 : k = 3
  · subst c3; exact E3.t
  by_cases c4 : k = 4
  · subst c4; exact E4.t
  by_cases c9 : k = 9
  · subst c9; exact E9.t
  rw [if_neg c0, if_neg c1, if_neg c2, if_neg c3, if_neg c4, if_neg c9]
  have d : ∀ j, j < 44 → k ≠ j → ¬ nI k = nI j := fun j h1 h2 => nI_ne h2 (by omega) (by omega)
  rw [if_neg (nI_nlt (show 5 ≤ k by omega) (by omega))]
  by_cases c8 : k ≤ 8
  · have L := readLaw_e (k := k - 5) hz hs h p l (by rw [hk]; exact k0) (by omega)
    rw [if_pos (show 5 ≤ k ∧ k ≤ 8 by omega), if_neg (nI_nlt c8 (by omega)), pk_sub (by omega)]
    exact L.t
  · rw [if_neg (show ¬ (5 ≤ k ∧ k ≤ 8) by omega), if_pos (nI_lt (show 8 < k by omega) (by omega)), if_neg (d 0 (by omega) c0), if_neg (d 1 (by omega) c1), if_neg (d 2 (by omega) c2), if_neg (d 3 (by omega) c3), if_neg (d 4 (by omega) c4), if_neg (d 9 (by omega) c9)]
    exact F.t
theorem CuC.rank {Z : Tks} {ip : Nat} {μ : Mem} {s : Sg} (h : CuC Z ip μ s) : mI μ 12 0 5 = nI (yL s).1 := h.2.2.2.2.1
/-- what comes out of a text: fault, place, plan and state -/
def rdF (Z : Tks) : Nat × Int32 := match gText Z with
  | .error φ => φ
  | .ok s => yL s
theorem tells_e {Z : Tks} {ip : Nat} (hz : ZOK Z) : ∀ (f : Nat) (s : Sg) (μ : Mem) (fuel i : Nat), f < fuel → i + f = 401 → i ≤ yT s → SgI Z s → CuC Z ip μ s → PnC ip μ s → LwC ip μ s → ∃ μ', fixN (fun _ _ _ => none) (rd_readText_r11_B52 (fun (μ38 : Mem) =>
if (mI μ38 12 0 0) = (nI 0) then
mb (stI (stI μ38 12 0 0 (mI μ38 12 0 5)) 12 0 1 (mI (stI μ38 12 0 0 (mI μ38 12 0 5)) 12 0 6)) fun μ45 =>
some ((mI μ45 12 0 0), μ45) else
some ((mI μ38 12 0 0), μ38))) fuel (nI 1) (nI i) μ = some (nI (match gTells Z f s with | .error φ => φ.1 | .ok s => (yL s).1), μ') ∧ mI μ' 12 0 1 = (match gTells Z f s with | .error φ => φ.2 | .ok s => (yL s).2) ∧ (∀ φ, gTells Z f s = .error φ → φ.1 = 1 ∨ φ.1 = 2) ∧ ∀ r, gTells Z f s = .ok r → PnC ip μ' r ∧ LwC ip μ' r := by
  have fin : ∀ (s : Sg) (μ : Mem), CuC Z ip μ s → PnC ip μ s → LwC ip μ s → ∃ μ', (if (mI μ 12 0 0) = (nI 0) then
mb (stI (stI μ 12 0 0 (mI μ 12 0 5)) 12 0 1 (mI (stI μ 12 0 0 (mI μ 12 0 5)) 12 0 6)) fun μ45 =>
some ((mI μ45 12 0 0), μ45) else
some ((mI μ 12 0 0), μ)) = some (nI (yL s).1, μ') ∧ mI μ' 12 0 1 = (yL s).2 ∧ PnC ip μ' s ∧ LwC ip μ' s := fun s μ h p l => by
    obtain ⟨a, b, c, d, e, f⟩ := h
    have g : Fr [(12, none, none)] μ (stI (stI μ 12 0 0 (nI (yL s).1)) 12 0 1 (yL s).2) := Fr.stI (Fr.stI (Fr.rf _ _) (iT 0 rfl inA_nn)) (iT 0 rfl inA_nn)
    refine ⟨stI (stI μ 12 0 0 (nI (yL s).1)) 12 0 1 (yL s).2, ?_, ?_, p.fr g rfl, l.fr g rfl (Nat.le_refl _) rfl⟩
    · have f1 : mI (stI μ 12 0 0 (nI (yL s).1)) 12 0 6 = (yL s).2 := by rw [mI_stI, if_neg (by omega)]; exact f
      rw [if_pos d, e, f1, mb_e, mI_stI, if_neg (by omega), mI_stI, if_pos ⟨rfl, rfl, rfl⟩]
    · rw [mI_stI, if_pos ⟨rfl, rfl, rfl⟩]
  intro f
  induction f with
  | zero =>
    intro s μ fuel i hf hi hit hs h p l
    have := hs.2.2.2.2.2.2.2.1
    omega
  | succ f ih =>
    intro s μ fuel i hf hi hit hs h p l
    obtain ⟨fu, rfl⟩ : ∃ fu, fuel = fu + 1 := ⟨fuel - 1, by omega⟩
    have k44 := hz.2.1 (yT s)
    rw [fixN_s]
    unfold rd_readText_r11_B52 gTells
    rw [if_neg (nI_nlt (show i ≤ 400 by omega) (by omega)), if_neg nI_1n0, ob_eq (rd_kind_e h hs)]
    by_cases c : tkd Z (yT s) = 43
    · rw [if_pos c, if_pos (congrArg nI c)]
      obtain ⟨μ', a, b, d, e⟩ := fin s μ h p l
      exact ⟨μ', a, b, fun φ z => by (cases z), fun r z => by (cases z; exact ⟨d, e⟩)⟩
    · have tl := rd_readTell_e h p l hs hz c
      rw [if_neg c, if_neg (nI_ne c (by omega) (by omega))]
      unfold CX at tl
      cases e : gTell Z s with
      | error φ =>
        rw [e] at tl
        obtain ⟨μ', t1, t2, t3, t4⟩ := tl
        obtain ⟨fv, hfv⟩ : ∃ fv, fu = fv + 1 := ⟨fu - 1, by omega⟩
        subst hfv
        rw [ob_eq t1, nI_add, fixN_s]
        refine ⟨μ', ?_, t3, fun ψ z => ?_, fun r z => by (cases z)⟩
        · have hφ : ¬ φ.1 = 0 := by omega
          by_cases ci : i + 1 ≤ 400
          · rw [if_neg (nI_nlt ci (by omega)), if_pos (show nI 0 = nI 0 from rfl)]
            dsimp only
            rw [t2, if_neg (nI_ne hφ (by omega) (by omega))]; rfl
          · rw [if_pos (nI_lt (show 400 < i + 1 by omega) (by omega))]
            dsimp only
            rw [t2, if_neg (nI_ne hφ (by omega) (by omega))]; rfl
        · cases z; exact t4
      | ok r =>
        rw [e] at tl
        obtain ⟨μ', t1, ⟨t2, t3⟩, t4⟩ := tl
        obtain ⟨hs2, -, -⟩ := gTell_I hz hs c e
        have lt := gTell_lt hz hs c e
        rw [ob_eq t1, nI_add]
        exact ih r μ' fu (i + 1) (by omega) (by omega) (by omega) hs2 t2 t3 t4

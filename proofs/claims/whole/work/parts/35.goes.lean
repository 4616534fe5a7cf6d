/-! days go by, on both sides -/
theorem siS_k (P : Pl) (lots : Int32) (still : Bool) (S0 S : Nat → Int32) {i k : Nat} (h : k < 18 ∨ 18 + i ≤ k) : siS P lots still S0 S i k = S k := if_neg (by omega)
theorem siS_0 {P : Pl} {lots : Int32} {still : Bool} {S0 S : Nat → Int32} {i : Nat} (h : ∀ n, n < i → stp P lots still S0 n = false) : siS P lots still S0 S i = S := funext fun k => if_neg (fun z => by
  have := h (k - 18) (by omega)
  rw [z.2.2] at this; cases this)
theorem stp_w {P : Pl} {lots : Int32} {still : Bool} {S : Nat → Int32} {n : Nat} (h : stp P lots still S n = true) : 0 < sW S n := by
  unfold stp at h
  rw [Bool.and_eq_true, Bool.and_eq_true, decide_eq_true_eq] at h
  exact h.2.1
theorem siS_ok {P : Pl} {lots : Int32} {still : Bool} {S0 S : Nat → Int32} (hk : PlOK P) (hS : StOK P S) : StOK P (siS P lots still S0 S (pNo P)) := by
  have k2 := hk.2.1
  have k3 := hk.2.2.1
  refine ⟨fun n hn => ?_, fun f hf => ?_, ?_⟩
  · obtain ⟨a, b⟩ := hS.1 n hn
    unfold sW at a b ⊢
    by_cases z : stp P lots still S0 n = true
    · have e : siS P lots still S0 S (pNo P) (18 + n) = nI (sW S n - 1) := by
        show (if _ then _ else _) = _
        rw [if_pos ⟨by omega, by omega, by rw [show 18 + n - 18 = n by omega]; exact z⟩, show 18 + n - 18 = n by omega]
      rw [e]
      unfold sW
      rw [cl_nI (by omega)]
      exact ⟨rfl, by omega⟩
    · have e : siS P lots still S0 S (pNo P) (18 + n) = S (18 + n) := if_neg (fun y => z (by have := y.2.2; rw [show 18 + n - 18 = n by omega] at this; exact this))
      rw [e]; exact ⟨a, b⟩
  · have := hS.2.1 f hf
    unfold sQ sD sG at this ⊢
    rw [siS_k _ _ _ _ _ (Or.inl (by omega)), siS_k _ _ _ _ _ (Or.inl (by omega)), siS_k _ _ _ _ _ (Or.inl (by omega))]; exact this
  · have := hS.2.2
    unfold sS at this ⊢
    rw [siS_k _ _ _ _ _ (Or.inr (by omega))]; exact this
theorem up31_ok {P : Pl} {S : Nat → Int32} (hk : PlOK P) (hS : StOK P S) (v : Int32) : StOK P (up S 31 v) := by
  have k2 := hk.2.1
  have k3 := hk.2.2.1
  refine ⟨fun n hn => ?_, fun f hf => ?_, ?_⟩
  · have := hS.1 n hn
    unfold sW at this ⊢
    rw [up_n _ _ (by omega)]; exact this
  · have := hS.2.1 f hf
    unfold sQ sD sG at this ⊢
    rw [up_n _ _ (by omega), up_n _ _ (by omega), up_n _ _ (by omega)]; exact this
  · have := hS.2.2
    unfold sS at this ⊢
    rw [up_n _ _ (by omega)]; exact this
theorem dayS_ok {P : Pl} {lots : Int32} {still : Bool} {S : Nat → Int32} (hk : PlOK P) (hS : StOK P S) : StOK P (dayS P lots still S) := up31_ok hk (siS_ok hk (gwS_ok hk hS (Nat.le_refl _))) _
theorem daysS_ok {P : Pl} {lots : Int32} {still : Bool} {S : Nat → Int32} (hk : PlOK P) (hS : StOK P S) : ∀ n, StOK P (daysS P lots still S n)
  | 0 => hS
  | n + 1 => dayS_ok hk (daysS_ok hk hS n)
theorem Ag.tr {A B C : Nat → Int32} (h : Ag A B) (g : Ag B C) : Ag A C := ⟨fun k hk => (g.1 k hk).trans (h.1 k hk), fun k a b => (g.2 k a b).trans (h.2 k a b)⟩
theorem Ag.up31 (S : Nat → Int32) {k : Nat} (hk : k = 31 ∨ k = 32) (v : Int32) : Ag S (up S k v) := ⟨fun j hj => up_n _ _ (by omega), fun j a b => up_n _ _ (by omega)⟩
/-- a day without a stop leaves the water as it is -/
theorem dayS_ag {P : Pl} {lots : Int32} {still : Bool} {S : Nat → Int32} (hk : PlOK P) (h : ∀ n, n < pNo P → stp P lots still S n = false) : Ag S (dayS P lots still S) := by
  have k2 := hk.2.1
  unfold dayS
  rw [siS_0 h]
  exact Ag.tr (gwS_ag P S _ k2) (Ag.up31 _ (Or.inl rfl) _)
theorem WaC.eq {μ μ' : Mem} {w : Nat} {P : Pl} {S : Nat → Int32} (h : WaC μ w P S) (e : ∀ r k, 32 ≤ r → r ≤ 35 → mI μ' r w k = mI μ r w k ∧ mL μ' r w k = mL μ r w k) : WaC μ' w P S := by
  refine ⟨(e 32 0 (by decide) (by decide)).1.trans h.fl, (e 32 1 (by decide) (by decide)).2.trans h.un, (e 32 2 (by decide) (by decide)).2.trans h.ri, (e 32 3 (by decide) (by decide)).2.trans h.kp, (e 32 4 (by decide) (by decide)).2.trans h.dn, fun l hl => (e 33 l (by decide) (by decide)).2.trans (h.lo hl), fun f hf => (e 34 f (by decide) (by decide)).2.trans (h.fo hf), fun f hf => (e 35 f (by decide) (by decide)).1.trans (h.fw hf)⟩
theorem WoC.day {μ : Mem} {w p : Nat} {P : Pl} {S : Nat → Int32} (hk : PlOK P) (h : WoC μ w p P S) (v : Int32) : WoC (stI μ 26 (w + 2) 5 v) w p P (up S 31 v) := by
  have k2 := hk.2.1
  have k3 := hk.2.2.1
  refine ⟨h.p2, h.r, h.pl, h.la, fun n hn => ?_, fun f hf => ⟨?_, ?_, ?_⟩, ?_, ?_, ?_⟩
  · rw [up_n _ _ (by omega)]; exact h.st.wi hn
  · rw [up_n _ _ (by omega)]; exact h.st.dr hf
  · rw [up_n _ _ (by omega)]; exact h.st.qu hf
  · rw [up_n _ _ (by omega)]; exact h.st.gr hf
  · rw [up_n _ _ (by omega), mI_stI, if_neg (by omega)]; exact h.st.sp
  · rw [up_s, mI_stI, if_pos ⟨rfl, rfl, rfl⟩]
  · rw [up_n _ _ (by omega), mI_stI, if_neg (by omega)]; exact h.st.pd
theorem wo_passDays_e {μ : Mem} {w p : Nat} {P : Pl} {S : Nat → Int32} {seed : Int32} {si : Bool} {n : Nat} (hn : n < 1000) (hk : PlOK P) (hS : StOK P S) (h : WoC μ w p P S) (hw : WaC μ w P S) : ∃ μ', wo_passDays w (nI n) seed (b01I si) μ = some ((), μ') ∧ WoC μ' w p P (daysS P seed (!si) S n) ∧ WaC μ' w P (daysS P seed (!si) S n) := by
  have k2 := hk.2.1
  have k3 := hk.2.2.1
  refine fixN_up (fun i (self : Int32 → Mem → Option (Unit × Mem)) => ∀ μ, WoC μ w p P (daysS P seed (!si) S i) → WaC μ w P (daysS P seed (!si) S i) → ∃ μ', self (nI i) μ = some ((), μ') ∧ WoC μ' w p P (daysS P seed (!si) S n) ∧ WaC μ' w P (daysS P seed (!si) S n)) n ?_ ?_ 60000 0 (by omega) (by omega) μ h hw
  · intro i self hi ih μ h hw
    have hSi := daysS_ok (lots := seed) (still := !si) hk hS i
    generalize hT : daysS P seed (!si) S i = T at h hw hSi
    have hT1 : daysS P seed (!si) S (i + 1) = dayS P seed (!si) T := by rw [← hT]; rfl
    rw [hT1] at ih
    obtain ⟨μ1, e1, W1, A1⟩ := wo_grow_e hk hSi h hw
    have hg31 : gwS P T (pFd P) 31 = T 31 := if_neg (by omega)
    have d1 := W1.st.da
    rw [hg31] at d1
    unfold wo_passDays_B3
    by_cases c : si = true
    · subst c
      have ag0 := gwS_ag P T (pFd P) k2
      obtain ⟨μ2, e2, W2, keep⟩ := wo_silt_e (S0 := T) (seed := seed) hk (gwS_ok hk hSi (Nat.le_refl _)) W1 (fun n hn => ag0.2 _ (by omega) (by omega)) hg31
      have A2 := A1.eq keep
      have hs31 : siS P seed false T (gwS P T (pFd P)) (pNo P) 31 = T 31 := (siS_k _ _ _ _ _ (Or.inr (by omega))).trans hg31
      have d2 := W2.st.da
      rw [hs31] at d2
      have W3 := W2.day hk (T 31 + nI 1)
      have hD : up (siS P seed false T (gwS P T (pFd P)) (pNo P)) 31 (T 31 + nI 1) = dayS P seed (!true) T := rfl
      rw [hD] at W3
      by_cases c2 : anyB (pNo P) (stp P seed false T) = true
      · rw [b01I_t c2] at e2
        obtain ⟨μ4, e4, W4, A4⟩ := wo_settle_e hk (dayS_ok hk hSi) W3
        simp (disch := omega) only [nI_leF, ↓ob_eq e1, b01I, nI_10, ↓ob_eq e2, d2, ↓mb_e, ↓ob_eq e4, nI_add, ↓reduceIte]
        exact ih μ4 W4 A4
      · rw [b01I_f c2] at e2
        have hno : ∀ n, n < pNo P → stp P seed (!true) T n = false := fun n hn => by
          cases e : stp P seed (!true) T n
          · rfl
          · exact absurd (anyB_iff.mpr ⟨n, hn, e⟩) c2
        simp (disch := omega) only [nI_leF, ↓ob_eq e1, b01I, nI_10, ↓ob_eq e2, d2, ↓mb_e, nI_add, ↓reduceIte]
        refine ih _ W3 ?_
        have A3 : WaC (stI μ2 26 (w + 2) 5 (T 31 + nI 1)) w P (gwS P T (pFd P)) := A2
        refine A3.ag hk ?_
        unfold dayS
        rw [siS_0 hno]
        exact Ag.up31 _ (Or.inl rfl) _
    · have c' : si = false := by simpa using c
      subst c'
      have hno : ∀ n, n < pNo P → stp P seed (!false) T n = false := fun n _ => rfl
      have hD : up (gwS P T (pFd P)) 31 (T 31 + nI 1) = dayS P seed (!false) T := by unfold dayS; rw [siS_0 hno]
      have W3 := W1.day hk (T 31 + nI 1)
      rw [hD] at W3
      simp (disch := omega) only [nI_leF, ↓ob_eq e1, b01I, Bool.false_eq_true, d1, ↓mb_e, nI_add, ↓reduceIte]
      refine ih _ W3 ?_
      have A3 : WaC (stI μ1 26 (w + 2) 5 (T 31 + nI 1)) w P (gwS P T (pFd P)) := A1
      rw [← hD]
      exact A3.ag hk (Ag.up31 _ (Or.inl rfl) _)
  · intro self μ h hw
    unfold wo_passDays_B3
    simp (disch := omega) only [nI_leT, ↓reduceIte]
    exact ⟨μ, rfl, h, hw⟩
theorem LaM.st89 {μ : Mem} {lv : Nat} {P : Pl} (h : LaM μ lv P) (k : Nat) (v : Int32) : LaM (stI μ 89 0 k v) lv P := h.fo (T := [(89, none, none)]) (Fr.stI (Fr.rf _ _) (iT 0 rfl inA_nn)) rfl
theorem LaM.st94 {μ : Mem} {lv : Nat} {P : Pl} (h : LaM μ lv P) (k : Nat) (v : Int32) : LaM (stI μ 94 0 k v) lv P := h.fo (T := [(94, none, none)]) (Fr.stI (Fr.rf _ _) (iT 0 rfl inA_nn)) rfl
theorem RwM.up {μ : Mem} {S : Nat → Int32} (h : RwM μ S) (j : Nat) (v : Int32) : RwM (stI μ 89 0 j v) (up S j v) := fun k hk => by
  rw [mI_stI]
  by_cases e : k = j
  · subst e; rw [if_pos ⟨rfl, rfl, rfl⟩, up_s]
  · rw [if_neg (fun z => e z.2.2), up_n _ _ e]; exact h k hk
theorem m_dayGoes_e {μ : Mem} {lv : Nat} {P : Pl} {S : Nat → Int32} {lots : Int32} {still : Bool} (hk : PlOK P) (hS : StOK P S) (h : MoW μ lv P S) (hw : WaM μ P S) (h52 : mI μ 55 0 52 = lots) (h53 : mI μ 55 0 53 = b01I still) : ∃ μ', m_dayGoes μ = some ((), μ') ∧ MoW μ' lv P (dayS P lots still S) ∧ WaM μ' P (dayS P lots still S) := by
  have k2 := hk.2.1
  have k3 := hk.2.2.1
  have hl2 := h.pl.l2
  -- the end: the day, the water
  have EN : ∀ (μ : Mem), MoW μ lv P (siS P lots still S (gwS P S (pFd P)) (pNo P)) → WaM μ P S → ∃ ν, (mb (stI μ 89 0 31 ((mI μ 89 0 31) + (nI 1))) fun μ88 => if (bitI (pNo P) (stp P lots still S)) = (nI 0) then some ((), μ88) else ob (m_parts μ88) fun _ μ94 => some ((), μ94)) = some ((), ν) ∧ MoW ν lv P (dayS P lots still S) ∧ WaM ν P (dayS P lots still S) := by
    intro μ h hw
    have h31 : mI μ 89 0 31 = S 31 := by rw [h.rw 31 (by decide), siS_k _ _ _ _ _ (Or.inr (by omega))]; exact if_neg (by omega)
    rw [h31]
    have M1 : MoW (stI μ 89 0 31 (S 31 + nI 1)) lv P (dayS P lots still S) := ⟨h.pl, h.la.st89 _ _, h.rw.up 31 _⟩
    by_cases c : bitI (pNo P) (stp P lots still S) = nI 0
    · have hno := (bitI_0 (show pNo P ≤ 31 by omega)).mp c
      simp only [↓mb_e, c, ↓reduceIte]
      have A1 : WaM (stI μ 89 0 31 (S 31 + nI 1)) P S := hw
      exact ⟨_, rfl, M1, A1.ag hk (dayS_ag hk hno)⟩
    · obtain ⟨μ2, e2, A2⟩ := m_parts_e hk (dayS_ok hk hS) M1.pl M1.rw
      simp only [↓mb_e, c, ↓ob_eq e2, ↓reduceIte]
      exact ⟨_, rfl, M1.fo (f_m_parts e2) rfl rfl, A2⟩
  -- the widths
  have L155 : ∀ (μ : Mem), MoW μ lv P (gwS P S (pFd P)) → WaM μ P S → ∃ ν, m_dayGoes_L155 (bitI (pNo P) (stp P lots still S)) (fun (μ84 : Mem) => mb (stI μ84 89 0 31 ((mI μ84 89 0 31) + (nI 1))) fun μ88 => if (bitI (pNo P) (stp P lots still S)) = (nI 0) then some ((), μ88) else ob (m_parts μ88) fun _ μ94 => some ((), μ94)) (nI 0) μ = some ((), ν) ∧ MoW ν lv P (dayS P lots still S) ∧ WaM ν P (dayS P lots still S) := by
    intro μ h hw
    have z0 : siS P lots still S (gwS P S (pFd P)) 0 = gwS P S (pFd P) := funext fun k => if_neg (by omega)
    refine fixN_up (fun i (self : Int32 → Mem → Option (Unit × Mem)) => ∀ μ, MoW μ lv P (siS P lots still S (gwS P S (pFd P)) i) → WaM μ P S → ∃ ν, self (nI i) μ = some ((), ν) ∧ MoW ν lv P (dayS P lots still S) ∧ WaM ν P (dayS P lots still S)) (pNo P) ?_ ?_ 60000 0 (by omega) (by omega) μ (by rw [z0]; exact h) hw
    · intro i self hi ih μ h hw
      obtain ⟨w1, w2⟩ := hS.1 i hi
      have hgi : gwS P S (pFd P) (18 + i) = S (18 + i) := if_neg (by omega)
      have hrow : mI μ 89 0 (18 + i) = nI (sW S i) := by rw [h.rw _ (by omega), siS_k _ _ _ _ _ (Or.inr (Nat.le_refl _)), hgi, w1]
      have ht := tstN (stp P lots still S) (show pNo P ≤ 31 by omega) hi
      unfold m_dayGoes_B155
      by_cases c : stp P lots still S i = true
      · have hpos := stp_w c
        rw [if_pos c] at ht
        simp (disch := omega) only [h.pl.lv, inB_nI, cl_nI, h.pl.no, nI_leF, nI_add, hrow, ht, pk_sub, ↓mb_e, ↓reduceIte]
        have ext : siS P lots still S (gwS P S (pFd P)) (i + 1) = up (siS P lots still S (gwS P S (pFd P)) i) (18 + i) (nI (sW S i - 1)) := funext fun k => by
          unfold up
          by_cases e : k = 18 + i
          · rw [if_pos e, e]
            have hsg : sW (gwS P S (pFd P)) i = sW S i := by unfold sW; rw [hgi]
            show (if _ then _ else _) = _
            rw [if_pos ⟨by omega, by omega, by rw [show 18 + i - 18 = i by omega]; exact c⟩, show 18 + i - 18 = i by omega, hsg]
          · rw [if_neg e]
            exact if_c ⟨fun z => ⟨z.1, by omega, z.2.2⟩, fun z => ⟨z.1, by omega, z.2.2⟩⟩ _ _
        refine ih _ ⟨h.pl, h.la.st89 _ _, ?_⟩ hw
        rw [ext]
        exact h.rw.up _ _
      · rw [if_neg c] at ht
        simp (disch := omega) only [h.pl.lv, inB_nI, cl_nI, h.pl.no, nI_leF, nI_add, hrow, ht, pk_sub, Nat.sub_zero, ↓mb_e, ↓reduceIte]
        have ext : siS P lots still S (gwS P S (pFd P)) (i + 1) = siS P lots still S (gwS P S (pFd P)) i := funext fun k => by
          refine if_c ⟨fun y => ⟨y.1, ?_, y.2.2⟩, fun y => ⟨y.1, by omega, y.2.2⟩⟩ _ _
          by_cases e : k = 18 + i
          · have := y.2.2
            rw [e, show 18 + i - 18 = i by omega] at this
            exact absurd this c
          · omega
        refine ih _ ⟨h.pl, h.la.st89 _ _, ?_⟩ hw
        rw [ext]
        intro k hk
        rw [mI_stI]
        by_cases e : k = 18 + i
        · subst e; rw [if_pos ⟨rfl, rfl, rfl⟩, siS_k _ _ _ _ _ (Or.inr (Nat.le_refl _)), hgi, w1]
        · rw [if_neg (fun z => e z.2.2)]; exact h.rw k hk
    · intro self μ h hw
      unfold m_dayGoes_B155
      simp (disch := omega) only [h.pl.lv, inB_nI, cl_nI, h.pl.no, nI_leT, ↓reduceIte]
      exact EN μ h hw
  -- what has grown
  have L102 : ∀ (μ : Mem), MoW μ lv P S → WaM μ P S → (∀ f, f < pFd P → mI μ 94 0 f = worth P S f) → ∃ ν, m_dayGoes_L102 (bitI (pNo P) (stp P lots still S)) (fun (μ70 : Mem) => m_dayGoes_L155 (bitI (pNo P) (stp P lots still S)) (fun (μ84 : Mem) => mb (stI μ84 89 0 31 ((mI μ84 89 0 31) + (nI 1))) fun μ88 => if (bitI (pNo P) (stp P lots still S)) = (nI 0) then some ((), μ88) else ob (m_parts μ88) fun _ μ94 => some ((), μ94)) (nI 0) μ70) (nI 0) μ = some ((), ν) ∧ MoW ν lv P (dayS P lots still S) ∧ WaM ν P (dayS P lots still S) := by
    intro μ h hw h94
    have z0 : gwS P S 0 = S := funext fun k => if_neg (by omega)
    refine fixN_up (fun i (self : Int32 → Mem → Option (Unit × Mem)) => ∀ μ, MoW μ lv P (gwS P S i) → WaM μ P S → (∀ f, f < pFd P → mI μ 94 0 f = worth P S f) → ∃ ν, self (nI i) μ = some ((), ν) ∧ MoW ν lv P (dayS P lots still S) ∧ WaM ν P (dayS P lots still S)) (pFd P) ?_ ?_ 60000 0 (by omega) (by omega) μ (by rw [z0]; exact h) hw h94
    · intro i self hi ih μ h hw h94
      have hrow : mI μ 89 0 (12 + i) = S (12 + i) := by rw [h.rw _ (by omega)]; exact if_neg (by omega)
      have e1 := m_within_e (m := 9999) (S (12 + i) + worth P S i) μ
      unfold m_dayGoes_B102
      simp (disch := omega) only [h.pl.lv, inB_nI, cl_nI, h.pl.fd, nI_leF, nI_add, hrow, h94 i hi, ↓ob_eq e1, ↓reduceIte]
      have ext : gwS P S (i + 1) = up (gwS P S i) (12 + i) (held (nI 9999) (S (12 + i) + worth P S i)) := funext fun k => by
        unfold up
        by_cases e : k = 12 + i
        · rw [if_pos e, e]
          show (if _ then _ else _) = _
          rw [if_pos ⟨by omega, by omega⟩, show 12 + i - 12 = i by omega]
        · rw [if_neg e]
          exact if_c ⟨fun z => ⟨z.1, by omega⟩, fun z => ⟨z.1, by omega⟩⟩ _ _
      refine ih _ ⟨h.pl, h.la.st89 _ _, ?_⟩ hw h94
      rw [ext]
      exact h.rw.up _ _
    · intro self μ h hw h94
      unfold m_dayGoes_B102
      simp (disch := omega) only [h.pl.lv, inB_nI, cl_nI, h.pl.fd, nI_leT, ↓reduceIte]
      exact L155 μ h hw
  -- which are stopped
  have L36 : ∀ (μ : Mem), MoW μ lv P S → WaM μ P S → mI μ 55 0 52 = lots → mI μ 55 0 53 = b01I still → (∀ f, f < pFd P → mI μ 94 0 f = worth P S f) → ∃ ν, m_dayGoes_L36 (fun (x50 : Int32) (μ51 : Mem) => m_dayGoes_L102 x50 (fun (μ70 : Mem) => m_dayGoes_L155 x50 (fun (μ84 : Mem) => mb (stI μ84 89 0 31 ((mI μ84 89 0 31) + (nI 1))) fun μ88 => if x50 = (nI 0) then some ((), μ88) else ob (m_parts μ88) fun _ μ94 => some ((), μ94)) (nI 0) μ70) (nI 0) μ51) (nI 0) (nI 0) μ = some ((), ν) ∧ MoW ν lv P (dayS P lots still S) ∧ WaM ν P (dayS P lots still S) := by
    intro μ h hw h52 h53 h94
    refine fixN_up (fun i (self : Int32 → Int32 → Mem → Option (Unit × Mem)) => ∀ μ, MoW μ lv P S → WaM μ P S → mI μ 55 0 52 = lots → mI μ 55 0 53 = b01I still → (∀ f, f < pFd P → mI μ 94 0 f = worth P S f) → ∃ ν, self (bitI i (stp P lots still S)) (nI i) μ = some ((), ν) ∧ MoW ν lv P (dayS P lots still S) ∧ WaM ν P (dayS P lots still S)) (pNo P) ?_ ?_ 60000 0 (by omega) (by omega) μ h hw h52 h53 h94
    · intro i self hi ih μ h hw h52 h53 h94
      obtain ⟨w1, w2⟩ := hS.1 i hi
      have st0 : stp P lots still S i = false → bitI (i + 1) (stp P lots still S) = bitI i (stp P lots still S) := fun z => by rw [bitI_s, z]; rfl
      unfold m_dayGoes_B36
      by_cases c0 : still = true
      · have hst : stp P lots still S i = false := by unfold stp; rw [c0]; rfl
        rw [b01I_t c0] at h53
        simp (disch := omega) only [h.pl.lv, inB_nI, cl_nI, h.pl.no, nI_leF, h53, nI_10, nI_add, ↓reduceIte]
        have := ih μ h hw h52 (by rw [b01I_t c0]; exact h53) h94
        rw [st0 hst] at this
        exact this
      · have h53' := h53
        rw [b01I_f c0] at h53'
        have hs0 : still = false := by simpa using c0
        have e3 := m_wideAt_e h.rw (show i < 12 by omega)
        rw [w1] at e3
        by_cases c1 : 0 < sW S i
        · have e4 := m_lotOf_e (nI 16 * S 31 + nI i) μ
          rw [h52] at e4
          obtain ⟨μ1, e5⟩ := m_siltsOf_e hk h hi
          have g5 := f_m_siltsOf e5
          have M1 := h.fo g5 rfl rfl
          have A1 := hw.fo g5 rfl rfl rfl
          have q52 : mI μ1 55 0 52 = lots := (g5.I rfl).trans h52
          have q53 : mI μ1 55 0 53 = b01I still := (g5.I rfl).trans h53
          have q94 : ∀ f, f < pFd P → mI μ1 94 0 f = worth P S f := fun f hf => (g5.I rfl).trans (h94 f hf)
          have h31 := h.rw 31 (by decide)
          by_cases c2 : lotV lots (nI 16 * S 31 + nI i) < silts P S i
          · have hst : stp P lots still S i = true := by unfold stp; rw [hs0, decide_eq_true c1, decide_eq_true c2]; rfl
            have c3 : (silts P S i ≤ lotV lots (nI 16 * S 31 + nI i)) = False := eq_false (Int32.not_le.mpr c2)
            simp (disch := omega) only [h.pl.lv, inB_nI, cl_nI, h.pl.no, nI_leF, h53', ↓ob_eq e3, h31, ↓ob_eq e4, ↓ob_eq e5, c3, nI_add, ↓reduceIte]
            have := ih μ1 M1 A1 q52 q53 q94
            rw [bitI_s, if_pos hst] at this
            exact this
          · have hst : stp P lots still S i = false := by unfold stp; rw [decide_eq_false c2, Bool.and_false, Bool.and_false]
            have c3 : (silts P S i ≤ lotV lots (nI 16 * S 31 + nI i)) = True := eq_true (Int32.not_lt.mp c2)
            simp (disch := omega) only [h.pl.lv, inB_nI, cl_nI, h.pl.no, nI_leF, h53', ↓ob_eq e3, h31, ↓ob_eq e4, ↓ob_eq e5, c3, nI_add, ↓reduceIte]
            have := ih μ1 M1 A1 q52 q53 q94
            rw [st0 hst] at this
            exact this
        · have hst : stp P lots still S i = false := by unfold stp; rw [decide_eq_false c1, Bool.false_and, Bool.and_false]
          simp (disch := omega) only [h.pl.lv, inB_nI, cl_nI, h.pl.no, nI_leF, nI_leT, h53', ↓ob_eq e3, nI_add, ↓reduceIte]
          have := ih μ h hw h52 h53 h94
          rw [st0 hst] at this
          exact this
    · intro self μ h hw h52 h53 h94
      unfold m_dayGoes_B36
      simp (disch := omega) only [h.pl.lv, inB_nI, cl_nI, h.pl.no, nI_leT, ↓reduceIte]
      exact L102 μ h hw h94
  unfold m_dayGoes
  refine fixN_up (fun i (self : Int32 → Mem → Option (Unit × Mem)) => ∀ μ, MoW μ lv P S → WaM μ P S → mI μ 55 0 52 = lots → mI μ 55 0 53 = b01I still → (∀ f, f < i → mI μ 94 0 f = worth P S f) → ∃ ν, self (nI i) μ = some ((), ν) ∧ MoW ν lv P (dayS P lots still S) ∧ WaM ν P (dayS P lots still S)) (pFd P) ?_ ?_ 60000 0 (by omega) (by omega) μ h hw h52 h53 (fun f hf => by omega)
  · intro i self hi ih μ h hw h52 h53 h94
    obtain ⟨μ1, e1⟩ := m_worthOf_e hk hS h hw hi
    have g1 := f_m_worthOf e1
    have M1 := h.fo g1 rfl rfl
    have A1 := hw.fo g1 rfl rfl rfl
    unfold m_dayGoes_B4
    simp (disch := omega) only [h.pl.lv, inB_nI, cl_nI, h.pl.fd, nI_leF, ↓ob_eq e1, nI_add, ↓reduceIte]
    refine ih _ ⟨M1.pl, M1.la.st94 _ _, M1.rw⟩ A1 ((g1.I rfl).trans h52) ((g1.I rfl).trans h53) (fun f hf => ?_)
    rw [mI_stI]
    by_cases e : f = i
    · subst e; rw [if_pos ⟨rfl, rfl, rfl⟩]
    · rw [if_neg (fun z => e z.2.2), g1.I rfl]; exact h94 f (by omega)
  · intro self μ h hw h52 h53 h94
    unfold m_dayGoes_B4
    simp (disch := omega) only [h.pl.lv, inB_nI, cl_nI, h.pl.fd, nI_leT, ↓reduceIte]
    exact L36 μ h hw h52 h53 h94
theorem m_goes_e {μ : Mem} {lv : Nat} {P : Pl} {S : Nat → Int32} {lots : Int32} {still : Bool} {n : Nat} (hn : n < 1000) (hk : PlOK P) (hS : StOK P S) (h : MoW μ lv P S) (hw : WaM μ P S) (h52 : mI μ 55 0 52 = lots) (h53 : mI μ 55 0 53 = b01I still) : ∃ μ', m_goes (nI n) μ = some ((), μ') ∧ MoW μ' lv P (daysS P lots still S n) ∧ WaM μ' P (daysS P lots still S n) := by
  refine fixN_up (fun i (self : Int32 → Mem → Option (Unit × Mem)) => ∀ μ, MoW μ lv P (daysS P lots still S i) → WaM μ P (daysS P lots still S i) → mI μ 55 0 52 = lots → mI μ 55 0 53 = b01I still → ∃ ν, self (nI i) μ = some ((), ν) ∧ MoW ν lv P (daysS P lots still S n) ∧ WaM ν P (daysS P lots still S n)) n ?_ ?_ 60000 0 (by omega) (by omega) μ h hw h52 h53
  · intro i self hi ih μ h hw h52 h53
    obtain ⟨μ1, e1, M1, A1⟩ := m_dayGoes_e hk (daysS_ok hk hS i) h hw h52 h53
    have g1 := f_m_dayGoes e1
    unfold m_goes_B2
    simp (disch := omega) only [nI_leF, ↓ob_eq e1, nI_add, ↓reduceIte]
    exact ih μ1 M1 A1 ((g1.I rfl).trans h52) ((g1.I rfl).trans h53)
  · intro self μ h hw h52 h53
    unfold m_goes_B2
    simp (disch := omega) only [nI_leT, ↓reduceIte]
    exact ⟨μ, rfl, h, hw⟩

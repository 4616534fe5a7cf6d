/-! both sides alike, call by call (printed by program) -/
def Kst (μ : Mem) (o : Ob) : Prop := OkO o ∧ ∃ p lv, InvC μ p o ∧ InvM μ lv o ∧ LaS lv μ (zP o)
def Twin (fs fm : Mem → Option (Int32 × Mem)) : Prop := ∀ μ o, Kst μ o → ∃ a μ1 μ2 o', fs μ = some (a, μ1) ∧ fm μ1 = some (a, μ2) ∧ Kst μ2 o'
theorem tw_log (x y : Int32) : Twin (s_log x y) (m_log x y) := fun μ o h => by
  obtain ⟨ok, p, lv, hc, hm, la⟩ := h
  have e : ∃ μ', s_log x y μ = some (_, μ') := ⟨_, s_log_e ok.1 ok.2.1 hc.1 x y⟩
  obtain ⟨μ1, e1⟩ := e
  have g1 := f_s_log e1
  have c1 : InvC μ1 p o := hc.fr g1 rfl
  have k1 : Kr 10 55 μ μ1 := Kr.of g1 rfl
  have m1 := hm.cls k1
  have l1 := la.cls k1
  obtain ⟨μ2, e2⟩ := m_log_e ok.1 ok.2.1 m1.1 x y
  have g2 := f_m_log e2
  exact ⟨_, μ1, μ2, o, e1, e2, ok, p, lv, c1.mod (Kr.of g2 rfl), m1.fr g2 rfl, l1.fr g2 rfl⟩
theorem tw_field (x y : Int32) : Twin (s_field x y) (m_field x y) := fun μ o h => by
  obtain ⟨ok, p, lv, hc, hm, la⟩ := h
  have e : ∃ μ', s_field x y μ = some (_, μ') := s_field_e ok.1 ok.2.1 hc.1 x y
  obtain ⟨μ1, e1⟩ := e
  have g1 := f_s_field e1
  have c1 : InvC μ1 p o := hc.fr g1 rfl
  have k1 : Kr 10 55 μ μ1 := Kr.of g1 rfl
  have m1 := hm.cls k1
  have l1 := la.cls k1
  obtain ⟨μ2, e2⟩ := m_field_e ok.1 ok.2.1 m1.1 x y
  have g2 := f_m_field e2
  exact ⟨_, μ1, μ2, o, e1, e2, ok, p, lv, c1.mod (Kr.of g2 rfl), m1.fr g2 rfl, l1.fr g2 rfl⟩
theorem tw_notch (x y : Int32) : Twin (s_notch x y) (m_notch x y) := fun μ o h => by
  obtain ⟨ok, p, lv, hc, hm, la⟩ := h
  have e : ∃ μ', s_notch x y μ = some (_, μ') := s_notch_e ok.1 ok.2.1 hc.1 x y
  obtain ⟨μ1, e1⟩ := e
  have g1 := f_s_notch e1
  have c1 : InvC μ1 p o := hc.fr g1 rfl
  have k1 : Kr 10 55 μ μ1 := Kr.of g1 rfl
  have m1 := hm.cls k1
  have l1 := la.cls k1
  obtain ⟨μ2, e2⟩ := m_notch_e ok.1 ok.2.1 m1.1 x y
  have g2 := f_m_notch e2
  exact ⟨_, μ1, μ2, o, e1, e2, ok, p, lv, c1.mod (Kr.of g2 rfl), m1.fr g2 rfl, l1.fr g2 rfl⟩
theorem tw_river (x : Int32) : Twin (s_river x) (m_river x) := fun μ o h => by
  obtain ⟨ok, p, lv, hc, hm, la⟩ := h
  have e : ∃ μ', s_river x μ = some (_, μ') := ⟨_, s_river_e ok.1 ok.2.1 hc.1 x⟩
  obtain ⟨μ1, e1⟩ := e
  have g1 := f_s_river e1
  have c1 : InvC μ1 p o := hc.fr g1 rfl
  have k1 : Kr 10 55 μ μ1 := Kr.of g1 rfl
  have m1 := hm.cls k1
  have l1 := la.cls k1
  obtain ⟨μ2, e2⟩ := m_river_e ok.1 ok.2.1 m1.1 x
  have g2 := f_m_river e2
  exact ⟨_, μ1, μ2, o, e1, e2, ok, p, lv, c1.mod (Kr.of g2 rfl), m1.fr g2 rfl, l1.fr g2 rfl⟩
theorem tw_round : Twin (s_round) (m_round) := fun μ o h => by
  obtain ⟨ok, p, lv, hc, hm, la⟩ := h
  have e : ∃ μ', s_round μ = some (_, μ') := ⟨_, s_round_e ok.1 ok.2.1 hc.1⟩
  obtain ⟨μ1, e1⟩ := e
  have g1 := f_s_round e1
  have c1 : InvC μ1 p o := hc.fr g1 rfl
  have k1 : Kr 10 55 μ μ1 := Kr.of g1 rfl
  have m1 := hm.cls k1
  have l1 := la.cls k1
  obtain ⟨μ2, e2⟩ := m_round_e ok.1 ok.2.1 m1.1
  have g2 := f_m_round e2
  exact ⟨_, μ1, μ2, o, e1, e2, ok, p, lv, c1.mod (Kr.of g2 rfl), m1.fr g2 rfl, l1.fr g2 rfl⟩
theorem tw_lacking : Twin (s_lacking) (m_lacking) := fun μ o h => by
  obtain ⟨ok, p, lv, hc, hm, la⟩ := h
  have e : ∃ μ', s_lacking μ = some (_, μ') := s_lacking_e ok.1 ok.2.1 hc.1
  obtain ⟨μ1, e1⟩ := e
  have g1 := f_s_lacking e1
  have c1 : InvC μ1 p o := hc.fr g1 rfl
  have k1 : Kr 10 55 μ μ1 := Kr.of g1 rfl
  have m1 := hm.cls k1
  have l1 := la.cls k1
  obtain ⟨μ2, e2⟩ := m_lacking_e ok.1 ok.2.1 m1.1
  have g2 := f_m_lacking e2
  exact ⟨_, μ1, μ2, o, e1, e2, ok, p, lv, c1.mod (Kr.of g2 rfl), m1.fr g2 rfl, l1.fr g2 rfl⟩
theorem tw_dry : Twin (s_dry) (m_dry) := fun μ o h => by
  obtain ⟨ok, p, lv, hc, hm, la⟩ := h
  have e : ∃ μ', s_dry μ = some (_, μ') := ⟨_, s_dry_e ok.1 ok.2.1 hc.1⟩
  obtain ⟨μ1, e1⟩ := e
  have g1 := f_s_dry e1
  have c1 : InvC μ1 p o := hc.fr g1 rfl
  have k1 : Kr 10 55 μ μ1 := Kr.of g1 rfl
  have m1 := hm.cls k1
  have l1 := la.cls k1
  obtain ⟨μ2, e2⟩ := m_dry_e ok.1 ok.2.1 m1.1
  have g2 := f_m_dry e2
  exact ⟨_, μ1, μ2, o, e1, e2, ok, p, lv, c1.mod (Kr.of g2 rfl), m1.fr g2 rfl, l1.fr g2 rfl⟩
theorem tw_feels (x y z : Int32) : Twin (s_feels x y z) (m_feels x y z) := fun μ o h => by
  obtain ⟨ok, p, lv, hc, hm, la⟩ := h
  have e : ∃ μ', s_feels x y z μ = some (_, μ') := s_feels_e ok.1 ok.2.1 hc.1 x y z
  obtain ⟨μ1, e1⟩ := e
  have g1 := f_s_feels e1
  have c1 : InvC μ1 p o := hc.fr g1 rfl
  have k1 : Kr 10 55 μ μ1 := Kr.of g1 rfl
  have m1 := hm.cls k1
  have l1 := la.cls k1
  obtain ⟨μ2, e2⟩ := m_feels_e ok.1 ok.2.1 m1.1 x y z
  have g2 := f_m_feels e2
  exact ⟨_, μ1, μ2, o, e1, e2, ok, p, lv, c1.mod (Kr.of g2 rfl), m1.fr g2 rfl, l1.fr g2 rfl⟩
theorem tw_unfelt : Twin (s_unfelt) (m_unfelt) := fun μ o h => by
  obtain ⟨ok, p, lv, hc, hm, la⟩ := h
  have e : ∃ μ', s_unfelt μ = some (_, μ') := s_unfelt_e ok.1 ok.2.1 hc.1
  obtain ⟨μ1, e1⟩ := e
  have g1 := f_s_unfelt e1
  have c1 : InvC μ1 p o := hc.fr g1 rfl
  have k1 : Kr 10 55 μ μ1 := Kr.of g1 rfl
  have m1 := hm.cls k1
  have l1 := la.cls k1
  obtain ⟨μ2, e2⟩ := m_unfelt_e ok.1 ok.2.1 m1.1
  have g2 := f_m_unfelt e2
  exact ⟨_, μ1, μ2, o, e1, e2, ok, p, lv, c1.mod (Kr.of g2 rfl), m1.fr g2 rfl, l1.fr g2 rfl⟩
theorem tw_best (x y : Int32) : Twin (s_best x y) (m_best x y) := fun μ o h => by
  obtain ⟨ok, p, lv, hc, hm, la⟩ := h
  have e : ∃ μ', s_best x y μ = some (_, μ') := s_best_e ok.1 ok.2.1 hc.1 x y
  obtain ⟨μ1, e1⟩ := e
  have g1 := f_s_best e1
  have c1 : InvC μ1 p o := hc.fr g1 rfl
  have k1 : Kr 10 55 μ μ1 := Kr.of g1 rfl
  have m1 := hm.cls k1
  have l1 := la.cls k1
  obtain ⟨μ2, e2⟩ := m_best_e ok.1 ok.2.1 m1.1 x y
  have g2 := f_m_best e2
  exact ⟨_, μ1, μ2, o, e1, e2, ok, p, lv, c1.mod (Kr.of g2 rfl), m1.fr g2 rfl, l1.fr g2 rfl⟩
theorem tw_tempted : Twin (s_tempted) (m_tempted) := fun μ o h => by
  obtain ⟨ok, p, lv, hc, hm, la⟩ := h
  have e : ∃ μ', s_tempted μ = some (_, μ') := s_tempted_e ok.1 ok.2.1 hc.1
  obtain ⟨μ1, e1⟩ := e
  have g1 := f_s_tempted e1
  have c1 : InvC μ1 p o := hc.fr g1 rfl
  have k1 : Kr 10 55 μ μ1 := Kr.of g1 rfl
  have m1 := hm.cls k1
  have l1 := la.cls k1
  obtain ⟨μ2, e2⟩ := m_tempted_e ok.1 ok.2.1 m1.1
  have g2 := f_m_tempted e2
  exact ⟨_, μ1, μ2, o, e1, e2, ok, p, lv, c1.mod (Kr.of g2 rfl), m1.fr g2 rfl, l1.fr g2 rfl⟩
theorem tw_mend (x : Int32) : Twin (s_mend x) (m_mend x) := fun μ o h => by
  obtain ⟨ok, p, lv, hc, hm, la⟩ := h
  have e : ∃ μ', s_mend x μ = some (_, μ') := s_mend_e ok.1 ok.2.1 hc.1 x
  obtain ⟨μ1, e1⟩ := e
  have g1 := f_s_mend e1
  have c1 : InvC μ1 p o := hc.fr g1 rfl
  have k1 : Kr 10 55 μ μ1 := Kr.of g1 rfl
  have m1 := hm.cls k1
  have l1 := la.cls k1
  obtain ⟨μ2, e2⟩ := m_mend_e ok.1 ok.2.1 m1.1 x
  have g2 := f_m_mend e2
  exact ⟨_, μ1, μ2, o, e1, e2, ok, p, lv, c1.mod (Kr.of g2 rfl), m1.fr g2 rfl, l1.fr g2 rfl⟩
theorem tw_feeds (x : Int32) : Twin (s_feeds x) (m_feeds x) := fun μ o h => by
  obtain ⟨ok, p, lv, hc, hm, la⟩ := h
  have e : ∃ μ', s_feeds x μ = some (_, μ') := ⟨_, s_feeds_e ok.1 ok.2.1 hc.1 x⟩
  obtain ⟨μ1, e1⟩ := e
  have g1 := f_s_feeds e1
  have c1 : InvC μ1 p o := hc.fr g1 rfl
  have k1 : Kr 10 55 μ μ1 := Kr.of g1 rfl
  have m1 := hm.cls k1
  have l1 := la.cls k1
  obtain ⟨μ2, e2⟩ := m_feeds_e ok.1 ok.2.1 m1.1 x
  have g2 := f_m_feeds e2
  exact ⟨_, μ1, μ2, o, e1, e2, ok, p, lv, c1.mod (Kr.of g2 rfl), m1.fr g2 rfl, l1.fr g2 rfl⟩
theorem tw_hangs (x : Int32) : Twin (s_hangs x) (m_hangs x) := fun μ o h => by
  obtain ⟨ok, p, lv, hc, hm, la⟩ := h
  have e : ∃ μ', s_hangs x μ = some (_, μ') := s_hangs_e ok.1 ok.2.1 hc.1 x
  obtain ⟨μ1, e1⟩ := e
  have g1 := f_s_hangs e1
  have c1 : InvC μ1 p o := hc.fr g1 rfl
  have k1 : Kr 10 55 μ μ1 := Kr.of g1 rfl
  have m1 := hm.cls k1
  have l1 := la.cls k1
  obtain ⟨μ2, e2⟩ := m_hangs_e ok.1 ok.2.1 m1.1 x
  have g2 := f_m_hangs e2
  exact ⟨_, μ1, μ2, o, e1, e2, ok, p, lv, c1.mod (Kr.of g2 rfl), m1.fr g2 rfl, l1.fr g2 rfl⟩
theorem tw_spread : Twin (s_spread) (m_spread) := fun μ o h => by
  obtain ⟨ok, p, lv, hc, hm, la⟩ := h
  have e : ∃ μ', s_spread μ = some (_, μ') := ⟨_, s_spread_e ok.1 ok.2.1 hc.1⟩
  obtain ⟨μ1, e1⟩ := e
  have g1 := f_s_spread e1
  have c1 : InvC μ1 p o := hc.fr g1 rfl
  have k1 : Kr 10 55 μ μ1 := Kr.of g1 rfl
  have m1 := hm.cls k1
  have l1 := la.cls k1
  obtain ⟨μ2, e2⟩ := m_spread_e ok.1 ok.2.1 m1.1
  have g2 := f_m_spread e2
  exact ⟨_, μ1, μ2, o, e1, e2, ok, p, lv, c1.mod (Kr.of g2 rfl), m1.fr g2 rfl, l1.fr g2 rfl⟩
theorem tw_richest : Twin (s_richest) (m_richest) := fun μ o h => by
  obtain ⟨ok, p, lv, hc, hm, la⟩ := h
  have e : ∃ μ', s_richest μ = some (_, μ') := ⟨_, s_richest_e ok.1 hc.1⟩
  obtain ⟨μ1, e1⟩ := e
  have g1 := f_s_richest e1
  have c1 : InvC μ1 p o := hc.fr g1 rfl
  have k1 : Kr 10 55 μ μ1 := Kr.of g1 rfl
  have m1 := hm.cls k1
  have l1 := la.cls k1
  obtain ⟨μ2, e2⟩ := m_richest_e ok.1 ok.2.1 m1.1
  have g2 := f_m_richest e2
  exact ⟨_, μ1, μ2, o, e1, e2, ok, p, lv, c1.mod (Kr.of g2 rfl), m1.fr g2 rfl, l1.fr g2 rfl⟩
theorem tw_crop (x : Int32) : Twin (s_crop x) (m_crop x) := fun μ o h => by
  obtain ⟨ok, p, lv, hc, hm, la⟩ := h
  have e : ∃ μ', s_crop x μ = some (_, μ') := s_crop_e ok.1 ok.2.1 hc.1 x
  obtain ⟨μ1, e1⟩ := e
  have g1 := f_s_crop e1
  have c1 : InvC μ1 p o := hc.fr g1 rfl
  have k1 : Kr 10 55 μ μ1 := Kr.of g1 rfl
  have m1 := hm.cls k1
  have l1 := la.cls k1
  obtain ⟨μ2, e2⟩ := m_crop_e ok.1 ok.2.1 m1.1 x
  have g2 := f_m_crop e2
  exact ⟨_, μ1, μ2, o, e1, e2, ok, p, lv, c1.mod (Kr.of g2 rfl), m1.fr g2 rfl, l1.fr g2 rfl⟩
theorem tw_again (x y : Int32) : Twin (s_again x y) (m_again x y) := fun μ o h => by
  obtain ⟨ok, p, lv, hc, hm, la⟩ := h
  have e : ∃ μ', s_again x y μ = some (_, μ') := s_again_e ok.1 ok.2.1 hc.1 x y
  obtain ⟨μ1, e1⟩ := e
  have g1 := f_s_again e1
  have c1 : InvC μ1 p o := hc.fr g1 rfl
  have k1 : Kr 10 55 μ μ1 := Kr.of g1 rfl
  have m1 := hm.cls k1
  have l1 := la.cls k1
  obtain ⟨μ2, e2⟩ := m_again_e ok.1 ok.2.1 m1.1 x y
  have g2 := f_m_again e2
  exact ⟨_, μ1, μ2, o, e1, e2, ok, p, lv, c1.mod (Kr.of g2 rfl), m1.fr g2 rfl, l1.fr g2 rfl⟩
theorem tw_swap : Twin (s_swap) (m_swap) := fun μ o h => by
  obtain ⟨ok, p, lv, hc, hm, la⟩ := h
  have e : ∃ μ', s_swap μ = some (_, μ') := s_swap_e ok.1 ok.2.1 hc.1
  obtain ⟨μ1, e1⟩ := e
  have g1 := f_s_swap e1
  have c1 : InvC μ1 p o := hc.fr g1 rfl
  have k1 : Kr 10 55 μ μ1 := Kr.of g1 rfl
  have m1 := hm.cls k1
  have l1 := la.cls k1
  obtain ⟨μ2, e2⟩ := m_swap_e ok.1 ok.2.1 m1.1
  have g2 := f_m_swap e2
  exact ⟨_, μ1, μ2, o, e1, e2, ok, p, lv, c1.mod (Kr.of g2 rfl), m1.fr g2 rfl, l1.fr g2 rfl⟩
theorem tw_grownIn (x y : Int32) : Twin (s_grownIn x y) (m_grownIn x y) := fun μ o h => by
  obtain ⟨ok, p, lv, hc, hm, la⟩ := h
  have e : ∃ μ', s_grownIn x y μ = some (_, μ') := s_grownIn_e ok.1 ok.2.1 hc.1 x y
  obtain ⟨μ1, e1⟩ := e
  have g1 := f_s_grownIn e1
  have c1 : InvC μ1 p o := hc.fr g1 rfl
  have k1 : Kr 10 55 μ μ1 := Kr.of g1 rfl
  have m1 := hm.cls k1
  have l1 := la.cls k1
  obtain ⟨μ2, e2⟩ := m_grownIn_e ok.1 ok.2.1 m1.1 x y
  have g2 := f_m_grownIn e2
  exact ⟨_, μ1, μ2, o, e1, e2, ok, p, lv, c1.mod (Kr.of g2 rfl), m1.fr g2 rfl, l1.fr g2 rfl⟩
theorem tw_wideIn (x y : Int32) : Twin (s_wideIn x y) (m_wideIn x y) := fun μ o h => by
  obtain ⟨ok, p, lv, hc, hm, la⟩ := h
  have e : ∃ μ', s_wideIn x y μ = some (_, μ') := s_wideIn_e ok.1 ok.2.1 hc.1 x y
  obtain ⟨μ1, e1⟩ := e
  have g1 := f_s_wideIn e1
  have c1 : InvC μ1 p o := hc.fr g1 rfl
  have k1 : Kr 10 55 μ μ1 := Kr.of g1 rfl
  have m1 := hm.cls k1
  have l1 := la.cls k1
  obtain ⟨μ2, e2⟩ := m_wideIn_e ok.1 ok.2.1 m1.1 x y
  have g2 := f_m_wideIn e2
  exact ⟨_, μ1, μ2, o, e1, e2, ok, p, lv, c1.mod (Kr.of g2 rfl), m1.fr g2 rfl, l1.fr g2 rfl⟩
theorem tw_year (x y z : Int32) : Twin (s_year x y z) (m_year x y z) := fun μ o h => by
  obtain ⟨ok, p, lv, hc, hm, la⟩ := h
  have e : ∃ μ', s_year x y z μ = some (_, μ') := s_year_e ok.1 ok.2.1 hc.1 x y z
  obtain ⟨μ1, e1⟩ := e
  have g1 := f_s_year e1
  have c1 : InvC μ1 p o := hc.fr g1 rfl
  have k1 : Kr 10 55 μ μ1 := Kr.of g1 rfl
  have m1 := hm.cls k1
  have l1 := la.cls k1
  obtain ⟨μ2, e2⟩ := m_year_e ok.1 ok.2.1 m1.1 x y z
  have g2 := f_m_year e2
  exact ⟨_, μ1, μ2, o, e1, e2, ok, p, lv, c1.mod (Kr.of g2 rfl), m1.fr g2 rfl, l1.fr g2 rfl⟩
theorem tw_fits (x y : Int32) : Twin (s_fits x y) (m_fits x y) := fun μ o h => by
  obtain ⟨ok, p, lv, hc, hm, la⟩ := h
  have e : ∃ μ', s_fits x y μ = some (_, μ') := s_fits_e ok.1 ok.2.1 hc.1 ok.2.2.2.2.2.1 hc.2.2.2.1 x y
  obtain ⟨μ1, e1⟩ := e
  have g1 := f_s_fits e1
  have c1 : InvC μ1 p o := hc.fr g1 rfl
  have k1 : Kr 10 55 μ μ1 := Kr.of g1 rfl
  have m1 := hm.cls k1
  have l1 := la.cls k1
  obtain ⟨μ2, e2⟩ := m_fits_e ok.1 ok.2.1 m1.1 ok.2.2.2.2.2.1 m1.tk x y
  have g2 := f_m_fits e2
  exact ⟨_, μ1, μ2, o, e1, e2, ok, p, lv, c1.mod (Kr.of g2 rfl), m1.fr g2 rfl, l1.fr g2 rfl⟩
theorem tw_ask (x : Int32) : Twin (s_ask x) (m_ask x) := fun μ o h => by
  obtain ⟨ok, p, lv, hc, hm, la⟩ := h
  have e : ∃ μ', s_ask x μ = some (_, μ') := s_ask_e ok.1 ok.2.1 hc.1 ok.2.2.2.2.2.1 hc.2.2.2.1 x
  obtain ⟨μ1, e1⟩ := e
  have g1 := f_s_ask e1
  have c1 : InvC μ1 p o := hc.fr g1 rfl
  have k1 : Kr 10 55 μ μ1 := Kr.of g1 rfl
  have m1 := hm.cls k1
  have l1 := la.cls k1
  obtain ⟨μ2, e2⟩ := m_ask_e ok.1 ok.2.1 m1.1 ok.2.2.2.2.2.1 m1.tk x
  have g2 := f_m_ask e2
  exact ⟨_, μ1, μ2, o, e1, e2, ok, p, lv, c1.mod (Kr.of g2 rfl), m1.fr g2 rfl, l1.fr g2 rfl⟩
theorem zP_feed {o : Ob} (x y z w v : Int32) : zP (nFeed o x y z w v) = zP o := by first | rfl | (unfold nFeed; split <;> first | rfl | (split <;> first | rfl | (split <;> rfl)))
theorem tw_feed (x y z w v : Int32) : Twin (s_feed x y z w v) (m_feed x y z w v) := fun μ o h => by
  obtain ⟨ok, p, lv, hc, hm, la⟩ := h
  obtain ⟨μ1, e1, c1⟩ := s_feed_e ok hc x y z w v
  have g1 := f_s_feed e1
  have k1 : Kr 10 55 μ μ1 := Kr.of g1 rfl
  have l1 := la.cls k1
  obtain ⟨μ2, e2, m2⟩ := m_feed_e ok (hm.cls k1) x y z w v
  have g2 := f_m_feed e2
  exact ⟨_, μ1, μ2, _, e1, e2, nFeed_ok ok x y z w v, p, lv, c1.mod (Kr.of g2 rfl), m2, by rw [zP_feed]; exact l1.fr g2 rfl⟩
theorem zP_back {o : Ob} (x : Int32) : zP (nBack o x) = zP o := by first | rfl | (unfold nBack; split <;> first | rfl | (split <;> first | rfl | (split <;> rfl)))
theorem tw_back (x : Int32) : Twin (s_back x) (m_back x) := fun μ o h => by
  obtain ⟨ok, p, lv, hc, hm, la⟩ := h
  obtain ⟨μ1, e1, c1⟩ := s_back_e ok hc x
  have g1 := f_s_back e1
  have k1 : Kr 10 55 μ μ1 := Kr.of g1 rfl
  have l1 := la.cls k1
  obtain ⟨μ2, e2, m2⟩ := m_back_e ok (hm.cls k1) x
  have g2 := f_m_back e2
  exact ⟨_, μ1, μ2, _, e1, e2, nBack_ok ok x, p, lv, c1.mod (Kr.of g2 rfl), m2, by rw [zP_back]; exact l1.fr g2 rfl⟩
theorem zP_step {o : Ob} (x y : Int32) : zP (nStep o x y) = zP o := by first | rfl | (unfold nStep; split <;> first | rfl | (split <;> first | rfl | (split <;> rfl)))
theorem tw_step (x y : Int32) : Twin (s_step x y) (m_step x y) := fun μ o h => by
  obtain ⟨ok, p, lv, hc, hm, la⟩ := h
  obtain ⟨μ1, e1, c1⟩ := s_step_e ok hc x y
  have g1 := f_s_step e1
  have k1 : Kr 10 55 μ μ1 := Kr.of g1 rfl
  have l1 := la.cls k1
  obtain ⟨μ2, e2, m2⟩ := m_step_e ok (hm.cls k1) x y
  have g2 := f_m_step e2
  exact ⟨_, μ1, μ2, _, e1, e2, nStep_ok ok x y, p, lv, c1.mod (Kr.of g2 rfl), m2, by rw [zP_step]; exact l1.fr g2 rfl⟩
theorem zP_drain {o : Ob} (x y z : Int32) : zP (nDrain o x y z) = zP o := by first | rfl | (unfold nDrain; split <;> first | rfl | (split <;> first | rfl | (split <;> rfl)))
theorem tw_drain (x y z : Int32) : Twin (s_drain x y z) (m_drain x y z) := fun μ o h => by
  obtain ⟨ok, p, lv, hc, hm, la⟩ := h
  obtain ⟨μ1, e1, c1⟩ := s_drain_e ok hc x y z
  have g1 := f_s_drain e1
  have k1 : Kr 10 55 μ μ1 := Kr.of g1 rfl
  have l1 := la.cls k1
  obtain ⟨μ2, e2, m2⟩ := m_drain_e ok (hm.cls k1) x y z
  have g2 := f_m_drain e2
  exact ⟨_, μ1, μ2, _, e1, e2, nDrain_ok ok x y z, p, lv, c1.mod (Kr.of g2 rfl), m2, by rw [zP_drain]; exact l1.fr g2 rfl⟩
theorem zP_spring {o : Ob} (x : Int32) : zP (nSpring o x) = zP o := by first | rfl | (unfold nSpring; split <;> first | rfl | (split <;> first | rfl | (split <;> rfl)))
theorem tw_spring (x : Int32) : Twin (s_spring x) (m_spring x) := fun μ o h => by
  obtain ⟨ok, p, lv, hc, hm, la⟩ := h
  obtain ⟨μ1, e1, c1⟩ := s_spring_e ok hc x
  have g1 := f_s_spring e1
  have k1 : Kr 10 55 μ μ1 := Kr.of g1 rfl
  have l1 := la.cls k1
  obtain ⟨μ2, e2, m2⟩ := m_spring_e ok (hm.cls k1) x
  have g2 := f_m_spring e2
  exact ⟨_, μ1, μ2, _, e1, e2, nSpring_ok ok x, p, lv, c1.mod (Kr.of g2 rfl), m2, by rw [zP_spring]; exact l1.fr g2 rfl⟩
theorem zP_days {o : Ob} (x : Int32) : zP (nDays o x) = zP o := by first | rfl | (unfold nDays; split <;> first | rfl | (split <;> first | rfl | (split <;> rfl)))
theorem tw_days (x : Int32) : Twin (s_days x) (m_days x) := fun μ o h => by
  obtain ⟨ok, p, lv, hc, hm, la⟩ := h
  obtain ⟨μ1, e1, c1⟩ := s_days_e ok hc x
  have g1 := f_s_days e1
  have k1 : Kr 10 55 μ μ1 := Kr.of g1 rfl
  have l1 := la.cls k1
  obtain ⟨μ2, e2, m2⟩ := m_days_e ok (hm.cls k1) x
  have g2 := f_m_days e2
  exact ⟨_, μ1, μ2, _, e1, e2, nDays_ok ok x, p, lv, c1.mod (Kr.of g2 rfl), m2, by rw [zP_days]; exact l1.fr g2 rfl⟩
theorem zP_undo {o : Ob} : zP (nUndo o) = zP o := by first | rfl | (unfold nUndo; split <;> first | rfl | (split <;> first | rfl | (split <;> rfl)))
theorem tw_undo : Twin (s_undo) (m_undo) := fun μ o h => by
  obtain ⟨ok, p, lv, hc, hm, la⟩ := h
  obtain ⟨μ1, e1, c1⟩ := s_undo_e ok hc
  have g1 := f_s_undo e1
  have k1 : Kr 10 55 μ μ1 := Kr.of g1 rfl
  have l1 := la.cls k1
  obtain ⟨μ2, e2, m2⟩ := m_undo_e ok (hm.cls k1)
  have g2 := f_m_undo e2
  exact ⟨_, μ1, μ2, _, e1, e2, nUndo_ok ok, p, lv, c1.mod (Kr.of g2 rfl), m2, by rw [zP_undo]; exact l1.fr g2 rfl⟩
theorem zP_hold {o : Ob} (x : Int32) : zP (nHold o x) = zP o := by first | rfl | (unfold nHold; split <;> first | rfl | (split <;> first | rfl | (split <;> rfl)))
theorem tw_hold (x : Int32) : Twin (s_hold x) (m_hold x) := fun μ o h => by
  obtain ⟨ok, p, lv, hc, hm, la⟩ := h
  obtain ⟨μ1, e1, c1⟩ := s_hold_e ok hc x
  have g1 := f_s_hold e1
  have k1 : Kr 10 55 μ μ1 := Kr.of g1 rfl
  have l1 := la.cls k1
  obtain ⟨μ2, e2, m2⟩ := m_hold_e (hm.cls k1) x
  have g2 := f_m_hold e2
  exact ⟨_, μ1, μ2, _, e1, e2, nHold_ok ok x, p, lv, c1.mod (Kr.of g2 rfl), m2, by rw [zP_hold]; exact l1.fr g2 rfl⟩
theorem zP_restore {o : Ob} (x : Int32) : zP (nRestore o x) = zP o := by first | rfl | (unfold nRestore; split <;> first | rfl | (split <;> first | rfl | (split <;> rfl)))
theorem tw_restore (x : Int32) : Twin (s_restore x) (m_restore x) := fun μ o h => by
  obtain ⟨ok, p, lv, hc, hm, la⟩ := h
  obtain ⟨μ1, e1, c1⟩ := s_restore_e ok hc x
  have g1 := f_s_restore e1
  have k1 : Kr 10 55 μ μ1 := Kr.of g1 rfl
  have l1 := la.cls k1
  obtain ⟨μ2, e2, m2⟩ := m_restore_e (hm.cls k1) x
  have g2 := f_m_restore e2
  exact ⟨_, μ1, μ2, _, e1, e2, nRestore_ok ok x, p, lv, c1.mod (Kr.of g2 rfl), m2, by rw [zP_restore]; exact l1.fr g2 rfl⟩
theorem zP_tell {o : Ob} (x y : Int32) (so : Bool) : zP (nTell o x y so) = zP o := by first | rfl | (unfold nTell; split <;> first | rfl | (split <;> first | rfl | (split <;> rfl)))
theorem tw_tell (x y : Int32) (so : Bool) : Twin (s_tell x y (b01I so)) (m_tell x y (b01I so)) := fun μ o h => by
  obtain ⟨ok, p, lv, hc, hm, la⟩ := h
  obtain ⟨μ1, e1, c1⟩ := s_tell_e ok hc x y so
  have g1 := f_s_tell e1
  have k1 : Kr 10 55 μ μ1 := Kr.of g1 rfl
  have l1 := la.cls k1
  obtain ⟨μ2, e2, m2⟩ := m_tell_e ok (hm.cls k1) x y so
  have g2 := f_m_tell e2
  exact ⟨_, μ1, μ2, _, e1, e2, nTell_ok ok x y so, p, lv, c1.mod (Kr.of g2 rfl), m2, by rw [zP_tell]; exact l1.fr g2 rfl⟩
theorem zP_forget {o : Ob} : zP (nForget o) = zP o := by first | rfl | (unfold nForget; split <;> first | rfl | (split <;> first | rfl | (split <;> rfl)))
theorem tw_forget : Twin (s_forget) (m_forget) := fun μ o h => by
  obtain ⟨ok, p, lv, hc, hm, la⟩ := h
  obtain ⟨μ1, e1, c1⟩ := s_forget_e hc
  have g1 := f_s_forget e1
  have k1 : Kr 10 55 μ μ1 := Kr.of g1 rfl
  have l1 := la.cls k1
  obtain ⟨μ2, e2, m2⟩ := m_forget_e (hm.cls k1)
  have g2 := f_m_forget e2
  exact ⟨_, μ1, μ2, _, e1, e2, nForget_ok ok, p, lv, c1.mod (Kr.of g2 rfl), m2, by rw [zP_forget]; exact l1.fr g2 rfl⟩
theorem tw_place : Twin s_place m_place := fun μ o h => by
  obtain ⟨ok, p, lv, hc, hm, la⟩ := h
  exact ⟨_, μ, μ, o, s_place_e hc, m_place_e hm, ok, p, lv, hc, hm, la⟩
theorem tw_count (x : Int32) : Twin (s_count x) (m_count x) := fun μ o h => by
  obtain ⟨ok, p, lv, hc, hm, la⟩ := h
  obtain ⟨μ2, e2, m2⟩ := m_count_e ok hm x
  have g2 := f_m_count e2
  exact ⟨_, μ, μ2, o, s_count_e ok hc x, e2, ok, p, lv, hc.mod (Kr.of g2 rfl), m2, la.fr g2 rfl⟩
theorem tw_read : Twin s_read m_read := fun μ o h => by
  obtain ⟨ok, p, lv, hc, hm, la⟩ := h
  obtain ⟨μ1, p1, e1, c1⟩ := s_read_e ok hc
  have k1 : Kr 10 55 μ μ1 := s_read_kr ok hc e1
  obtain ⟨μ2, lv2, e2, m2, l2⟩ := m_read_e ok (hm.cls k1) (la.cls k1)
  have g2 := f_m_read e2
  exact ⟨_, μ1, μ2, _, e1, e2, nRead_ok ok, p1, lv2, c1.mod (Kr.of g2 rfl), m2, l2⟩

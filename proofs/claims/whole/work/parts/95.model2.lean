/-! the reference's constructor: its plain plans, its words (printed by program) -/
def keyV (k : Nat) : Int64 := oL (vlW (wdR.getD k []))
theorem CMstL {μ : Mem} {r i k : Nat} {v : Int64} (h : CM μ) : CM (stL μ r i k v) := fun q h1 h2 => (show mC (stL μ r i k v) q = mC μ q from rfl).trans (h q h1 h2)
theorem m_app0 (x : Int64) (μ : Mem) : m_appends x (nI 0) μ = some (x, μ) := by
  unfold m_appends
  rw [if_pos rfl]
theorem m_app {x y : Int64} {c : Nat} (μ : Mem) (h0 : ¬ nI c = nI 0) (h : ((27 : Int64) * x) + Int32.toInt64 ((nI c - nI 97) + nI 1) = y) : m_appends x (nI c) μ = some (y, μ) := by
  unfold m_appends
  rw [if_neg h0, h]
/-- words up to j are there -/
def Kj (μ0 μ : Mem) (j : Nat) : Prop := Fr [(62, none, none)] μ0 μ ∧ ∀ q, q < j → mL μ 62 0 q = keyV q
theorem Kj.rf (μ : Mem) : Kj μ μ 0 := ⟨Fr.rf _ _, fun q hq => absurd hq (Nat.not_lt_zero _)⟩
theorem Kj.st {μ0 μ : Mem} {j : Nat} (h : Kj μ0 μ j) : Kj μ0 (stL μ 62 0 j (keyV j)) (j + 1) := ⟨Fr.stL h.1 (iT 0 rfl inA_nn), fun q hq => by
  rw [mL_stL]
  by_cases c : q = j
  · rw [if_pos ⟨rfl, rfl, c⟩, c]
  · rw [if_neg (by omega)]; exact h.2 q (by omega)⟩
theorem mlt_0 (μ : Mem) : m_letters (nI 108) (nI 111) (nI 103) (nI 0) (nI 0) (nI 0) (nI 0) μ = some (keyV 0, μ) := by
  unfold m_letters
  rw [ob_eq (m_app (x := (0 : Int64)) (y := oL 12) μ (by decide) (by decide))]
  rw [ob_eq (m_app (x := oL 12) (y := oL 339) μ (by decide) (by decide))]
  rw [ob_eq (m_app (x := oL 339) (y := oL 9160) μ (by decide) (by decide))]
  rw [ob_eq (m_app0 _ μ)]
  rw [ob_eq (m_app0 _ μ)]
  rw [ob_eq (m_app0 _ μ)]
  rw [ob_eq (m_app0 _ μ)]
  rfl
theorem mlt_1 (μ : Mem) : m_letters (nI 102) (nI 105) (nI 101) (nI 108) (nI 100) (nI 0) (nI 0) μ = some (keyV 1, μ) := by
  unfold m_letters
  rw [ob_eq (m_app (x := (0 : Int64)) (y := oL 6) μ (by decide) (by decide))]
  rw [ob_eq (m_app (x := oL 6) (y := oL 171) μ (by decide) (by decide))]
  rw [ob_eq (m_app (x := oL 171) (y := oL 4622) μ (by decide) (by decide))]
  rw [ob_eq (m_app (x := oL 4622) (y := oL 124806) μ (by decide) (by decide))]
  rw [ob_eq (m_app (x := oL 124806) (y := oL 3369766) μ (by decide) (by decide))]
  rw [ob_eq (m_app0 _ μ)]
  rw [ob_eq (m_app0 _ μ)]
  rfl
theorem mlt_2 (μ : Mem) : m_letters (nI 110) (nI 111) (nI 116) (nI 99) (nI 104) (nI 0) (nI 0) μ = some (keyV 2, μ) := by
  unfold m_letters
  rw [ob_eq (m_app (x := (0 : Int64)) (y := oL 14) μ (by decide) (by decide))]
  rw [ob_eq (m_app (x := oL 14) (y := oL 393) μ (by decide) (by decide))]
  rw [ob_eq (m_app (x := oL 393) (y := oL 10631) μ (by decide) (by decide))]
  rw [ob_eq (m_app (x := oL 10631) (y := oL 287040) μ (by decide) (by decide))]
  rw [ob_eq (m_app (x := oL 287040) (y := oL 7750088) μ (by decide) (by decide))]
  rw [ob_eq (m_app0 _ μ)]
  rw [ob_eq (m_app0 _ μ)]
  rfl
theorem mlt_3 (μ : Mem) : m_letters (nI 100) (nI 114) (nI 97) (nI 105) (nI 110) (nI 0) (nI 0) μ = some (keyV 3, μ) := by
  unfold m_letters
  rw [ob_eq (m_app (x := (0 : Int64)) (y := oL 4) μ (by decide) (by decide))]
  rw [ob_eq (m_app (x := oL 4) (y := oL 126) μ (by decide) (by decide))]
  rw [ob_eq (m_app (x := oL 126) (y := oL 3403) μ (by decide) (by decide))]
  rw [ob_eq (m_app (x := oL 3403) (y := oL 91890) μ (by decide) (by decide))]
  rw [ob_eq (m_app (x := oL 91890) (y := oL 2481044) μ (by decide) (by decide))]
  rw [ob_eq (m_app0 _ μ)]
  rw [ob_eq (m_app0 _ μ)]
  rfl
theorem mlt_4 (μ : Mem) : m_letters (nI 115) (nI 112) (nI 114) (nI 105) (nI 110) (nI 103) (nI 0) μ = some (keyV 4, μ) := by
  unfold m_letters
  rw [ob_eq (m_app (x := (0 : Int64)) (y := oL 19) μ (by decide) (by decide))]
  rw [ob_eq (m_app (x := oL 19) (y := oL 529) μ (by decide) (by decide))]
  rw [ob_eq (m_app (x := oL 529) (y := oL 14301) μ (by decide) (by decide))]
  rw [ob_eq (m_app (x := oL 14301) (y := oL 386136) μ (by decide) (by decide))]
  rw [ob_eq (m_app (x := oL 386136) (y := oL 10425686) μ (by decide) (by decide))]
  rw [ob_eq (m_app (x := oL 10425686) (y := oL 281493529) μ (by decide) (by decide))]
  rw [ob_eq (m_app0 _ μ)]
  rfl
theorem mlt_5 (μ : Mem) : m_letters (nI 114) (nI 105) (nI 118) (nI 101) (nI 114) (nI 0) (nI 0) μ = some (keyV 5, μ) := by
  unfold m_letters
  rw [ob_eq (m_app (x := (0 : Int64)) (y := oL 18) μ (by decide) (by decide))]
  rw [ob_eq (m_app (x := oL 18) (y := oL 495) μ (by decide) (by decide))]
  rw [ob_eq (m_app (x := oL 495) (y := oL 13387) μ (by decide) (by decide))]
  rw [ob_eq (m_app (x := oL 13387) (y := oL 361454) μ (by decide) (by decide))]
  rw [ob_eq (m_app (x := oL 361454) (y := oL 9759276) μ (by decide) (by decide))]
  rw [ob_eq (m_app0 _ μ)]
  rw [ob_eq (m_app0 _ μ)]
  rfl
theorem mlt_6 (μ : Mem) : m_letters (nI 110) (nI 101) (nI 101) (nI 100) (nI 115) (nI 0) (nI 0) μ = some (keyV 6, μ) := by
  unfold m_letters
  rw [ob_eq (m_app (x := (0 : Int64)) (y := oL 14) μ (by decide) (by decide))]
  rw [ob_eq (m_app (x := oL 14) (y := oL 383) μ (by decide) (by decide))]
  rw [ob_eq (m_app (x := oL 383) (y := oL 10346) μ (by decide) (by decide))]
  rw [ob_eq (m_app (x := oL 10346) (y := oL 279346) μ (by decide) (by decide))]
  rw [ob_eq (m_app (x := oL 279346) (y := oL 7542361) μ (by decide) (by decide))]
  rw [ob_eq (m_app0 _ μ)]
  rw [ob_eq (m_app0 _ μ)]
  rfl
theorem mlt_7 (μ : Mem) : m_letters (nI 119) (nI 111) (nI 114) (nI 116) (nI 104) (nI 0) (nI 0) μ = some (keyV 7, μ) := by
  unfold m_letters
  rw [ob_eq (m_app (x := (0 : Int64)) (y := oL 23) μ (by decide) (by decide))]
  rw [ob_eq (m_app (x := oL 23) (y := oL 636) μ (by decide) (by decide))]
  rw [ob_eq (m_app (x := oL 636) (y := oL 17190) μ (by decide) (by decide))]
  rw [ob_eq (m_app (x := oL 17190) (y := oL 464150) μ (by decide) (by decide))]
  rw [ob_eq (m_app (x := oL 464150) (y := oL 12532058) μ (by decide) (by decide))]
  rw [ob_eq (m_app0 _ μ)]
  rw [ob_eq (m_app0 _ μ)]
  rfl
theorem mlt_8 (μ : Mem) : m_letters (nI 99) (nI 111) (nI 115) (nI 116) (nI 115) (nI 0) (nI 0) μ = some (keyV 8, μ) := by
  unfold m_letters
  rw [ob_eq (m_app (x := (0 : Int64)) (y := oL 3) μ (by decide) (by decide))]
  rw [ob_eq (m_app (x := oL 3) (y := oL 96) μ (by decide) (by decide))]
  rw [ob_eq (m_app (x := oL 96) (y := oL 2611) μ (by decide) (by decide))]
  rw [ob_eq (m_app (x := oL 2611) (y := oL 70517) μ (by decide) (by decide))]
  rw [ob_eq (m_app (x := oL 70517) (y := oL 1903978) μ (by decide) (by decide))]
  rw [ob_eq (m_app0 _ μ)]
  rw [ob_eq (m_app0 _ μ)]
  rfl
theorem mlt_9 (μ : Mem) : m_letters (nI 115) (nI 105) (nI 108) (nI 116) (nI 115) (nI 0) (nI 0) μ = some (keyV 9, μ) := by
  unfold m_letters
  rw [ob_eq (m_app (x := (0 : Int64)) (y := oL 19) μ (by decide) (by decide))]
  rw [ob_eq (m_app (x := oL 19) (y := oL 522) μ (by decide) (by decide))]
  rw [ob_eq (m_app (x := oL 522) (y := oL 14106) μ (by decide) (by decide))]
  rw [ob_eq (m_app (x := oL 14106) (y := oL 380882) μ (by decide) (by decide))]
  rw [ob_eq (m_app (x := oL 380882) (y := oL 10283833) μ (by decide) (by decide))]
  rw [ob_eq (m_app0 _ μ)]
  rw [ob_eq (m_app0 _ μ)]
  rfl
theorem mlt_10 (μ : Mem) : m_letters (nI 115) (nI 101) (nI 101) (nI 100) (nI 0) (nI 0) (nI 0) μ = some (keyV 10, μ) := by
  unfold m_letters
  rw [ob_eq (m_app (x := (0 : Int64)) (y := oL 19) μ (by decide) (by decide))]
  rw [ob_eq (m_app (x := oL 19) (y := oL 518) μ (by decide) (by decide))]
  rw [ob_eq (m_app (x := oL 518) (y := oL 13991) μ (by decide) (by decide))]
  rw [ob_eq (m_app (x := oL 13991) (y := oL 377761) μ (by decide) (by decide))]
  rw [ob_eq (m_app0 _ μ)]
  rw [ob_eq (m_app0 _ μ)]
  rw [ob_eq (m_app0 _ μ)]
  rfl
theorem mlt_11 (μ : Mem) : m_letters (nI 105) (nI 102) (nI 0) (nI 0) (nI 0) (nI 0) (nI 0) μ = some (keyV 11, μ) := by
  unfold m_letters
  rw [ob_eq (m_app (x := (0 : Int64)) (y := oL 9) μ (by decide) (by decide))]
  rw [ob_eq (m_app (x := oL 9) (y := oL 249) μ (by decide) (by decide))]
  rw [ob_eq (m_app0 _ μ)]
  rw [ob_eq (m_app0 _ μ)]
  rw [ob_eq (m_app0 _ μ)]
  rw [ob_eq (m_app0 _ μ)]
  rw [ob_eq (m_app0 _ μ)]
  rfl
theorem mlt_12 (μ : Mem) : m_letters (nI 116) (nI 104) (nI 101) (nI 110) (nI 0) (nI 0) (nI 0) μ = some (keyV 12, μ) := by
  unfold m_letters
  rw [ob_eq (m_app (x := (0 : Int64)) (y := oL 20) μ (by decide) (by decide))]
  rw [ob_eq (m_app (x := oL 20) (y := oL 548) μ (by decide) (by decide))]
  rw [ob_eq (m_app (x := oL 548) (y := oL 14801) μ (by decide) (by decide))]
  rw [ob_eq (m_app (x := oL 14801) (y := oL 399641) μ (by decide) (by decide))]
  rw [ob_eq (m_app0 _ μ)]
  rw [ob_eq (m_app0 _ μ)]
  rw [ob_eq (m_app0 _ μ)]
  rfl
theorem mlt_13 (μ : Mem) : m_letters (nI 101) (nI 108) (nI 115) (nI 101) (nI 0) (nI 0) (nI 0) μ = some (keyV 13, μ) := by
  unfold m_letters
  rw [ob_eq (m_app (x := (0 : Int64)) (y := oL 5) μ (by decide) (by decide))]
  rw [ob_eq (m_app (x := oL 5) (y := oL 147) μ (by decide) (by decide))]
  rw [ob_eq (m_app (x := oL 147) (y := oL 3988) μ (by decide) (by decide))]
  rw [ob_eq (m_app (x := oL 3988) (y := oL 107681) μ (by decide) (by decide))]
  rw [ob_eq (m_app0 _ μ)]
  rw [ob_eq (m_app0 _ μ)]
  rw [ob_eq (m_app0 _ μ)]
  rfl
theorem mlt_14 (μ : Mem) : m_letters (nI 102) (nI 108) (nI 111) (nI 119) (nI 0) (nI 0) (nI 0) μ = some (keyV 14, μ) := by
  unfold m_letters
  rw [ob_eq (m_app (x := (0 : Int64)) (y := oL 6) μ (by decide) (by decide))]
  rw [ob_eq (m_app (x := oL 6) (y := oL 174) μ (by decide) (by decide))]
  rw [ob_eq (m_app (x := oL 174) (y := oL 4713) μ (by decide) (by decide))]
  rw [ob_eq (m_app (x := oL 4713) (y := oL 127274) μ (by decide) (by decide))]
  rw [ob_eq (m_app0 _ μ)]
  rw [ob_eq (m_app0 _ μ)]
  rw [ob_eq (m_app0 _ μ)]
  rfl
theorem mlt_15 (μ : Mem) : m_letters (nI 97) (nI 114) (nI 101) (nI 97) (nI 0) (nI 0) (nI 0) μ = some (keyV 15, μ) := by
  unfold m_letters
  rw [ob_eq (m_app (x := (0 : Int64)) (y := oL 1) μ (by decide) (by decide))]
  rw [ob_eq (m_app (x := oL 1) (y := oL 45) μ (by decide) (by decide))]
  rw [ob_eq (m_app (x := oL 45) (y := oL 1220) μ (by decide) (by decide))]
  rw [ob_eq (m_app (x := oL 1220) (y := oL 32941) μ (by decide) (by decide))]
  rw [ob_eq (m_app0 _ μ)]
  rw [ob_eq (m_app0 _ μ)]
  rw [ob_eq (m_app0 _ μ)]
  rfl
theorem mlt_16 (μ : Mem) : m_letters (nI 119) (nI 105) (nI 100) (nI 101) (nI 0) (nI 0) (nI 0) μ = some (keyV 16, μ) := by
  unfold m_letters
  rw [ob_eq (m_app (x := (0 : Int64)) (y := oL 23) μ (by decide) (by decide))]
  rw [ob_eq (m_app (x := oL 23) (y := oL 630) μ (by decide) (by decide))]
  rw [ob_eq (m_app (x := oL 630) (y := oL 17014) μ (by decide) (by decide))]
  rw [ob_eq (m_app (x := oL 17014) (y := oL 459383) μ (by decide) (by decide))]
  rw [ob_eq (m_app0 _ μ)]
  rw [ob_eq (m_app0 _ μ)]
  rw [ob_eq (m_app0 _ μ)]
  rfl
theorem mlt_17 (μ : Mem) : m_letters (nI 103) (nI 114) (nI 111) (nI 119) (nI 110) (nI 0) (nI 0) μ = some (keyV 17, μ) := by
  unfold m_letters
  rw [ob_eq (m_app (x := (0 : Int64)) (y := oL 7) μ (by decide) (by decide))]
  rw [ob_eq (m_app (x := oL 7) (y := oL 207) μ (by decide) (by decide))]
  rw [ob_eq (m_app (x := oL 207) (y := oL 5604) μ (by decide) (by decide))]
  rw [ob_eq (m_app (x := oL 5604) (y := oL 151331) μ (by decide) (by decide))]
  rw [ob_eq (m_app (x := oL 151331) (y := oL 4085951) μ (by decide) (by decide))]
  rw [ob_eq (m_app0 _ μ)]
  rw [ob_eq (m_app0 _ μ)]
  rfl
theorem mlt_18 (μ : Mem) : m_letters (nI 100) (nI 97) (nI 121) (nI 0) (nI 0) (nI 0) (nI 0) μ = some (keyV 18, μ) := by
  unfold m_letters
  rw [ob_eq (m_app (x := (0 : Int64)) (y := oL 4) μ (by decide) (by decide))]
  rw [ob_eq (m_app (x := oL 4) (y := oL 109) μ (by decide) (by decide))]
  rw [ob_eq (m_app (x := oL 109) (y := oL 2968) μ (by decide) (by decide))]
  rw [ob_eq (m_app0 _ μ)]
  rw [ob_eq (m_app0 _ μ)]
  rw [ob_eq (m_app0 _ μ)]
  rw [ob_eq (m_app0 _ μ)]
  rfl
theorem mlt_19 (μ : Mem) : m_letters (nI 119) (nI 104) (nI 105) (nI 99) (nI 104) (nI 0) (nI 0) μ = some (keyV 19, μ) := by
  unfold m_letters
  rw [ob_eq (m_app (x := (0 : Int64)) (y := oL 23) μ (by decide) (by decide))]
  rw [ob_eq (m_app (x := oL 23) (y := oL 629) μ (by decide) (by decide))]
  rw [ob_eq (m_app (x := oL 629) (y := oL 16992) μ (by decide) (by decide))]
  rw [ob_eq (m_app (x := oL 16992) (y := oL 458787) μ (by decide) (by decide))]
  rw [ob_eq (m_app (x := oL 458787) (y := oL 12387257) μ (by decide) (by decide))]
  rw [ob_eq (m_app0 _ μ)]
  rw [ob_eq (m_app0 _ μ)]
  rfl
theorem mlt_20 (μ : Mem) : m_letters (nI 115) (nI 116) (nI 111) (nI 114) (nI 101) (nI 0) (nI 0) μ = some (keyV 20, μ) := by
  unfold m_letters
  rw [ob_eq (m_app (x := (0 : Int64)) (y := oL 19) μ (by decide) (by decide))]
  rw [ob_eq (m_app (x := oL 19) (y := oL 533) μ (by decide) (by decide))]
  rw [ob_eq (m_app (x := oL 533) (y := oL 14406) μ (by decide) (by decide))]
  rw [ob_eq (m_app (x := oL 14406) (y := oL 388980) μ (by decide) (by decide))]
  rw [ob_eq (m_app (x := oL 388980) (y := oL 10502465) μ (by decide) (by decide))]
  rw [ob_eq (m_app0 _ μ)]
  rw [ob_eq (m_app0 _ μ)]
  rfl
theorem mlt_21 (μ : Mem) : m_letters (nI 108) (nI 111) (nI 103) (nI 115) (nI 0) (nI 0) (nI 0) μ = some (keyV 21, μ) := by
  unfold m_letters
  rw [ob_eq (m_app (x := (0 : Int64)) (y := oL 12) μ (by decide) (by decide))]
  rw [ob_eq (m_app (x := oL 12) (y := oL 339) μ (by decide) (by decide))]
  rw [ob_eq (m_app (x := oL 339) (y := oL 9160) μ (by decide) (by decide))]
  rw [ob_eq (m_app (x := oL 9160) (y := oL 247339) μ (by decide) (by decide))]
  rw [ob_eq (m_app0 _ μ)]
  rw [ob_eq (m_app0 _ μ)]
  rw [ob_eq (m_app0 _ μ)]
  rfl
theorem mlt_22 (μ : Mem) : m_letters (nI 102) (nI 105) (nI 101) (nI 108) (nI 100) (nI 115) (nI 0) μ = some (keyV 22, μ) := by
  unfold m_letters
  rw [ob_eq (m_app (x := (0 : Int64)) (y := oL 6) μ (by decide) (by decide))]
  rw [ob_eq (m_app (x := oL 6) (y := oL 171) μ (by decide) (by decide))]
  rw [ob_eq (m_app (x := oL 171) (y := oL 4622) μ (by decide) (by decide))]
  rw [ob_eq (m_app (x := oL 4622) (y := oL 124806) μ (by decide) (by decide))]
  rw [ob_eq (m_app (x := oL 124806) (y := oL 3369766) μ (by decide) (by decide))]
  rw [ob_eq (m_app (x := oL 3369766) (y := oL 90983701) μ (by decide) (by decide))]
  rw [ob_eq (m_app0 _ μ)]
  rfl
theorem kl_0 {κ : Mem} {Q : Option V → Mem → Prop} (hC : CM κ) (kk : Wp 2 2 154 429 [(0, vr 55 0)] [] (stL κ 62 0 0 (keyV 0)) 48 10993 Q) : Wp 2 2 154 410 [(0, vr 55 0)] [] κ 48 10993 Q := by
  refine rn_ok ckx_154 (cut := cux_154) 1 _ _ _ _ _ _ (And.intro (by decide) (And.intro (by decide) (And.intro (by decide) (And.intro (by decide) (And.intro rfl (And.intro (lt_capm hC (by decide) (by decide) (by decide)) (Exists.intro 0 (And.intro (refI_s 2 rfl (by decide) (by decide)) (And.intro (by decide) (And.intro (by decide) (And.intro (by decide) (And.intro (by decide) (And.intro (by decide) (And.intro (by decide) (And.intro (by decide) (And.intro (by decide) (And.intro (by decide) (And.intro (by decide) (And.intro (by decide) (And.intro (by decide) (And.intro (by decide) (And.intro (by decide) (And.intro (by decide) (And.intro (by decide) (And.intro (by decide) (And.intro (by decide) (And.intro (And.intro (Nat.le_of_ble_eq_true rfl) (Nat.le_of_ble_eq_true rfl)) (w_post ?_ (w_m_letters (md := 2) (by decide) (mlt_0 κ) hC)))))))))))))))))))))))))))))
  rintro w μ1 ⟨rfl, ee, -⟩
  have ee : κ = μ1 := ee.symm
  subst ee
  exact And.intro (by decide) (And.intro (by decide) (And.intro rfl (And.intro (lt_capm hC (by decide) (by decide) (by decide)) (And.intro (inB_in (by decide)) kk))))
theorem kls_0 {ν2 κ : Mem} {Q : Option V → Mem → Prop} (kj : Kj ν2 κ 0) (hC : CM κ) (kk : ∀ κ, Kj ν2 κ 1 → CM κ → Wp 2 2 154 429 [(0, vr 55 0)] [] κ 48 10993 Q) : Wp 2 2 154 410 [(0, vr 55 0)] [] κ 48 10993 Q := kl_0 hC (kk _ kj.st (CMstL hC))
theorem kl_1 {κ : Mem} {Q : Option V → Mem → Prop} (hC : CM κ) (kk : Wp 2 2 154 450 [(0, vr 55 0)] [] (stL κ 62 0 1 (keyV 1)) 48 10993 Q) : Wp 2 2 154 429 [(0, vr 55 0)] [] κ 48 10993 Q := by
  refine rn_ok ckx_154 (cut := cux_154) 1 _ _ _ _ _ _ (And.intro (by decide) (And.intro (by decide) (And.intro (by decide) (And.intro (by decide) (And.intro rfl (And.intro (lt_capm hC (by decide) (by decide) (by decide)) (Exists.intro 0 (And.intro (refI_s 2 rfl (by decide) (by decide)) (And.intro (by decide) (And.intro (by decide) (And.intro (by decide) (And.intro (by decide) (And.intro (by decide) (And.intro (by decide) (And.intro (by decide) (And.intro (by decide) (And.intro (by decide) (And.intro (by decide) (And.intro (by decide) (And.intro (by decide) (And.intro (by decide) (And.intro (by decide) (And.intro (by decide) (And.intro (by decide) (And.intro (by decide) (And.intro (by decide) (And.intro (And.intro (Nat.le_of_ble_eq_true rfl) (Nat.le_of_ble_eq_true rfl)) (w_post ?_ (w_m_letters (md := 2) (by decide) (mlt_1 κ) hC)))))))))))))))))))))))))))))
  rintro w μ1 ⟨rfl, ee, -⟩
  have ee : κ = μ1 := ee.symm
  subst ee
  exact And.intro (by decide) (And.intro (by decide) (And.intro rfl (And.intro (lt_capm hC (by decide) (by decide) (by decide)) (And.intro (inB_in (by decide)) kk))))
theorem kls_1 {ν2 κ : Mem} {Q : Option V → Mem → Prop} (kj : Kj ν2 κ 1) (hC : CM κ) (kk : ∀ κ, Kj ν2 κ 2 → CM κ → Wp 2 2 154 450 [(0, vr 55 0)] [] κ 48 10993 Q) : Wp 2 2 154 429 [(0, vr 55 0)] [] κ 48 10993 Q := kl_1 hC (kk _ kj.st (CMstL hC))
theorem kl_2 {κ : Mem} {Q : Option V → Mem → Prop} (hC : CM κ) (kk : Wp 2 2 154 471 [(0, vr 55 0)] [] (stL κ 62 0 2 (keyV 2)) 48 10993 Q) : Wp 2 2 154 450 [(0, vr 55 0)] [] κ 48 10993 Q := by
  refine rn_ok ckx_154 (cut := cux_154) 1 _ _ _ _ _ _ (And.intro (by decide) (And.intro (by decide) (And.intro (by decide) (And.intro (by decide) (And.intro rfl (And.intro (lt_capm hC (by decide) (by decide) (by decide)) (Exists.intro 0 (And.intro (refI_s 2 rfl (by decide) (by decide)) (And.intro (by decide) (And.intro (by decide) (And.intro (by decide) (And.intro (by decide) (And.intro (by decide) (And.intro (by decide) (And.intro (by decide) (And.intro (by decide) (And.intro (by decide) (And.intro (by decide) (And.intro (by decide) (And.intro (by decide) (And.intro (by decide) (And.intro (by decide) (And.intro (by decide) (And.intro (by decide) (And.intro (by decide) (And.intro (by decide) (And.intro (And.intro (Nat.le_of_ble_eq_true rfl) (Nat.le_of_ble_eq_true rfl)) (w_post ?_ (w_m_letters (md := 2) (by decide) (mlt_2 κ) hC)))))))))))))))))))))))))))))
  rintro w μ1 ⟨rfl, ee, -⟩
  have ee : κ = μ1 := ee.symm
  subst ee
  exact And.intro (by decide) (And.intro (by decide) (And.intro rfl (And.intro (lt_capm hC (by decide) (by decide) (by decide)) (And.intro (inB_in (by decide)) kk))))
theorem kls_2 {ν2 κ : Mem} {Q : Option V → Mem → Prop} (kj : Kj ν2 κ 2) (hC : CM κ) (kk : ∀ κ, Kj ν2 κ 3 → CM κ → Wp 2 2 154 471 [(0, vr 55 0)] [] κ 48 10993 Q) : Wp 2 2 154 450 [(0, vr 55 0)] [] κ 48 10993 Q := kl_2 hC (kk _ kj.st (CMstL hC))
theorem kl_3 {κ : Mem} {Q : Option V → Mem → Prop} (hC : CM κ) (kk : Wp 2 2 154 492 [(0, vr 55 0)] [] (stL κ 62 0 3 (keyV 3)) 48 10993 Q) : Wp 2 2 154 471 [(0, vr 55 0)] [] κ 48 10993 Q := by
  refine rn_ok ckx_154 (cut := cux_154) 1 _ _ _ _ _ _ (And.intro (by decide) (And.intro (by decide) (And.intro (by decide) (And.intro (by decide) (And.intro rfl (And.intro (lt_capm hC (by decide) (by decide) (by decide)) (Exists.intro 0 (And.intro (refI_s 2 rfl (by decide) (by decide)) (And.intro (by decide) (And.intro (by decide) (And.intro (by decide) (And.intro (by decide) (And.intro (by decide) (And.intro (by decide) (And.intro (by decide) (And.intro (by decide) (And.intro (by decide) (And.intro (by decide) (And.intro (by decide) (And.intro (by decide) (And.intro (by decide) (And.intro (by decide) (And.intro (by decide) (And.intro (by decide) (And.intro (by decide) (And.intro (by decide) (And.intro (And.intro (Nat.le_of_ble_eq_true rfl) (Nat.le_of_ble_eq_true rfl)) (w_post ?_ (w_m_letters (md := 2) (by decide) (mlt_3 κ) hC)))))))))))))))))))))))))))))
  rintro w μ1 ⟨rfl, ee, -⟩
  have ee : κ = μ1 := ee.symm
  subst ee
  exact And.intro (by decide) (And.intro (by decide) (And.intro rfl (And.intro (lt_capm hC (by decide) (by decide) (by decide)) (And.intro (inB_in (by decide)) kk))))
theorem kls_3 {ν2 κ : Mem} {Q : Option V → Mem → Prop} (kj : Kj ν2 κ 3) (hC : CM κ) (kk : ∀ κ, Kj ν2 κ 4 → CM κ → Wp 2 2 154 492 [(0, vr 55 0)] [] κ 48 10993 Q) : Wp 2 2 154 471 [(0, vr 55 0)] [] κ 48 10993 Q := kl_3 hC (kk _ kj.st (CMstL hC))
theorem kl_4 {κ : Mem} {Q : Option V → Mem → Prop} (hC : CM κ) (kk : Wp 2 2 154 514 [(0, vr 55 0)] [] (stL κ 62 0 4 (keyV 4)) 48 10993 Q) : Wp 2 2 154 492 [(0, vr 55 0)] [] κ 48 10993 Q := by
  refine rn_ok ckx_154 (cut := cux_154) 1 _ _ _ _ _ _ (And.intro (by decide) (And.intro (by decide) (And.intro (by decide) (And.intro (by decide) (And.intro rfl (And.intro (lt_capm hC (by decide) (by decide) (by decide)) (Exists.intro 0 (And.intro (refI_s 2 rfl (by decide) (by decide)) (And.intro (by decide) (And.intro (by decide) (And.intro (by decide) (And.intro (by decide) (And.intro (by decide) (And.intro (by decide) (And.intro (by decide) (And.intro (by decide) (And.intro (by decide) (And.intro (by decide) (And.intro (by decide) (And.intro (by decide) (And.intro (by decide) (And.intro (by decide) (And.intro (by decide) (And.intro (by decide) (And.intro (by decide) (And.intro (by decide) (And.intro (And.intro (Nat.le_of_ble_eq_true rfl) (Nat.le_of_ble_eq_true rfl)) (w_post ?_ (w_m_letters (md := 2) (by decide) (mlt_4 κ) hC)))))))))))))))))))))))))))))
  rintro w μ1 ⟨rfl, ee, -⟩
  have ee : κ = μ1 := ee.symm
  subst ee
  exact And.intro (by decide) (And.intro (by decide) (And.intro rfl (And.intro (lt_capm hC (by decide) (by decide) (by decide)) (And.intro (inB_in (by decide)) kk))))
theorem kls_4 {ν2 κ : Mem} {Q : Option V → Mem → Prop} (kj : Kj ν2 κ 4) (hC : CM κ) (kk : ∀ κ, Kj ν2 κ 5 → CM κ → Wp 2 2 154 514 [(0, vr 55 0)] [] κ 48 10993 Q) : Wp 2 2 154 492 [(0, vr 55 0)] [] κ 48 10993 Q := kl_4 hC (kk _ kj.st (CMstL hC))
theorem kl_5 {κ : Mem} {Q : Option V → Mem → Prop} (hC : CM κ) (kk : Wp 2 2 154 535 [(0, vr 55 0)] [] (stL κ 62 0 5 (keyV 5)) 48 10993 Q) : Wp 2 2 154 514 [(0, vr 55 0)] [] κ 48 10993 Q := by
  refine rn_ok ckx_154 (cut := cux_154) 1 _ _ _ _ _ _ (And.intro (by decide) (And.intro (by decide) (And.intro (by decide) (And.intro (by decide) (And.intro rfl (And.intro (lt_capm hC (by decide) (by decide) (by decide)) (Exists.intro 0 (And.intro (refI_s 2 rfl (by decide) (by decide)) (And.intro (by decide) (And.intro (by decide) (And.intro (by decide) (And.intro (by decide) (And.intro (by decide) (And.intro (by decide) (And.intro (by decide) (And.intro (by decide) (And.intro (by decide) (And.intro (by decide) (And.intro (by decide) (And.intro (by decide) (And.intro (by decide) (And.intro (by decide) (And.intro (by decide) (And.intro (by decide) (And.intro (by decide) (And.intro (by decide) (And.intro (And.intro (Nat.le_of_ble_eq_true rfl) (Nat.le_of_ble_eq_true rfl)) (w_post ?_ (w_m_letters (md := 2) (by decide) (mlt_5 κ) hC)))))))))))))))))))))))))))))
  rintro w μ1 ⟨rfl, ee, -⟩
  have ee : κ = μ1 := ee.symm
  subst ee
  exact And.intro (by decide) (And.intro (by decide) (And.intro rfl (And.intro (lt_capm hC (by decide) (by decide) (by decide)) (And.intro (inB_in (by decide)) kk))))
theorem kls_5 {ν2 κ : Mem} {Q : Option V → Mem → Prop} (kj : Kj ν2 κ 5) (hC : CM κ) (kk : ∀ κ, Kj ν2 κ 6 → CM κ → Wp 2 2 154 535 [(0, vr 55 0)] [] κ 48 10993 Q) : Wp 2 2 154 514 [(0, vr 55 0)] [] κ 48 10993 Q := kl_5 hC (kk _ kj.st (CMstL hC))
theorem kl_6 {κ : Mem} {Q : Option V → Mem → Prop} (hC : CM κ) (kk : Wp 2 2 154 557 [(0, vr 55 0)] [] (stL κ 62 0 6 (keyV 6)) 48 10993 Q) : Wp 2 2 154 535 [(0, vr 55 0)] [] κ 48 10993 Q := by
  refine rn_ok ckx_154 (cut := cux_154) 1 _ _ _ _ _ _ (And.intro (by decide) (And.intro (by decide) (And.intro (by decide) (And.intro (by decide) (And.intro rfl (And.intro (lt_capm hC (by decide) (by decide) (by decide)) (Exists.intro 0 (And.intro (refI_s 2 rfl (by decide) (by decide)) (And.intro (by decide) (And.intro (by decide) (And.intro (by decide) (And.intro (by decide) (And.intro (by decide) (And.intro (by decide) (And.intro (by decide) (And.intro (by decide) (And.intro (by decide) (And.intro (by decide) (And.intro (by decide) (And.intro (by decide) (And.intro (by decide) (And.intro (by decide) (And.intro (by decide) (And.intro (by decide) (And.intro (by decide) (And.intro (by decide) (And.intro (And.intro (Nat.le_of_ble_eq_true rfl) (Nat.le_of_ble_eq_true rfl)) (w_post ?_ (w_m_letters (md := 2) (by decide) (mlt_6 κ) hC)))))))))))))))))))))))))))))
  rintro w μ1 ⟨rfl, ee, -⟩
  have ee : κ = μ1 := ee.symm
  subst ee
  exact And.intro (by decide) (And.intro (by decide) (And.intro rfl (And.intro (lt_capm hC (by decide) (by decide) (by decide)) (And.intro (inB_in (by decide)) kk))))
theorem kls_6 {ν2 κ : Mem} {Q : Option V → Mem → Prop} (kj : Kj ν2 κ 6) (hC : CM κ) (kk : ∀ κ, Kj ν2 κ 7 → CM κ → Wp 2 2 154 557 [(0, vr 55 0)] [] κ 48 10993 Q) : Wp 2 2 154 535 [(0, vr 55 0)] [] κ 48 10993 Q := kl_6 hC (kk _ kj.st (CMstL hC))
theorem kl_7 {κ : Mem} {Q : Option V → Mem → Prop} (hC : CM κ) (kk : Wp 2 2 154 579 [(0, vr 55 0)] [] (stL κ 62 0 7 (keyV 7)) 48 10993 Q) : Wp 2 2 154 557 [(0, vr 55 0)] [] κ 48 10993 Q := by
  refine rn_ok ckx_154 (cut := cux_154) 1 _ _ _ _ _ _ (And.intro (by decide) (And.intro (by decide) (And.intro (by decide) (And.intro (by decide) (And.intro rfl (And.intro (lt_capm hC (by decide) (by decide) (by decide)) (Exists.intro 0 (And.intro (refI_s 2 rfl (by decide) (by decide)) (And.intro (by decide) (And.intro (by decide) (And.intro (by decide) (And.intro (by decide) (And.intro (by decide) (And.intro (by decide) (And.intro (by decide) (And.intro (by decide) (And.intro (by decide) (And.intro (by decide) (And.intro (by decide) (And.intro (by decide) (And.intro (by decide) (And.intro (by decide) (And.intro (by decide) (And.intro (by decide) (And.intro (by decide) (And.intro (by decide) (And.intro (And.intro (Nat.le_of_ble_eq_true rfl) (Nat.le_of_ble_eq_true rfl)) (w_post ?_ (w_m_letters (md := 2) (by decide) (mlt_7 κ) hC)))))))))))))))))))))))))))))
  rintro w μ1 ⟨rfl, ee, -⟩
  have ee : κ = μ1 := ee.symm
  subst ee
  exact And.intro (by decide) (And.intro (by decide) (And.intro rfl (And.intro (lt_capm hC (by decide) (by decide) (by decide)) (And.intro (inB_in (by decide)) kk))))
theorem kls_7 {ν2 κ : Mem} {Q : Option V → Mem → Prop} (kj : Kj ν2 κ 7) (hC : CM κ) (kk : ∀ κ, Kj ν2 κ 8 → CM κ → Wp 2 2 154 579 [(0, vr 55 0)] [] κ 48 10993 Q) : Wp 2 2 154 557 [(0, vr 55 0)] [] κ 48 10993 Q := kl_7 hC (kk _ kj.st (CMstL hC))
theorem kl_8 {κ : Mem} {Q : Option V → Mem → Prop} (hC : CM κ) (kk : Wp 2 2 154 601 [(0, vr 55 0)] [] (stL κ 62 0 8 (keyV 8)) 48 10993 Q) : Wp 2 2 154 579 [(0, vr 55 0)] [] κ 48 10993 Q := by
  refine rn_ok ckx_154 (cut := cux_154) 1 _ _ _ _ _ _ (And.intro (by decide) (And.intro (by decide) (And.intro (by decide) (And.intro (by decide) (And.intro rfl (And.intro (lt_capm hC (by decide) (by decide) (by decide)) (Exists.intro 0 (And.intro (refI_s 2 rfl (by decide) (by decide)) (And.intro (by decide) (And.intro (by decide) (And.intro (by decide) (And.intro (by decide) (And.intro (by decide) (And.intro (by decide) (And.intro (by decide) (And.intro (by decide) (And.intro (by decide) (And.intro (by decide) (And.intro (by decide) (And.intro (by decide) (And.intro (by decide) (And.intro (by decide) (And.intro (by decide) (And.intro (by decide) (And.intro (by decide) (And.intro (by decide) (And.intro (And.intro (Nat.le_of_ble_eq_true rfl) (Nat.le_of_ble_eq_true rfl)) (w_post ?_ (w_m_letters (md := 2) (by decide) (mlt_8 κ) hC)))))))))))))))))))))))))))))
  rintro w μ1 ⟨rfl, ee, -⟩
  have ee : κ = μ1 := ee.symm
  subst ee
  exact And.intro (by decide) (And.intro (by decide) (And.intro rfl (And.intro (lt_capm hC (by decide) (by decide) (by decide)) (And.intro (inB_in (by decide)) kk))))
theorem kls_8 {ν2 κ : Mem} {Q : Option V → Mem → Prop} (kj : Kj ν2 κ 8) (hC : CM κ) (kk : ∀ κ, Kj ν2 κ 9 → CM κ → Wp 2 2 154 601 [(0, vr 55 0)] [] κ 48 10993 Q) : Wp 2 2 154 579 [(0, vr 55 0)] [] κ 48 10993 Q := kl_8 hC (kk _ kj.st (CMstL hC))
theorem kl_9 {κ : Mem} {Q : Option V → Mem → Prop} (hC : CM κ) (kk : Wp 2 2 154 623 [(0, vr 55 0)] [] (stL κ 62 0 9 (keyV 9)) 48 10993 Q) : Wp 2 2 154 601 [(0, vr 55 0)] [] κ 48 10993 Q := by
  refine rn_ok ckx_154 (cut := cux_154) 1 _ _ _ _ _ _ (And.intro (by decide) (And.intro (by decide) (And.intro (by decide) (And.intro (by decide) (And.intro rfl (And.intro (lt_capm hC (by decide) (by decide) (by decide)) (Exists.intro 0 (And.intro (refI_s 2 rfl (by decide) (by decide)) (And.intro (by decide) (And.intro (by decide) (And.intro (by decide) (And.intro (by decide) (And.intro (by decide) (And.intro (by decide) (And.intro (by decide) (And.intro (by decide) (And.intro (by decide) (And.intro (by decide) (And.intro (by decide) (And.intro (by decide) (And.intro (by decide) (And.intro (by decide) (And.intro (by decide) (And.intro (by decide) (And.intro (by decide) (And.intro (by decide) (And.intro (And.intro (Nat.le_of_ble_eq_true rfl) (Nat.le_of_ble_eq_true rfl)) (w_post ?_ (w_m_letters (md := 2) (by decide) (mlt_9 κ) hC)))))))))))))))))))))))))))))
  rintro w μ1 ⟨rfl, ee, -⟩
  have ee : κ = μ1 := ee.symm
  subst ee
  exact And.intro (by decide) (And.intro (by decide) (And.intro rfl (And.intro (lt_capm hC (by decide) (by decide) (by decide)) (And.intro (inB_in (by decide)) kk))))
theorem kls_9 {ν2 κ : Mem} {Q : Option V → Mem → Prop} (kj : Kj ν2 κ 9) (hC : CM κ) (kk : ∀ κ, Kj ν2 κ 10 → CM κ → Wp 2 2 154 623 [(0, vr 55 0)] [] κ 48 10993 Q) : Wp 2 2 154 601 [(0, vr 55 0)] [] κ 48 10993 Q := kl_9 hC (kk _ kj.st (CMstL hC))
theorem kl_10 {κ : Mem} {Q : Option V → Mem → Prop} (hC : CM κ) (kk : Wp 2 2 154 644 [(0, vr 55 0)] [] (stL κ 62 0 10 (keyV 10)) 48 10993 Q) : Wp 2 2 154 623 [(0, vr 55 0)] [] κ 48 10993 Q := by
  refine rn_ok ckx_154 (cut := cux_154) 1 _ _ _ _ _ _ (And.intro (by decide) (And.intro (by decide) (And.intro (by decide) (And.intro (by decide) (And.intro rfl (And.intro (lt_capm hC (by decide) (by decide) (by decide)) (Exists.intro 0 (And.intro (refI_s 2 rfl (by decide) (by decide)) (And.intro (by decide) (And.intro (by decide) (And.intro (by decide) (And.intro (by decide) (And.intro (by decide) (And.intro (by decide) (And.intro (by decide) (And.intro (by decide) (And.intro (by decide) (And.intro (by decide) (And.intro (by decide) (And.intro (by decide) (And.intro (by decide) (And.intro (by decide) (And.intro (by decide) (And.intro (by decide) (And.intro (by decide) (And.intro (by decide) (And.intro (And.intro (Nat.le_of_ble_eq_true rfl) (Nat.le_of_ble_eq_true rfl)) (w_post ?_ (w_m_letters (md := 2) (by decide) (mlt_10 κ) hC)))))))))))))))))))))))))))))
  rintro w μ1 ⟨rfl, ee, -⟩
  have ee : κ = μ1 := ee.symm
  subst ee
  exact And.intro (by decide) (And.intro (by decide) (And.intro rfl (And.intro (lt_capm hC (by decide) (by decide) (by decide)) (And.intro (inB_in (by decide)) kk))))
theorem kls_10 {ν2 κ : Mem} {Q : Option V → Mem → Prop} (kj : Kj ν2 κ 10) (hC : CM κ) (kk : ∀ κ, Kj ν2 κ 11 → CM κ → Wp 2 2 154 644 [(0, vr 55 0)] [] κ 48 10993 Q) : Wp 2 2 154 623 [(0, vr 55 0)] [] κ 48 10993 Q := kl_10 hC (kk _ kj.st (CMstL hC))
theorem kl_11 {κ : Mem} {Q : Option V → Mem → Prop} (hC : CM κ) (kk : Wp 2 2 154 663 [(0, vr 55 0)] [] (stL κ 62 0 11 (keyV 11)) 48 10993 Q) : Wp 2 2 154 644 [(0, vr 55 0)] [] κ 48 10993 Q := by
  refine rn_ok ckx_154 (cut := cux_154) 1 _ _ _ _ _ _ (And.intro (by decide) (And.intro (by decide) (And.intro (by decide) (And.intro (by decide) (And.intro rfl (And.intro (lt_capm hC (by decide) (by decide) (by decide)) (Exists.intro 0 (And.intro (refI_s 2 rfl (by decide) (by decide)) (And.intro (by decide) (And.intro (by decide) (And.intro (by decide) (And.intro (by decide) (And.intro (by decide) (And.intro (by decide) (And.intro (by decide) (And.intro (by decide) (And.intro (by decide) (And.intro (by decide) (And.intro (by decide) (And.intro (by decide) (And.intro (by decide) (And.intro (by decide) (And.intro (by decide) (And.intro (by decide) (And.intro (by decide) (And.intro (by decide) (And.intro (And.intro (Nat.le_of_ble_eq_true rfl) (Nat.le_of_ble_eq_true rfl)) (w_post ?_ (w_m_letters (md := 2) (by decide) (mlt_11 κ) hC)))))))))))))))))))))))))))))
  rintro w μ1 ⟨rfl, ee, -⟩
  have ee : κ = μ1 := ee.symm
  subst ee
  exact And.intro (by decide) (And.intro (by decide) (And.intro rfl (And.intro (lt_capm hC (by decide) (by decide) (by decide)) (And.intro (inB_in (by decide)) kk))))
theorem kls_11 {ν2 κ : Mem} {Q : Option V → Mem → Prop} (kj : Kj ν2 κ 11) (hC : CM κ) (kk : ∀ κ, Kj ν2 κ 12 → CM κ → Wp 2 2 154 663 [(0, vr 55 0)] [] κ 48 10993 Q) : Wp 2 2 154 644 [(0, vr 55 0)] [] κ 48 10993 Q := kl_11 hC (kk _ kj.st (CMstL hC))
theorem kl_12 {κ : Mem} {Q : Option V → Mem → Prop} (hC : CM κ) (kk : Wp 2 2 154 684 [(0, vr 55 0)] [] (stL κ 62 0 12 (keyV 12)) 48 10993 Q) : Wp 2 2 154 663 [(0, vr 55 0)] [] κ 48 10993 Q := by
  refine rn_ok ckx_154 (cut := cux_154) 1 _ _ _ _ _ _ (And.intro (by decide) (And.intro (by decide) (And.intro (by decide) (And.intro (by decide) (And.intro rfl (And.intro (lt_capm hC (by decide) (by decide) (by decide)) (Exists.intro 0 (And.intro (refI_s 2 rfl (by decide) (by decide)) (And.intro (by decide) (And.intro (by decide) (And.intro (by decide) (And.intro (by decide) (And.intro (by decide) (And.intro (by decide) (And.intro (by decide) (And.intro (by decide) (And.intro (by decide) (And.intro (by decide) (And.intro (by decide) (And.intro (by decide) (And.intro (by decide) (And.intro (by decide) (And.intro (by decide) (And.intro (by decide) (And.intro (by decide) (And.intro (by decide) (And.intro (And.intro (Nat.le_of_ble_eq_true rfl) (Nat.le_of_ble_eq_true rfl)) (w_post ?_ (w_m_letters (md := 2) (by decide) (mlt_12 κ) hC)))))))))))))))))))))))))))))
  rintro w μ1 ⟨rfl, ee, -⟩
  have ee : κ = μ1 := ee.symm
  subst ee
  exact And.intro (by decide) (And.intro (by decide) (And.intro rfl (And.intro (lt_capm hC (by decide) (by decide) (by decide)) (And.intro (inB_in (by decide)) kk))))
theorem kls_12 {ν2 κ : Mem} {Q : Option V → Mem → Prop} (kj : Kj ν2 κ 12) (hC : CM κ) (kk : ∀ κ, Kj ν2 κ 13 → CM κ → Wp 2 2 154 684 [(0, vr 55 0)] [] κ 48 10993 Q) : Wp 2 2 154 663 [(0, vr 55 0)] [] κ 48 10993 Q := kl_12 hC (kk _ kj.st (CMstL hC))
theorem kl_13 {κ : Mem} {Q : Option V → Mem → Prop} (hC : CM κ) (kk : Wp 2 2 154 705 [(0, vr 55 0)] [] (stL κ 62 0 13 (keyV 13)) 48 10993 Q) : Wp 2 2 154 684 [(0, vr 55 0)] [] κ 48 10993 Q := by
  refine rn_ok ckx_154 (cut := cux_154) 1 _ _ _ _ _ _ (And.intro (by decide) (And.intro (by decide) (And.intro (by decide) (And.intro (by decide) (And.intro rfl (And.intro (lt_capm hC (by decide) (by decide) (by decide)) (Exists.intro 0 (And.intro (refI_s 2 rfl (by decide) (by decide)) (And.intro (by decide) (And.intro (by decide) (And.intro (by decide) (And.intro (by decide) (And.intro (by decide) (And.intro (by decide) (And.intro (by decide) (And.intro (by decide) (And.intro (by decide) (And.intro (by decide) (And.intro (by decide) (And.intro (by decide) (And.intro (by decide) (And.intro (by decide) (And.intro (by decide) (And.intro (by decide) (And.intro (by decide) (And.intro (by decide) (And.intro (And.intro (Nat.le_of_ble_eq_true rfl) (Nat.le_of_ble_eq_true rfl)) (w_post ?_ (w_m_letters (md := 2) (by decide) (mlt_13 κ) hC)))))))))))))))))))))))))))))
  rintro w μ1 ⟨rfl, ee, -⟩
  have ee : κ = μ1 := ee.symm
  subst ee
  exact And.intro (by decide) (And.intro (by decide) (And.intro rfl (And.intro (lt_capm hC (by decide) (by decide) (by decide)) (And.intro (inB_in (by decide)) kk))))
theorem kls_13 {ν2 κ : Mem} {Q : Option V → Mem → Prop} (kj : Kj ν2 κ 13) (hC : CM κ) (kk : ∀ κ, Kj ν2 κ 14 → CM κ → Wp 2 2 154 705 [(0, vr 55 0)] [] κ 48 10993 Q) : Wp 2 2 154 684 [(0, vr 55 0)] [] κ 48 10993 Q := kl_13 hC (kk _ kj.st (CMstL hC))
theorem kl_14 {κ : Mem} {Q : Option V → Mem → Prop} (hC : CM κ) (kk : Wp 2 2 154 726 [(0, vr 55 0)] [] (stL κ 62 0 14 (keyV 14)) 48 10993 Q) : Wp 2 2 154 705 [(0, vr 55 0)] [] κ 48 10993 Q := by
  refine rn_ok ckx_154 (cut := cux_154) 1 _ _ _ _ _ _ (And.intro (by decide) (And.intro (by decide) (And.intro (by decide) (And.intro (by decide) (And.intro rfl (And.intro (lt_capm hC (by decide) (by decide) (by decide)) (Exists.intro 0 (And.intro (refI_s 2 rfl (by decide) (by decide)) (And.intro (by decide) (And.intro (by decide) (And.intro (by decide) (And.intro (by decide) (And.intro (by decide) (And.intro (by decide) (And.intro (by decide) (And.intro (by decide) (And.intro (by decide) (And.intro (by decide) (And.intro (by decide) (And.intro (by decide) (And.intro (by decide) (And.intro (by decide) (And.intro (by decide) (And.intro (by decide) (And.intro (by decide) (And.intro (by decide) (And.intro (And.intro (Nat.le_of_ble_eq_true rfl) (Nat.le_of_ble_eq_true rfl)) (w_post ?_ (w_m_letters (md := 2) (by decide) (mlt_14 κ) hC)))))))))))))))))))))))))))))
  rintro w μ1 ⟨rfl, ee, -⟩
  have ee : κ = μ1 := ee.symm
  subst ee
  exact And.intro (by decide) (And.intro (by decide) (And.intro rfl (And.intro (lt_capm hC (by decide) (by decide) (by decide)) (And.intro (inB_in (by decide)) kk))))
theorem kls_14 {ν2 κ : Mem} {Q : Option V → Mem → Prop} (kj : Kj ν2 κ 14) (hC : CM κ) (kk : ∀ κ, Kj ν2 κ 15 → CM κ → Wp 2 2 154 726 [(0, vr 55 0)] [] κ 48 10993 Q) : Wp 2 2 154 705 [(0, vr 55 0)] [] κ 48 10993 Q := kl_14 hC (kk _ kj.st (CMstL hC))
theorem kl_15 {κ : Mem} {Q : Option V → Mem → Prop} (hC : CM κ) (kk : Wp 2 2 154 747 [(0, vr 55 0)] [] (stL κ 62 0 15 (keyV 15)) 48 10993 Q) : Wp 2 2 154 726 [(0, vr 55 0)] [] κ 48 10993 Q := by
  refine rn_ok ckx_154 (cut := cux_154) 1 _ _ _ _ _ _ (And.intro (by decide) (And.intro (by decide) (And.intro (by decide) (And.intro (by decide) (And.intro rfl (And.intro (lt_capm hC (by decide) (by decide) (by decide)) (Exists.intro 0 (And.intro (refI_s 2 rfl (by decide) (by decide)) (And.intro (by decide) (And.intro (by decide) (And.intro (by decide) (And.intro (by decide) (And.intro (by decide) (And.intro (by decide) (And.intro (by decide) (And.intro (by decide) (And.intro (by decide) (And.intro (by decide) (And.intro (by decide) (And.intro (by decide) (And.intro (by decide) (And.intro (by decide) (And.intro (by decide) (And.intro (by decide) (And.intro (by decide) (And.intro (by decide) (And.intro (And.intro (Nat.le_of_ble_eq_true rfl) (Nat.le_of_ble_eq_true rfl)) (w_post ?_ (w_m_letters (md := 2) (by decide) (mlt_15 κ) hC)))))))))))))))))))))))))))))
  rintro w μ1 ⟨rfl, ee, -⟩
  have ee : κ = μ1 := ee.symm
  subst ee
  exact And.intro (by decide) (And.intro (by decide) (And.intro rfl (And.intro (lt_capm hC (by decide) (by decide) (by decide)) (And.intro (inB_in (by decide)) kk))))
theorem kls_15 {ν2 κ : Mem} {Q : Option V → Mem → Prop} (kj : Kj ν2 κ 15) (hC : CM κ) (kk : ∀ κ, Kj ν2 κ 16 → CM κ → Wp 2 2 154 747 [(0, vr 55 0)] [] κ 48 10993 Q) : Wp 2 2 154 726 [(0, vr 55 0)] [] κ 48 10993 Q := kl_15 hC (kk _ kj.st (CMstL hC))
theorem kl_16 {κ : Mem} {Q : Option V → Mem → Prop} (hC : CM κ) (kk : Wp 2 2 154 768 [(0, vr 55 0)] [] (stL κ 62 0 16 (keyV 16)) 48 10993 Q) : Wp 2 2 154 747 [(0, vr 55 0)] [] κ 48 10993 Q := by
  refine rn_ok ckx_154 (cut := cux_154) 1 _ _ _ _ _ _ (And.intro (by decide) (And.intro (by decide) (And.intro (by decide) (And.intro (by decide) (And.intro rfl (And.intro (lt_capm hC (by decide) (by decide) (by decide)) (Exists.intro 0 (And.intro (refI_s 2 rfl (by decide) (by decide)) (And.intro (by decide) (And.intro (by decide) (And.intro (by decide) (And.intro (by decide) (And.intro (by decide) (And.intro (by decide) (And.intro (by decide) (And.intro (by decide) (And.intro (by decide) (And.intro (by decide) (And.intro (by decide) (And.intro (by decide) (And.intro (by decide) (And.intro (by decide) (And.intro (by decide) (And.intro (by decide) (And.intro (by decide) (And.intro (by decide) (And.intro (And.intro (Nat.le_of_ble_eq_true rfl) (Nat.le_of_ble_eq_true rfl)) (w_post ?_ (w_m_letters (md := 2) (by decide) (mlt_16 κ) hC)))))))))))))))))))))))))))))
  rintro w μ1 ⟨rfl, ee, -⟩
  have ee : κ = μ1 := ee.symm
  subst ee
  exact And.intro (by decide) (And.intro (by decide) (And.intro rfl (And.intro (lt_capm hC (by decide) (by decide) (by decide)) (And.intro (inB_in (by decide)) kk))))
theorem kls_16 {ν2 κ : Mem} {Q : Option V → Mem → Prop} (kj : Kj ν2 κ 16) (hC : CM κ) (kk : ∀ κ, Kj ν2 κ 17 → CM κ → Wp 2 2 154 768 [(0, vr 55 0)] [] κ 48 10993 Q) : Wp 2 2 154 747 [(0, vr 55 0)] [] κ 48 10993 Q := kl_16 hC (kk _ kj.st (CMstL hC))
theorem kl_17 {κ : Mem} {Q : Option V → Mem → Prop} (hC : CM κ) (kk : Wp 2 2 154 790 [(0, vr 55 0)] [] (stL κ 62 0 17 (keyV 17)) 48 10993 Q) : Wp 2 2 154 768 [(0, vr 55 0)] [] κ 48 10993 Q := by
  refine rn_ok ckx_154 (cut := cux_154) 1 _ _ _ _ _ _ (And.intro (by decide) (And.intro (by decide) (And.intro (by decide) (And.intro (by decide) (And.intro rfl (And.intro (lt_capm hC (by decide) (by decide) (by decide)) (Exists.intro 0 (And.intro (refI_s 2 rfl (by decide) (by decide)) (And.intro (by decide) (And.intro (by decide) (And.intro (by decide) (And.intro (by decide) (And.intro (by decide) (And.intro (by decide) (And.intro (by decide) (And.intro (by decide) (And.intro (by decide) (And.intro (by decide) (And.intro (by decide) (And.intro (by decide) (And.intro (by decide) (And.intro (by decide) (And.intro (by decide) (And.intro (by decide) (And.intro (by decide) (And.intro (by decide) (And.intro (And.intro (Nat.le_of_ble_eq_true rfl) (Nat.le_of_ble_eq_true rfl)) (w_post ?_ (w_m_letters (md := 2) (by decide) (mlt_17 κ) hC)))))))))))))))))))))))))))))
  rintro w μ1 ⟨rfl, ee, -⟩
  have ee : κ = μ1 := ee.symm
  subst ee
  exact And.intro (by decide) (And.intro (by decide) (And.intro rfl (And.intro (lt_capm hC (by decide) (by decide) (by decide)) (And.intro (inB_in (by decide)) kk))))
theorem kls_17 {ν2 κ : Mem} {Q : Option V → Mem → Prop} (kj : Kj ν2 κ 17) (hC : CM κ) (kk : ∀ κ, Kj ν2 κ 18 → CM κ → Wp 2 2 154 790 [(0, vr 55 0)] [] κ 48 10993 Q) : Wp 2 2 154 768 [(0, vr 55 0)] [] κ 48 10993 Q := kl_17 hC (kk _ kj.st (CMstL hC))
theorem kl_18 {κ : Mem} {Q : Option V → Mem → Prop} (hC : CM κ) (kk : Wp 2 2 154 810 [(0, vr 55 0)] [] (stL κ 62 0 18 (keyV 18)) 48 10993 Q) : Wp 2 2 154 790 [(0, vr 55 0)] [] κ 48 10993 Q := by
  refine rn_ok ckx_154 (cut := cux_154) 1 _ _ _ _ _ _ (And.intro (by decide) (And.intro (by decide) (And.intro (by decide) (And.intro (by decide) (And.intro rfl (And.intro (lt_capm hC (by decide) (by decide) (by decide)) (Exists.intro 0 (And.intro (refI_s 2 rfl (by decide) (by decide)) (And.intro (by decide) (And.intro (by decide) (And.intro (by decide) (And.intro (by decide) (And.intro (by decide) (And.intro (by decide) (And.intro (by decide) (And.intro (by decide) (And.intro (by decide) (And.intro (by decide) (And.intro (by decide) (And.intro (by decide) (And.intro (by decide) (And.intro (by decide) (And.intro (by decide) (And.intro (by decide) (And.intro (by decide) (And.intro (by decide) (And.intro (And.intro (Nat.le_of_ble_eq_true rfl) (Nat.le_of_ble_eq_true rfl)) (w_post ?_ (w_m_letters (md := 2) (by decide) (mlt_18 κ) hC)))))))))))))))))))))))))))))
  rintro w μ1 ⟨rfl, ee, -⟩
  have ee : κ = μ1 := ee.symm
  subst ee
  exact And.intro (by decide) (And.intro (by decide) (And.intro rfl (And.intro (lt_capm hC (by decide) (by decide) (by decide)) (And.intro (inB_in (by decide)) kk))))
theorem kls_18 {ν2 κ : Mem} {Q : Option V → Mem → Prop} (kj : Kj ν2 κ 18) (hC : CM κ) (kk : ∀ κ, Kj ν2 κ 19 → CM κ → Wp 2 2 154 810 [(0, vr 55 0)] [] κ 48 10993 Q) : Wp 2 2 154 790 [(0, vr 55 0)] [] κ 48 10993 Q := kl_18 hC (kk _ kj.st (CMstL hC))
theorem kl_19 {κ : Mem} {Q : Option V → Mem → Prop} (hC : CM κ) (kk : Wp 2 2 154 832 [(0, vr 55 0)] [] (stL κ 62 0 19 (keyV 19)) 48 10993 Q) : Wp 2 2 154 810 [(0, vr 55 0)] [] κ 48 10993 Q := by
  refine rn_ok ckx_154 (cut := cux_154) 1 _ _ _ _ _ _ (And.intro (by decide) (And.intro (by decide) (And.intro (by decide) (And.intro (by decide) (And.intro rfl (And.intro (lt_capm hC (by decide) (by decide) (by decide)) (Exists.intro 0 (And.intro (refI_s 2 rfl (by decide) (by decide)) (And.intro (by decide) (And.intro (by decide) (And.intro (by decide) (And.intro (by decide) (And.intro (by decide) (And.intro (by decide) (And.intro (by decide) (And.intro (by decide) (And.intro (by decide) (And.intro (by decide) (And.intro (by decide) (And.intro (by decide) (And.intro (by decide) (And.intro (by decide) (And.intro (by decide) (And.intro (by decide) (And.intro (by decide) (And.intro (by decide) (And.intro (And.intro (Nat.le_of_ble_eq_true rfl) (Nat.le_of_ble_eq_true rfl)) (w_post ?_ (w_m_letters (md := 2) (by decide) (mlt_19 κ) hC)))))))))))))))))))))))))))))
  rintro w μ1 ⟨rfl, ee, -⟩
  have ee : κ = μ1 := ee.symm
  subst ee
  exact And.intro (by decide) (And.intro (by decide) (And.intro rfl (And.intro (lt_capm hC (by decide) (by decide) (by decide)) (And.intro (inB_in (by decide)) kk))))
theorem kls_19 {ν2 κ : Mem} {Q : Option V → Mem → Prop} (kj : Kj ν2 κ 19) (hC : CM κ) (kk : ∀ κ, Kj ν2 κ 20 → CM κ → Wp 2 2 154 832 [(0, vr 55 0)] [] κ 48 10993 Q) : Wp 2 2 154 810 [(0, vr 55 0)] [] κ 48 10993 Q := kl_19 hC (kk _ kj.st (CMstL hC))
theorem kl_20 {κ : Mem} {Q : Option V → Mem → Prop} (hC : CM κ) (kk : Wp 2 2 154 854 [(0, vr 55 0)] [] (stL κ 62 0 20 (keyV 20)) 48 10993 Q) : Wp 2 2 154 832 [(0, vr 55 0)] [] κ 48 10993 Q := by
  refine rn_ok ckx_154 (cut := cux_154) 1 _ _ _ _ _ _ (And.intro (by decide) (And.intro (by decide) (And.intro (by decide) (And.intro (by decide) (And.intro rfl (And.intro (lt_capm hC (by decide) (by decide) (by decide)) (Exists.intro 0 (And.intro (refI_s 2 rfl (by decide) (by decide)) (And.intro (by decide) (And.intro (by decide) (And.intro (by decide) (And.intro (by decide) (And.intro (by decide) (And.intro (by decide) (And.intro (by decide) (And.intro (by decide) (And.intro (by decide) (And.intro (by decide) (And.intro (by decide) (And.intro (by decide) (And.intro (by decide) (And.intro (by decide) (And.intro (by decide) (And.intro (by decide) (And.intro (by decide) (And.intro (by decide) (And.intro (And.intro (Nat.le_of_ble_eq_true rfl) (Nat.le_of_ble_eq_true rfl)) (w_post ?_ (w_m_letters (md := 2) (by decide) (mlt_20 κ) hC)))))))))))))))))))))))))))))
  rintro w μ1 ⟨rfl, ee, -⟩
  have ee : κ = μ1 := ee.symm
  subst ee
  exact And.intro (by decide) (And.intro (by decide) (And.intro rfl (And.intro (lt_capm hC (by decide) (by decide) (by decide)) (And.intro (inB_in (by decide)) kk))))
theorem kls_20 {ν2 κ : Mem} {Q : Option V → Mem → Prop} (kj : Kj ν2 κ 20) (hC : CM κ) (kk : ∀ κ, Kj ν2 κ 21 → CM κ → Wp 2 2 154 854 [(0, vr 55 0)] [] κ 48 10993 Q) : Wp 2 2 154 832 [(0, vr 55 0)] [] κ 48 10993 Q := kl_20 hC (kk _ kj.st (CMstL hC))
theorem kl_21 {κ : Mem} {Q : Option V → Mem → Prop} (hC : CM κ) (kk : Wp 2 2 154 875 [(0, vr 55 0)] [] (stL κ 62 0 21 (keyV 21)) 48 10993 Q) : Wp 2 2 154 854 [(0, vr 55 0)] [] κ 48 10993 Q := by
  refine rn_ok ckx_154 (cut := cux_154) 1 _ _ _ _ _ _ (And.intro (by decide) (And.intro (by decide) (And.intro (by decide) (And.intro (by decide) (And.intro rfl (And.intro (lt_capm hC (by decide) (by decide) (by decide)) (Exists.intro 0 (And.intro (refI_s 2 rfl (by decide) (by decide)) (And.intro (by decide) (And.intro (by decide) (And.intro (by decide) (And.intro (by decide) (And.intro (by decide) (And.intro (by decide) (And.intro (by decide) (And.intro (by decide) (And.intro (by decide) (And.intro (by decide) (And.intro (by decide) (And.intro (by decide) (And.intro (by decide) (And.intro (by decide) (And.intro (by decide) (And.intro (by decide) (And.intro (by decide) (And.intro (by decide) (And.intro (And.intro (Nat.le_of_ble_eq_true rfl) (Nat.le_of_ble_eq_true rfl)) (w_post ?_ (w_m_letters (md := 2) (by decide) (mlt_21 κ) hC)))))))))))))))))))))))))))))
  rintro w μ1 ⟨rfl, ee, -⟩
  have ee : κ = μ1 := ee.symm
  subst ee
  exact And.intro (by decide) (And.intro (by decide) (And.intro rfl (And.intro (lt_capm hC (by decide) (by decide) (by decide)) (And.intro (inB_in (by decide)) kk))))
theorem kls_21 {ν2 κ : Mem} {Q : Option V → Mem → Prop} (kj : Kj ν2 κ 21) (hC : CM κ) (kk : ∀ κ, Kj ν2 κ 22 → CM κ → Wp 2 2 154 875 [(0, vr 55 0)] [] κ 48 10993 Q) : Wp 2 2 154 854 [(0, vr 55 0)] [] κ 48 10993 Q := kl_21 hC (kk _ kj.st (CMstL hC))
theorem kl_22 {κ : Mem} {Q : Option V → Mem → Prop} (hC : CM κ) (kk : Wp 2 2 154 898 [(0, vr 55 0)] [] (stL κ 62 0 22 (keyV 22)) 48 10993 Q) : Wp 2 2 154 875 [(0, vr 55 0)] [] κ 48 10993 Q := by
  refine rn_ok ckx_154 (cut := cux_154) 1 _ _ _ _ _ _ (And.intro (by decide) (And.intro (by decide) (And.intro (by decide) (And.intro (by decide) (And.intro rfl (And.intro (lt_capm hC (by decide) (by decide) (by decide)) (Exists.intro 0 (And.intro (refI_s 2 rfl (by decide) (by decide)) (And.intro (by decide) (And.intro (by decide) (And.intro (by decide) (And.intro (by decide) (And.intro (by decide) (And.intro (by decide) (And.intro (by decide) (And.intro (by decide) (And.intro (by decide) (And.intro (by decide) (And.intro (by decide) (And.intro (by decide) (And.intro (by decide) (And.intro (by decide) (And.intro (by decide) (And.intro (by decide) (And.intro (by decide) (And.intro (by decide) (And.intro (And.intro (Nat.le_of_ble_eq_true rfl) (Nat.le_of_ble_eq_true rfl)) (w_post ?_ (w_m_letters (md := 2) (by decide) (mlt_22 κ) hC)))))))))))))))))))))))))))))
  rintro w μ1 ⟨rfl, ee, -⟩
  have ee : κ = μ1 := ee.symm
  subst ee
  exact And.intro (by decide) (And.intro (by decide) (And.intro rfl (And.intro (lt_capm hC (by decide) (by decide) (by decide)) (And.intro (inB_in (by decide)) kk))))
theorem kls_22 {ν2 κ : Mem} {Q : Option V → Mem → Prop} (kj : Kj ν2 κ 22) (hC : CM κ) (kk : ∀ κ, Kj ν2 κ 23 → CM κ → Wp 2 2 154 898 [(0, vr 55 0)] [] κ 48 10993 Q) : Wp 2 2 154 875 [(0, vr 55 0)] [] κ 48 10993 Q := kl_22 hC (kk _ kj.st (CMstL hC))
theorem m_consts : mAc 154 = 48 := by decide
theorem kc_154p {ν2 κ ν4 ν5 : Mem} (b55 : ∀ q, q ≠ 17 → mI ν2 55 0 q = 0) (b17 : mI ν2 55 0 17 = (-1 : Int32)) (b102 : ∀ q, mI ν2 102 0 q = 0) (pk : PkM 0 ν2 (yC sg0) (yA sg0)) (lB : LwB 0 ν2 0 0 (yW sg0)) (i2 : InvC ν2 0 ob0) (c2 : Cnt ν2 374) (kj : Kj ν2 κ 23) (e4 : m_begins κ = some ((), ν4)) (r4 : RwM ν4 (stG sg0)) (e5 : m_keepsRow ν4 = some ((), ν5)) (r5 : ∀ k, k < 33 → mI ν5 88 0 k = stG sg0 k) : Cnt ν5 374 ∧ InvC ν5 0 ob0 ∧ InvM ν5 0 ob0 ∧ LaS 0 ν5 (zP ob0) := by
  have gk := kj.1
  have ke := kj.2
  have g4 := f_m_begins e4
  have g5 := f_m_keepsRow e5
  have I : ∀ {r k}, inT [(62, none, none)] r 0 k = false → inT T_m_begins r 0 k = false → inT T_m_keepsRow r 0 k = false → mI ν5 r 0 k = mI ν2 r 0 k := fun h1 h2 h3 => (g5.I h3).trans ((g4.I h2).trans (gk.I h1))
  have LA : LaS 0 ν5 (zP ob0) := ⟨0, 0, by omega, by omega, ((lB.fr gk rfl).fr g4 rfl).fr g5 rfl⟩
  have p5 : PlM ν5 0 (plG sg0) := (((pk.fr gk rfl rfl).pl ((gk.I rfl).trans (b55 18 (by omega))) (sg0_I Z0) sg0_G rfl).fr g4 rfl rfl).fr g5 rfl rfl
  have M5 : InvM ν5 0 ob0 := ⟨⟨p5, LA.la (by omega), fun k hk => r5 k hk⟩, ⟨(I rfl rfl rfl).trans (b55 61 (by omega)), fun j k hj => absurd hj (Nat.not_lt_zero _)⟩, fun k hk => ⟨(I rfl rfl rfl).trans (b102 k), fun hb => by cases hb⟩, ⟨(I rfl rfl rfl).trans (b55 67 (by omega)), fun i hi => absurd hi (Nat.not_lt_zero _)⟩, ⟨(I rfl rfl rfl).trans (b55 2 (by omega)), fun k hk => absurd hk (Nat.not_lt_zero _)⟩, (I rfl rfl rfl).trans b17, fun k hk => (g5.L rfl).trans ((g4.L rfl).trans (ke k hk))⟩
  exact ⟨((c2.fr gk).fr g4).fr g5, ((i2.mod (Kr.of gk rfl)).mod (Kr.of g4 rfl)).mod (Kr.of g5 rfl), M5, LA⟩
theorem kc_154c {ν2 κ23 : Mem} {Q : Option V → Mem → Prop} (b55 : ∀ q, q ≠ 17 → mI ν2 55 0 q = 0) (b17 : mI ν2 55 0 17 = (-1 : Int32)) (b102 : ∀ q, mI ν2 102 0 q = 0) (pk : PkM 0 ν2 (yC sg0) (yA sg0)) (lB : LwB 0 ν2 0 0 (yW sg0)) (i2 : InvC ν2 0 ob0) (c2 : Cnt ν2 374) (kj : Kj ν2 κ23 23) (hC : CM κ23) (hq : ∀ ν', Cnt ν' 374 → InvC ν' 0 ob0 → InvM ν' 0 ob0 → LaS 0 ν' (zP ob0) → Q none ν') : Wp 2 2 154 898 [(0, vr 55 0)] [] κ23 48 10993 Q := by
  have gk := kj.1
  obtain ⟨ν4, e4, r4⟩ := m_begins_e (Z := Z0) (s := sg0) (d := 0) ((gk.I rfl).trans (b55 18 (by omega))) (pk.fr gk rfl rfl) (sg0_I _) sg0_G rfl
  obtain ⟨ν5, e5, r5⟩ := m_keepsRow_e r4
  obtain ⟨q1, q2, q3, q4⟩ := kc_154p b55 b17 b102 pk lB i2 c2 kj e4 r4 e5 r5
  refine rn_ok ckx_154 (cut := cux_154) 1 _ _ _ _ _ _ (And.intro (by decide) (And.intro (by decide) (And.intro (by decide) (And.intro (by decide) (And.intro rfl (And.intro (lt_capm hC (by decide) (by decide) (by decide)) (And.intro (And.intro (Nat.le_of_ble_eq_true rfl) (Nat.le_of_ble_eq_true rfl)) (w_post ?_ (w_m_begins (md := 2) (by decide) e4 hC)))))))))
  rintro w μ1 ⟨rfl, ee, hC4⟩
  have ee : ν4 = μ1 := ee.symm
  subst ee
  show Wp 2 2 154 902 [(0, vr 55 0)] [] ν4 48 10993 Q
  refine rn_ok ckx_154 (cut := cux_154) 1 _ _ _ _ _ _ (And.intro (by decide) (And.intro (by decide) (And.intro (by decide) (And.intro (by decide) (And.intro rfl (And.intro (lt_capm hC4 (by decide) (by decide) (by decide)) (And.intro (And.intro (Nat.le_of_ble_eq_true rfl) (Nat.le_of_ble_eq_true rfl)) (w_post ?_ (w_m_keepsRow (md := 2) (by decide) e5 hC4)))))))))
  rintro w μ1 ⟨rfl, ee, hC5⟩
  have ee : ν5 = μ1 := ee.symm
  subst ee
  show Wp 2 2 154 906 [] [] ν5 48 10993 Q
  exact rn_ok ckx_154 (cut := cux_154) 1 _ _ _ _ _ _ (And.intro (by decide) (And.intro (by decide) (And.intro rfl (And.intro rfl (And.intro (by decide) (And.intro (by decide) (hq _ q1 q2 q3 q4)))))))
theorem kc_154b {ν2 κ0 : Mem} {Q : Option V → Mem → Prop} (b55 : ∀ q, q ≠ 17 → mI ν2 55 0 q = 0) (b17 : mI ν2 55 0 17 = (-1 : Int32)) (b102 : ∀ q, mI ν2 102 0 q = 0) (pk : PkM 0 ν2 (yC sg0) (yA sg0)) (lB : LwB 0 ν2 0 0 (yW sg0)) (i2 : InvC ν2 0 ob0) (c2 : Cnt ν2 374) (kj : Kj ν2 κ0 0) (hC : CM κ0) (hq : ∀ ν', Cnt ν' 374 → InvC ν' 0 ob0 → InvM ν' 0 ob0 → LaS 0 ν' (zP ob0) → Q none ν') : Wp 2 2 154 410 [(0, vr 55 0)] [] κ0 48 10993 Q := by
  refine kls_0 kj hC fun κ1 kj hC => ?_
  refine kls_1 kj hC fun κ2 kj hC => ?_
  refine kls_2 kj hC fun κ3 kj hC => ?_
  refine kls_3 kj hC fun κ4 kj hC => ?_
  refine kls_4 kj hC fun κ5 kj hC => ?_
  refine kls_5 kj hC fun κ6 kj hC => ?_
  refine kls_6 kj hC fun κ7 kj hC => ?_
  refine kls_7 kj hC fun κ8 kj hC => ?_
  refine kls_8 kj hC fun κ9 kj hC => ?_
  refine kls_9 kj hC fun κ10 kj hC => ?_
  refine kls_10 kj hC fun κ11 kj hC => ?_
  refine kls_11 kj hC fun κ12 kj hC => ?_
  refine kls_12 kj hC fun κ13 kj hC => ?_
  refine kls_13 kj hC fun κ14 kj hC => ?_
  refine kls_14 kj hC fun κ15 kj hC => ?_
  refine kls_15 kj hC fun κ16 kj hC => ?_
  refine kls_16 kj hC fun κ17 kj hC => ?_
  refine kls_17 kj hC fun κ18 kj hC => ?_
  refine kls_18 kj hC fun κ19 kj hC => ?_
  refine kls_19 kj hC fun κ20 kj hC => ?_
  refine kls_20 kj hC fun κ21 kj hC => ?_
  refine kls_21 kj hC fun κ22 kj hC => ?_
  refine kls_22 kj hC fun κ23 kj hC => ?_
  exact kc_154c b55 b17 b102 pk lB i2 c2 kj hC hq
theorem kc_154t {ν : Mem} {Q : Option V → Mem → Prop} (c : Cnt ν 374) (r : RO 325 ν 374 []) (xo : ∀ q, q ≠ 17 → mI ν 55 0 q = 0) (xp : mI ν 55 0 17 = (-1 : Int32)) (xs : ∀ q, mI ν 102 0 q = 0) (hi : InvC ν 0 ob0) (hq : ∀ ν', Cnt ν' 374 → InvC ν' 0 ob0 → InvM ν' 0 ob0 → LaS 0 ν' (zP ob0) → Q none ν') : Wp 1 2 154 400 [(0, vr 55 0)] [] ν 48 10993 Q := by
  refine w_mode (md2 := 2) (mode_m c r) ?_
  have hC : CM ν := CM_of c
  obtain ⟨ν1, e1, a65, a66, a70, a74, a75, a76, s1⟩ := m_plain_e (μ := ν) (d := 0) (by omega)
  obtain ⟨ν2, e2, -, -, -, -, -, -, s2⟩ := m_plain_e (μ := ν1) (d := 1) (by omega)
  have g1 := f_m_plain e1
  have g2 := f_m_plain e2
  have pl : ∀ {r j}, 65 ≤ r → r ≤ 84 → ¬ (szr r * 1 ≤ j ∧ j < szr r * 1 + szr r) → mI ν2 r 0 j = mI ν1 r 0 j := fun h1 h2 h3 => s2 _ _ h1 h2 h3
  refine rn_ok ckx_154 (cut := cux_154) 1 _ _ _ _ _ _ (And.intro (by decide) (And.intro (by decide) (And.intro (by decide) (And.intro (by decide) (And.intro (by decide) (And.intro (by decide) (And.intro rfl (And.intro (lt_capm hC (by decide) (by decide) (by decide)) (And.intro (And.intro (Nat.le_of_ble_eq_true rfl) (Nat.le_of_ble_eq_true rfl)) (w_post ?_ (w_m_plain (md := 2) (by decide) e1 hC)))))))))))
  rintro w μ1 ⟨rfl, ee, hC1⟩
  have ee : ν1 = μ1 := ee.symm
  subst ee
  show Wp 2 2 154 405 [(0, vr 55 0)] [] ν1 48 10993 Q
  refine rn_ok ckx_154 (cut := cux_154) 1 _ _ _ _ _ _ (And.intro (by decide) (And.intro (by decide) (And.intro (by decide) (And.intro (by decide) (And.intro (by decide) (And.intro (by decide) (And.intro rfl (And.intro (lt_capm hC1 (by decide) (by decide) (by decide)) (And.intro (And.intro (Nat.le_of_ble_eq_true rfl) (Nat.le_of_ble_eq_true rfl)) (w_post ?_ (w_m_plain (md := 2) (by decide) e2 hC1)))))))))))
  rintro w μ1 ⟨rfl, ee, hC2⟩
  have ee : ν2 = μ1 := ee.symm
  subst ee
  show Wp 2 2 154 410 [(0, vr 55 0)] [] ν2 48 10993 Q
  have b55 : ∀ q, q ≠ 17 → mI ν2 55 0 q = 0 := fun q hq => (g2.I rfl).trans ((g1.I rfl).trans (xo q hq))
  have b17 : mI ν2 55 0 17 = (-1 : Int32) := (g2.I rfl).trans ((g1.I rfl).trans xp)
  have b102 : ∀ q, mI ν2 102 0 q = 0 := fun q => (g2.I rfl).trans ((g1.I rfl).trans (xs q))
  have pk : PkM 0 ν2 (yC sg0) (yA sg0) := ⟨by omega, b55 19 (by omega), (pl (by omega) (by omega) (by decide)).trans a65, (pl (by omega) (by omega) (by decide)).trans a66, (pl (by omega) (by omega) (by decide)).trans a70, (pl (by omega) (by omega) (by decide)).trans a75, (pl (by omega) (by omega) (by decide)).trans a74, fun f hf => absurd hf (Nat.not_lt_zero _), fun n hn => absurd hn (Nat.not_lt_zero _)⟩
  have lB : LwB 0 ν2 0 0 (yW sg0) := fun k hk => ⟨0, (pl (by omega) (by omega) (by have : szr 76 = 4 := rfl; omega)).trans (a76 k hk).1, Or.inl ⟨rfl, (pl (by omega) (by omega) (by have : szr 77 = 4 := rfl; omega)).trans (a76 k hk).2, rfl⟩⟩
  have i2 : InvC ν2 0 ob0 := (hi.mod (Kr.of g1 rfl)).mod (Kr.of g2 rfl)
  have c2 : Cnt ν2 374 := (c.fr g1).fr g2
  exact kc_154b b55 b17 b102 pk lB i2 c2 (Kj.rf ν2) hC2 hq
theorem ct_model {μ : Mem} {Q : Option V → Mem → Prop} (hN : invT[325]? = some (55, 0)) (hc : Cnt μ 326) (hr : RO 325 μ 326 []) (xo : ∀ q, q ≠ 17 → mI μ 55 0 q = 0) (hi : InvC μ 0 ob0) (hq : ∀ ν', Cnt ν' 374 → InvC ν' 0 ob0 → InvM ν' 0 ob0 → LaS 0 ν' (zP ob0) → Q none ν') : Wp 1 2 154 0 [(0, vr 55 0)] [] μ 0 0 Q :=
  kc_154 hN hc hr xo (fun ν c r k x1 x2 x3 => kc_154t c r x1 x2 x3 (hi.mod k) hq)


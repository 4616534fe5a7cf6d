def T_m_lays_L3 : List At := [(56, none, none), (55, none, some 2)]
theorem f_m_lays_L3 {μ0 : Mem} {T : List At} {x1 : Int32}   {x2 : Int32} {μ : Mem} {z : Unit × Mem} (h : m_lays_L3 x1 x2 μ = some z) (fr : Fr T μ0 μ) (hT : Sb (T_m_lays_L3) T)   : Fr T μ0 z.2 := by
  have key : ∀ (n : Nat), (∀ (x2 : Int32) (μ : Mem) z, fixN (fun _ _ => none) (m_lays_B3 x1) n x2 μ = some z → Fr T μ0 μ → Fr T μ0 z.2) := by
    intro n
    refine fixN_ind (fun (f : Int32 → Mem → Option (Unit × Mem)) => ∀ (x2 : Int32) (μ : Mem) z, f x2 μ = some z → Fr T μ0 μ → Fr T μ0 z.2) ?_ ?_ n
    · intro x2 μ z h; cases h
    · intro self hself x2 μ z h fr
      unfold m_lays_B3 at h
      exact fi h (fun h2 => fr_ret h2 fr) (fun h3 => (have h5 := fgv h3; (let μ6 : Mem := stI μ 56 0 (cl (mI μ 55 0 2)) (Int8.toInt32 (Int32.toInt8 (Int8.toInt32 (Int32.toInt8 (x1 >>> (x2 &&& 31)))))); have fr7 : Fr T μ0 μ6 := Fr.stI fr (hT _ _ _ (iT 0 rfl inA_nn)); have h8 := mb_o h5; hself _ _ _ h8 (Fr.stI fr7 (hT _ _ _ (iT 1 rfl inA_ns))))))
  exact key 60000 _ _ _ h fr
def T_m_lays : List At := [(56, none, none), (55, none, some 2)]
theorem f_m_lays {μ : Mem} {x1 : Int32}  {z : Unit × Mem} (h : m_lays x1 μ = some z) : Fr (T_m_lays) μ z.2 := by
  unfold m_lays at h
  exact f_m_lays_L3 h (Fr.rf (T_m_lays) μ) (sbc (sa_m 0 rfl) (sbc (sa_m 1 rfl) sbn))  
def T_m_feed : List At := [(56, none, none), (55, none, some 2)]
theorem f_m_feed {μ : Mem} {x1 : Int32} {x2 : Int32} {x3 : Int32} {x4 : Int32} {x5 : Int32}  {z : Int32 × Mem} (h : m_feed x1 x2 x3 x4 x5 μ = some z) : Fr (T_m_feed) μ z.2 := by
  unfold m_feed at h
  exact fi h (fun h2 => fo h2 (fun _ μ4 e33 h6 => have fr8 : Fr (T_m_feed) μ μ4 := Fr.tr (Fr.mono (f_m_lays  e33) (sbc (sa_m 0 rfl) (sbc (sa_m 1 rfl) sbn))) (Fr.rf (T_m_feed) μ); fo h6 (fun _ μ9 e32 h11 => have fr13 : Fr (T_m_feed) μ μ9 := Fr.tr (Fr.mono (f_m_lays  e32) (sbc (sa_m 0 rfl) (sbc (sa_m 1 rfl) sbn))) fr8; fo h11 (fun _ μ14 e31 h16 => have fr18 : Fr (T_m_feed) μ μ14 := Fr.tr (Fr.mono (f_m_lays  e31) (sbc (sa_m 0 rfl) (sbc (sa_m 1 rfl) sbn))) fr13; fo h16 (fun _ μ19 e30 h21 => have fr23 : Fr (T_m_feed) μ μ19 := Fr.tr (Fr.mono (f_m_lays  e30) (sbc (sa_m 0 rfl) (sbc (sa_m 1 rfl) sbn))) fr18; fo h21 (fun _ μ24 e29 h26 => have fr28 : Fr (T_m_feed) μ μ24 := Fr.tr (Fr.mono (f_m_lays  e29) (sbc (sa_m 0 rfl) (sbc (sa_m 1 rfl) sbn))) fr23; fr_ret h26 fr28)))))) (fun h3 => fr_ret h3 (Fr.rf (T_m_feed) μ))
def T_m_back : List At := [(55, none, some 2)]
theorem f_m_back {μ : Mem} {x1 : Int32}  {z : Int32 × Mem} (h : m_back x1 μ = some z) : Fr (T_m_back) μ z.2 := by
  unfold m_back at h
  exact fi h (fun h2 => fr_ret h2 (Fr.rf (T_m_back) μ)) (fun h3 => fi h3 (fun h5 => fr_ret h5 (Fr.stI (Fr.rf (T_m_back) μ) (iT 0 rfl inA_ns))) (fun h6 => fr_ret h6 (Fr.rf (T_m_back) μ)))
def T_m_byteAt : List At := []
theorem f_m_byteAt {μ : Mem} {x1 : Int32}  {z : Int32 × Mem} (h : m_byteAt x1 μ = some z) : Fr (T_m_byteAt) μ z.2 := by
  unfold m_byteAt at h
  exact fi h (fun h2 => fr_ret h2 (Fr.rf (T_m_byteAt) μ)) (fun h3 => (have h5 := fgv h3; fr_ret h5 (Fr.rf (T_m_byteAt) μ)))
def T_m_isDigit : List At := []
theorem f_m_isDigit {μ : Mem} {x0 : Int32}  {z : Int32 × Mem} (h : m_isDigit x0 μ = some z) : Fr (T_m_isDigit) μ z.2 := by
  unfold m_isDigit at h
  exact fi h (fun h2 => fr_ret h2 (Fr.rf (T_m_isDigit) μ)) (fun h3 => fi h3 (fun h5 => fr_ret h5 (Fr.rf (T_m_isDigit) μ)) (fun h6 => fr_ret h6 (Fr.rf (T_m_isDigit) μ)))
def T_m_isLetter : List At := []
theorem f_m_isLetter {μ : Mem} {x0 : Int32}  {z : Int32 × Mem} (h : m_isLetter x0 μ = some z) : Fr (T_m_isLetter) μ z.2 := by
  unfold m_isLetter at h
  exact fi h (fun h2 => fr_ret h2 (Fr.rf (T_m_isLetter) μ)) (fun h3 => fi h3 (fun h5 => fr_ret h5 (Fr.rf (T_m_isLetter) μ)) (fun h6 => fr_ret h6 (Fr.rf (T_m_isLetter) μ)))
def T_m_appends : List At := []
theorem f_m_appends {μ : Mem} {x0 : Int64} {x2 : Int32}  {z : Int64 × Mem} (h : m_appends x0 x2 μ = some z) : Fr (T_m_appends) μ z.2 := by
  unfold m_appends at h
  exact fi h (fun h3 => fr_ret h3 (Fr.rf (T_m_appends) μ)) (fun h2 => fr_ret h2 (Fr.rf (T_m_appends) μ))
def T_m_letters : List At := []
theorem f_m_letters {μ : Mem} {x0 : Int32} {x1 : Int32} {x2 : Int32} {x3 : Int32} {x4 : Int32} {x5 : Int32} {x6 : Int32}  {z : Int64 × Mem} (h : m_letters x0 x1 x2 x3 x4 x5 x6 μ = some z) : Fr (T_m_letters) μ z.2 := by
  unfold m_letters at h
  exact fo h (fun r4 μ1 e42 h3 => have fr5 : Fr (T_m_letters) μ μ1 := Fr.tr (Fr.mono (f_m_appends  e42) sbn) (Fr.rf (T_m_letters) μ); fo h3 (fun r9 μ6 e41 h8 => have fr10 : Fr (T_m_letters) μ μ6 := Fr.tr (Fr.mono (f_m_appends  e41) sbn) fr5; fo h8 (fun r14 μ11 e40 h13 => have fr15 : Fr (T_m_letters) μ μ11 := Fr.tr (Fr.mono (f_m_appends  e40) sbn) fr10; fo h13 (fun r19 μ16 e39 h18 => have fr20 : Fr (T_m_letters) μ μ16 := Fr.tr (Fr.mono (f_m_appends  e39) sbn) fr15; fo h18 (fun r24 μ21 e38 h23 => have fr25 : Fr (T_m_letters) μ μ21 := Fr.tr (Fr.mono (f_m_appends  e38) sbn) fr20; fo h23 (fun r29 μ26 e37 h28 => have fr30 : Fr (T_m_letters) μ μ26 := Fr.tr (Fr.mono (f_m_appends  e37) sbn) fr25; fo h28 (fun r34 μ31 e36 h33 => have fr35 : Fr (T_m_letters) μ μ31 := Fr.tr (Fr.mono (f_m_appends  e36) sbn) fr30; fr_ret h33 fr35)))))))
def T_m_token : List At := [(58, none, none), (59, none, none), (60, none, none), (61, none, none), (55, none, some 10)]
theorem f_m_token {μ : Mem} {x1 : Int32} {x2 : Int32} {x3 : Int32} {x4 : Int64}  {z : Unit × Mem} (h : m_token x1 x2 x3 x4 μ = some z) : Fr (T_m_token) μ z.2 := by
  unfold m_token at h
  exact (have h2 := fgv h; (have h4 := fgv h2; (let μ5 : Mem := stI (stI μ 58 0 (cl (mI μ 55 0 10)) x1) 59 0 (cl (mI (stI μ 58 0 (cl (mI μ 55 0 10)) x1) 55 0 10)) x2; have fr6 : Fr (T_m_token) μ μ5 := Fr.stI (Fr.stI (Fr.rf (T_m_token) μ) (iT 0 rfl inA_nn)) (iT 1 rfl inA_nn); have h7 := mb_o h4; (have h9 := fgv h7; (have h11 := fgv h9; (let μ12 : Mem := stL (stI μ5 60 0 (cl (mI μ5 55 0 10)) x3) 61 0 (cl (mI (stI μ5 60 0 (cl (mI μ5 55 0 10)) x3) 55 0 10)) x4; have fr13 : Fr (T_m_token) μ μ12 := Fr.stL (Fr.stI fr6 (iT 2 rfl inA_nn)) (iT 3 rfl inA_nn); have h14 := mb_o h11; (let μ15 : Mem := stI μ12 55 0 10 ((mI μ12 55 0 10) + (nI 1)); have fr16 : Fr (T_m_token) μ μ15 := Fr.stI fr13 (iT 4 rfl inA_ns); have h17 := mb_o h14; fr_ret h17 fr16)))))))
def T_m_sign : List At := [(58, none, none), (59, none, none), (60, none, none), (61, none, none), (55, none, some 10)]
theorem f_m_sign {μ : Mem} {x1 : Int32} {x2 : Int32} {x3 : Int32}  {z : Int32 × Mem} (h : m_sign x1 x2 x3 μ = some z) : Fr (T_m_sign) μ z.2 := by
  unfold m_sign at h
  exact fi h (fun h3 => fo h3 (fun _ μ112 e117 h114 => have fr116 : Fr (T_m_sign) μ μ112 := Fr.tr (Fr.mono (f_m_token  e117) (sbc (sa_m 0 rfl) (sbc (sa_m 1 rfl) (sbc (sa_m 2 rfl) (sbc (sa_m 3 rfl) (sbc (sa_m 4 rfl) sbn)))))) (Fr.rf (T_m_sign) μ); fr_ret h114 fr116)) (fun h2 => fi h2 (fun h6 => fo h6 (fun _ μ101 e106 h103 => have fr105 : Fr (T_m_sign) μ μ101 := Fr.tr (Fr.mono (f_m_token  e106) (sbc (sa_m 0 rfl) (sbc (sa_m 1 rfl) (sbc (sa_m 2 rfl) (sbc (sa_m 3 rfl) (sbc (sa_m 4 rfl) sbn)))))) (Fr.rf (T_m_sign) μ); fr_ret h103 fr105)) (fun h5 => fi h5 (fun h9 => fo h9 (fun _ μ90 e95 h92 => have fr94 : Fr (T_m_sign) μ μ90 := Fr.tr (Fr.mono (f_m_token  e95) (sbc (sa_m 0 rfl) (sbc (sa_m 1 rfl) (sbc (sa_m 2 rfl) (sbc (sa_m 3 rfl) (sbc (sa_m 4 rfl) sbn)))))) (Fr.rf (T_m_sign) μ); fr_ret h92 fr94)) (fun h8 => fi h8 (fun h12 => fo h12 (fun _ μ79 e84 h81 => have fr83 : Fr (T_m_sign) μ μ79 := Fr.tr (Fr.mono (f_m_token  e84) (sbc (sa_m 0 rfl) (sbc (sa_m 1 rfl) (sbc (sa_m 2 rfl) (sbc (sa_m 3 rfl) (sbc (sa_m 4 rfl) sbn)))))) (Fr.rf (T_m_sign) μ); fr_ret h81 fr83)) (fun h11 => fi h11 (fun h15 => fo h15 (fun _ μ68 e73 h70 => have fr72 : Fr (T_m_sign) μ μ68 := Fr.tr (Fr.mono (f_m_token  e73) (sbc (sa_m 0 rfl) (sbc (sa_m 1 rfl) (sbc (sa_m 2 rfl) (sbc (sa_m 3 rfl) (sbc (sa_m 4 rfl) sbn)))))) (Fr.rf (T_m_sign) μ); fr_ret h70 fr72)) (fun h14 => fi h14 (fun h18 => fo h18 (fun _ μ58 e63 h60 => have fr62 : Fr (T_m_sign) μ μ58 := Fr.tr (Fr.mono (f_m_token  e63) (sbc (sa_m 0 rfl) (sbc (sa_m 1 rfl) (sbc (sa_m 2 rfl) (sbc (sa_m 3 rfl) (sbc (sa_m 4 rfl) sbn)))))) (Fr.rf (T_m_sign) μ); fr_ret h60 fr62)) (fun h17 => fi h17 (fun h21 => fo h21 (fun _ μ49 e54 h51 => have fr53 : Fr (T_m_sign) μ μ49 := Fr.tr (Fr.mono (f_m_token  e54) (sbc (sa_m 0 rfl) (sbc (sa_m 1 rfl) (sbc (sa_m 2 rfl) (sbc (sa_m 3 rfl) (sbc (sa_m 4 rfl) sbn)))))) (Fr.rf (T_m_sign) μ); fr_ret h51 fr53)) (fun h20 => fi h20 (fun h24 => fo h24 (fun _ μ41 e46 h43 => have fr45 : Fr (T_m_sign) μ μ41 := Fr.tr (Fr.mono (f_m_token  e46) (sbc (sa_m 0 rfl) (sbc (sa_m 1 rfl) (sbc (sa_m 2 rfl) (sbc (sa_m 3 rfl) (sbc (sa_m 4 rfl) sbn)))))) (Fr.rf (T_m_sign) μ); fr_ret h43 fr45)) (fun h23 => fi h23 (fun h27 => fo h27 (fun _ μ34 e39 h36 => have fr38 : Fr (T_m_sign) μ μ34 := Fr.tr (Fr.mono (f_m_token  e39) (sbc (sa_m 0 rfl) (sbc (sa_m 1 rfl) (sbc (sa_m 2 rfl) (sbc (sa_m 3 rfl) (sbc (sa_m 4 rfl) sbn)))))) (Fr.rf (T_m_sign) μ); fr_ret h36 fr38)) (fun h26 => fo h26 (fun _ μ28 e33 h30 => have fr32 : Fr (T_m_sign) μ μ28 := Fr.tr (Fr.mono (f_m_token  e33) (sbc (sa_m 0 rfl) (sbc (sa_m 1 rfl) (sbc (sa_m 2 rfl) (sbc (sa_m 3 rfl) (sbc (sa_m 4 rfl) sbn)))))) (Fr.rf (T_m_sign) μ); fr_ret h30 fr32))))))))))
def T_m_cut_L208 : List At := []
theorem f_m_cut_L208 {μ0 : Mem} {T : List At} {x1 : Int32}  {k250 : Int32 → Int32 → Mem → Option (Unit × Mem)} {x3 : Int32} {x4 : Int32} {μ : Mem} {z : Unit × Mem} (h : m_cut_L208 x1 k250 x3 x4 μ = some z) (fr : Fr T μ0 μ) (hT : Sb (T_m_cut_L208) T)  (hk250 : ∀ (x3 : Int32) (x4 : Int32) (μ : Mem) z, k250 x3 x4 μ = some z → Fr T μ0 μ → Fr T μ0 z.2) : Fr T μ0 z.2 := by
  have key : ∀ (n : Nat), (∀ (x3 : Int32) (x4 : Int32) (μ : Mem) z, fixN (fun _ _ _ => none) (m_cut_B208 x1 k250) n x3 x4 μ = some z → Fr T μ0 μ → Fr T μ0 z.2) := by
    intro n
    refine fixN_ind (fun (f : Int32 → Int32 → Mem → Option (Unit × Mem)) => ∀ (x3 : Int32) (x4 : Int32) (μ : Mem) z, f x3 x4 μ = some z → Fr T μ0 μ → Fr T μ0 z.2) ?_ ?_ n
    · intro x3 x4 μ z h; cases h
    · intro self hself x3 x4 μ z h fr
      unfold m_cut_B208 at h
      exact fo h (fun r55 μ52 e75 h54 => have fr56 : Fr T μ0 μ52 := Fr.tr (Fr.mono (f_m_byteAt  e75) (sbt sbn hT)) fr; fo h54 (fun r60 μ57 e74 h59 => have fr61 : Fr T μ0 μ57 := Fr.tr (Fr.mono (f_m_isDigit  e74) (sbt sbn hT)) fr56; fi h59 (fun h63 => hk250 _ _ _ _ h63 fr61) (fun h64 => fi h64 (fun h66 => hself _ _ _ _ h66 fr61) (fun h67 => fo h67 (fun r71 μ68 e73 h70 => have fr72 : Fr T μ0 μ68 := Fr.tr (Fr.mono (f_m_byteAt  e73) (sbt sbn hT)) fr61; hself _ _ _ _ h70 fr72)))))
  exact key 60000 _ _ _ _ h fr
def T_m_cut_L85 : List At := []
theorem f_m_cut_L85 {μ0 : Mem} {T : List At} {x1 : Int32}  {k124 : Int32 → Int64 → Mem → Option (Unit × Mem)} {x3 : Int32} {x4 : Int64} {μ : Mem} {z : Unit × Mem} (h : m_cut_L85 x1 k124 x3 x4 μ = some z) (fr : Fr T μ0 μ) (hT : Sb (T_m_cut_L85) T)  (hk124 : ∀ (x3 : Int32) (x4 : Int64) (μ : Mem) z, k124 x3 x4 μ = some z → Fr T μ0 μ → Fr T μ0 z.2) : Fr T μ0 z.2 := by
  have key : ∀ (n : Nat), (∀ (x3 : Int32) (x4 : Int64) (μ : Mem) z, fixN (fun _ _ _ => none) (m_cut_B85 x1 k124) n x3 x4 μ = some z → Fr T μ0 μ → Fr T μ0 z.2) := by
    intro n
    refine fixN_ind (fun (f : Int32 → Int64 → Mem → Option (Unit × Mem)) => ∀ (x3 : Int32) (x4 : Int64) (μ : Mem) z, f x3 x4 μ = some z → Fr T μ0 μ → Fr T μ0 z.2) ?_ ?_ n
    · intro x3 x4 μ z h; cases h
    · intro self hself x3 x4 μ z h fr
      unfold m_cut_B85 at h
      exact fo h (fun r101 μ98 e127 h100 => have fr102 : Fr T μ0 μ98 := Fr.tr (Fr.mono (f_m_byteAt  e127) (sbt sbn hT)) fr; fo h100 (fun r106 μ103 e126 h105 => have fr107 : Fr T μ0 μ103 := Fr.tr (Fr.mono (f_m_isLetter  e126) (sbt sbn hT)) fr102; fi h105 (fun h109 => hk124 _ _ _ _ h109 fr107) (fun h110 => fi h110 (fun h112 => hself _ _ _ _ h112 fr107) (fun h113 => fo h113 (fun r117 μ114 e125 h116 => have fr118 : Fr T μ0 μ114 := Fr.tr (Fr.mono (f_m_byteAt  e125) (sbt sbn hT)) fr107; fo h116 (fun r122 μ119 e124 h121 => have fr123 : Fr T μ0 μ119 := Fr.tr (Fr.mono (f_m_appends  e124) (sbt sbn hT)) fr118; hself _ _ _ _ h121 fr123))))))
  exact key 60000 _ _ _ _ h fr
def T_m_cut_L146 : List At := []
theorem f_m_cut_L146 {μ0 : Mem} {T : List At} {x1 : Int32} {x3 : Int32} {x4 : Int64}  {k179 : Int32 → Mem → Option (Unit × Mem)} {x6 : Int32} {x7 : Int32} {μ : Mem} {z : Unit × Mem} (h : m_cut_L146 x1 x3 x4 k179 x6 x7 μ = some z) (fr : Fr T μ0 μ) (hT : Sb (T_m_cut_L146) T)  (hk179 : ∀ (x6 : Int32) (μ : Mem) z, k179 x6 μ = some z → Fr T μ0 μ → Fr T μ0 z.2) : Fr T μ0 z.2 := by
  have key : ∀ (n : Nat), (∀ (x6 : Int32) (x7 : Int32) (μ : Mem) z, fixN (fun _ _ _ => none) (m_cut_B146 x1 x3 x4 k179) n x6 x7 μ = some z → Fr T μ0 μ → Fr T μ0 z.2) := by
    intro n
    refine fixN_ind (fun (f : Int32 → Int32 → Mem → Option (Unit × Mem)) => ∀ (x6 : Int32) (x7 : Int32) (μ : Mem) z, f x6 x7 μ = some z → Fr T μ0 μ → Fr T μ0 z.2) ?_ ?_ n
    · intro x6 x7 μ z h; cases h
    · intro self hself x6 x7 μ z h fr
      unfold m_cut_B146 at h
      exact fi h (fun h147 => hk179 _ _ _ h147 fr) (fun h148 => (have h150 := fgv h148; fi h150 (fun h153 => hself _ _ _ _ h153 fr) (fun h152 => hself _ _ _ _ h152 fr)))
  exact key 60000 _ _ _ _ h fr
def T_m_cut_L7 : List At := [(58, none, none), (59, none, none), (60, none, none), (61, none, none), (55, none, some 10)]
theorem f_m_cut_L7 {μ0 : Mem} {T : List At}    {x1 : Int32} {μ : Mem} {z : Unit × Mem} (h : m_cut_L7  x1 μ = some z) (fr : Fr T μ0 μ) (hT : Sb (T_m_cut_L7) T)   : Fr T μ0 z.2 := by
  have key : ∀ (n : Nat), (∀ (x1 : Int32) (μ : Mem) z, fixN (fun _ _ => none) (m_cut_B7 ) n x1 μ = some z → Fr T μ0 μ → Fr T μ0 z.2) := by
    intro n
    refine fixN_ind (fun (f : Int32 → Mem → Option (Unit × Mem)) => ∀ (x1 : Int32) (μ : Mem) z, f x1 μ = some z → Fr T μ0 μ → Fr T μ0 z.2) ?_ ?_ n
    · intro x1 μ z h; cases h
    · intro self hself x1 μ z h fr
      unfold m_cut_B7 at h
      exact fi h (fun h2 => fr_ret h2 fr) (fun h3 => fo h3 (fun r7 μ4 e192 h6 => have fr8 : Fr T μ0 μ4 := Fr.tr (Fr.mono (f_m_byteAt  e192) (sbt sbn hT)) fr; fi h6 (fun h10 => fi h10 (fun h13 => hself _ _ _ h13 fr8) (fun h14 => fi h14 (fun h16 => hself _ _ _ h16 fr8) (fun h17 => fi h17 (fun h19 => hself _ _ _ h19 fr8) (fun h20 => fi h20 (fun h23 => hself _ _ _ h23 fr8) (fun h22 => fo h22 (fun r27 μ24 e185 h26 => have fr28 : Fr T μ0 μ24 := Fr.tr (Fr.mono (f_m_isLetter  e185) (sbt sbn hT)) fr8; fi h26 (fun h30 => fo h30 (fun r35 μ32 e97 h34 => have fr36 : Fr T μ0 μ32 := Fr.tr (Fr.mono (f_m_isDigit  e97) (sbt sbn hT)) fr28; fi h34 (fun h38 => fo h38 (fun r43 μ40 e51 h42 => have fr44 : Fr T μ0 μ40 := Fr.tr (Fr.mono (f_m_byteAt  e51) (sbt sbn hT)) fr36; fo h42 (fun r48 μ45 e50 h47 => have fr49 : Fr T μ0 μ45 := Fr.tr (Fr.mono (f_m_sign  e50) (sbt (sbc (sa_m 0 rfl) (sbc (sa_m 1 rfl) (sbc (sa_m 2 rfl) (sbc (sa_m 3 rfl) (sbc (sa_m 4 rfl) sbn))))) hT)) fr44; hself _ _ _ h47 fr49))) (fun h39 => f_m_cut_L208 h39 fr36 (sbt sbn hT)  (fun x76 x77 μ78 _ h80 fr81 => fi h80 (fun h83 => fo h83 (fun _ μ85 e90 h87 => have fr89 : Fr T μ0 μ85 := Fr.tr (Fr.mono (f_m_token  e90) (sbt (sbc (sa_m 0 rfl) (sbc (sa_m 1 rfl) (sbc (sa_m 2 rfl) (sbc (sa_m 3 rfl) (sbc (sa_m 4 rfl) sbn))))) hT)) fr81; hself _ _ _ h87 fr89)) (fun h84 => fo h84 (fun _ μ91 e96 h93 => have fr95 : Fr T μ0 μ91 := Fr.tr (Fr.mono (f_m_token  e96) (sbt (sbc (sa_m 0 rfl) (sbc (sa_m 1 rfl) (sbc (sa_m 2 rfl) (sbc (sa_m 3 rfl) (sbc (sa_m 4 rfl) sbn))))) hT)) fr81; hself _ _ _ h93 fr95)))))) (fun h31 => f_m_cut_L85 h31 fr28 (sbt sbn hT)  (fun x128 y129 μ130 _ h132 fr133 => fi h132 (fun h135 => fi h135 (fun h138 => fo h138 (fun _ μ140 e145 h142 => have fr144 : Fr T μ0 μ140 := Fr.tr (Fr.mono (f_m_token  e145) (sbt (sbc (sa_m 0 rfl) (sbc (sa_m 1 rfl) (sbc (sa_m 2 rfl) (sbc (sa_m 3 rfl) (sbc (sa_m 4 rfl) sbn))))) hT)) fr133; hself _ _ _ h142 fr144)) (fun h139 => f_m_cut_L146 h139 fr133 (sbt sbn hT)  (fun x154 μ155 _ h157 fr158 => fo h157 (fun _ μ159 e164 h161 => have fr163 : Fr T μ0 μ159 := Fr.tr (Fr.mono (f_m_token  e164) (sbt (sbc (sa_m 0 rfl) (sbc (sa_m 1 rfl) (sbc (sa_m 2 rfl) (sbc (sa_m 3 rfl) (sbc (sa_m 4 rfl) sbn))))) hT)) fr158; hself _ _ _ h161 fr163)))) (fun h136 => fi h136 (fun h166 => fo h166 (fun _ μ168 e173 h170 => have fr172 : Fr T μ0 μ168 := Fr.tr (Fr.mono (f_m_token  e173) (sbt (sbc (sa_m 0 rfl) (sbc (sa_m 1 rfl) (sbc (sa_m 2 rfl) (sbc (sa_m 3 rfl) (sbc (sa_m 4 rfl) sbn))))) hT)) fr133; hself _ _ _ h170 fr172)) (fun h167 => f_m_cut_L146 h167 fr133 (sbt sbn hT)  (fun x174 μ175 _ h177 fr178 => fo h177 (fun _ μ179 e184 h181 => have fr183 : Fr T μ0 μ179 := Fr.tr (Fr.mono (f_m_token  e184) (sbt (sbc (sa_m 0 rfl) (sbc (sa_m 1 rfl) (sbc (sa_m 2 rfl) (sbc (sa_m 3 rfl) (sbc (sa_m 4 rfl) sbn))))) hT)) fr178; hself _ _ _ h181 fr183)))))))))))) (fun h11 => fo h11 (fun _ μ186 e191 h188 => have fr190 : Fr T μ0 μ186 := Fr.tr (Fr.mono (f_m_token  e191) (sbt (sbc (sa_m 0 rfl) (sbc (sa_m 1 rfl) (sbc (sa_m 2 rfl) (sbc (sa_m 3 rfl) (sbc (sa_m 4 rfl) sbn))))) hT)) fr8; fr_ret h188 fr190))))
  exact key 60000 _ _ _ h fr
def T_m_cut : List At := [(55, none, some 10), (58, none, none), (59, none, none), (60, none, none), (61, none, none)]
theorem f_m_cut {μ : Mem}   {z : Unit × Mem} (h : m_cut  μ = some z) : Fr (T_m_cut) μ z.2 := by
  unfold m_cut at h
  exact f_m_cut_L7 h (Fr.stI (Fr.rf (T_m_cut) μ) (iT 0 rfl inA_ns)) (sbc (sa_m 1 rfl) (sbc (sa_m 2 rfl) (sbc (sa_m 3 rfl) (sbc (sa_m 4 rfl) (sbc (sa_m 0 rfl) sbn)))))  
def T_m_is : List At := []
theorem f_m_is {μ : Mem} {x1 : Int32}  {z : Int32 × Mem} (h : m_is x1 μ = some z) : Fr (T_m_is) μ z.2 := by
  unfold m_is at h
  exact fi h (fun h3 => (have h5 := fgv h3; fi h5 (fun h8 => fr_ret h8 (Fr.rf (T_m_is) μ)) (fun h7 => fr_ret h7 (Fr.rf (T_m_is) μ)))) (fun h2 => fr_ret h2 (Fr.rf (T_m_is) μ))
def T_m_fail : List At := [(55, none, some 13), (55, none, some 14)]
theorem f_m_fail {μ : Mem} {x1 : Int32}  {z : Unit × Mem} (h : m_fail x1 μ = some z) : Fr (T_m_fail) μ z.2 := by
  unfold m_fail at h
  exact fi h (fun h2 => (have h5 := fgv h2; (let μ6 : Mem := stI (stI μ 55 0 13 x1) 55 0 14 (mI (stI μ 55 0 13 x1) 59 0 (cl (mI (stI μ 55 0 13 x1) 55 0 11))); have fr7 : Fr (T_m_fail) μ μ6 := Fr.stI (Fr.stI (Fr.rf (T_m_fail) μ) (iT 0 rfl inA_ns)) (iT 1 rfl inA_ns); have h8 := mb_o h5; fr_ret h8 fr7))) (fun h3 => fr_ret h3 (Fr.rf (T_m_fail) μ))
def T_m_wrong : List At := [(55, none, some 15), (55, none, some 16)]
theorem f_m_wrong {μ : Mem} {x1 : Int32} {x2 : Int32}  {z : Unit × Mem} (h : m_wrong x1 x2 μ = some z) : Fr (T_m_wrong) μ z.2 := by
  unfold m_wrong at h
  exact (have h2 := fgv h; fi h2 (fun h4 => fr_ret h4 (Fr.rf (T_m_wrong) μ)) (fun h5 => fi h5 (fun h7 => (let μ9 : Mem := stI (stI μ 55 0 15 x1) 55 0 16 (mI μ 59 0 (cl x2)); have fr10 : Fr (T_m_wrong) μ μ9 := Fr.stI (Fr.stI (Fr.rf (T_m_wrong) μ) (iT 0 rfl inA_ns)) (iT 1 rfl inA_ns); have h11 := mb_o h7; fr_ret h11 fr10)) (fun h8 => fi h8 (fun h13 => fr_ret h13 (Fr.rf (T_m_wrong) μ)) (fun h14 => fi h14 (fun h17 => fi h17 (fun h22 => (let μ24 : Mem := stI (stI μ 55 0 15 x1) 55 0 16 (mI μ 59 0 (cl x2)); have fr25 : Fr (T_m_wrong) μ μ24 := Fr.stI (Fr.stI (Fr.rf (T_m_wrong) μ) (iT 0 rfl inA_ns)) (iT 1 rfl inA_ns); have h26 := mb_o h22; fr_ret h26 fr25)) (fun h23 => fr_ret h23 (Fr.rf (T_m_wrong) μ))) (fun h16 => (let μ18 : Mem := stI (stI μ 55 0 15 x1) 55 0 16 (mI μ 59 0 (cl x2)); have fr19 : Fr (T_m_wrong) μ μ18 := Fr.stI (Fr.stI (Fr.rf (T_m_wrong) μ) (iT 0 rfl inA_ns)) (iT 1 rfl inA_ns); have h20 := mb_o h16; fr_ret h20 fr19))))))
def T_m_goesOn : List At := [(55, none, some 11), (55, none, some 13), (55, none, some 14)]
theorem f_m_goesOn {μ : Mem}   {z : Unit × Mem} (h : m_goesOn  μ = some z) : Fr (T_m_goesOn) μ z.2 := by
  unfold m_goesOn at h
  exact fi h (fun h3 => fo h3 (fun _ μ4 e9 h6 => have fr8 : Fr (T_m_goesOn) μ μ4 := Fr.tr (Fr.mono (f_m_fail  e9) (sbc (sa_m 1 rfl) (sbc (sa_m 2 rfl) sbn))) (Fr.rf (T_m_goesOn) μ); fr_ret h6 fr8)) (fun h2 => fr_ret h2 (Fr.stI (Fr.rf (T_m_goesOn) μ) (iT 0 rfl inA_ns)))
def T_m_must : List At := [(55, none, some 13), (55, none, some 14), (55, none, some 11)]
theorem f_m_must {μ : Mem} {x1 : Int32}  {z : Unit × Mem} (h : m_must x1 μ = some z) : Fr (T_m_must) μ z.2 := by
  unfold m_must at h
  exact fo h (fun r4 μ1 e21 h3 => have fr5 : Fr (T_m_must) μ μ1 := Fr.tr (Fr.mono (f_m_is  e21) sbn) (Fr.rf (T_m_must) μ); fi h3 (fun h7 => fo h7 (fun _ μ9 e14 h11 => have fr13 : Fr (T_m_must) μ μ9 := Fr.tr (Fr.mono (f_m_fail  e14) (sbc (sa_m 0 rfl) (sbc (sa_m 1 rfl) sbn))) fr5; fr_ret h11 fr13)) (fun h8 => fo h8 (fun _ μ15 e20 h17 => have fr19 : Fr (T_m_must) μ μ15 := Fr.tr (Fr.mono (f_m_goesOn  e20) (sbc (sa_m 2 rfl) (sbc (sa_m 0 rfl) (sbc (sa_m 1 rfl) sbn)))) fr5; fr_ret h17 fr19)))
def T_m_plain_L38 : List At := [(76, none, none), (77, none, none)]
theorem f_m_plain_L38 {μ0 : Mem} {T : List At} {x1 : Int32}   {x2 : Int32} {μ : Mem} {z : Unit × Mem} (h : m_plain_L38 x1 x2 μ = some z) (fr : Fr T μ0 μ) (hT : Sb (T_m_plain_L38) T)   : Fr T μ0 z.2 := by
  have key : ∀ (n : Nat), (∀ (x2 : Int32) (μ : Mem) z, fixN (fun _ _ => none) (m_plain_B38 x1) n x2 μ = some z → Fr T μ0 μ → Fr T μ0 z.2) := by
    intro n
    refine fixN_ind (fun (f : Int32 → Mem → Option (Unit × Mem)) => ∀ (x2 : Int32) (μ : Mem) z, f x2 μ = some z → Fr T μ0 μ → Fr T μ0 z.2) ?_ ?_ n
    · intro x2 μ z h; cases h
    · intro self hself x2 μ z h fr
      unfold m_plain_B38 at h
      exact fi h (fun h10 => fr_ret h10 fr) (fun h11 => (have h13 := fgv h11; (let μ14 : Mem := stI μ 76 0 (cl (((nI 4) * x1) + x2)) (nI 0); have fr15 : Fr T μ0 μ14 := Fr.stI fr (hT _ _ _ (iT 0 rfl inA_nn)); have h16 := mb_o h13; (let μ17 : Mem := stI μ14 77 0 (cl (((nI 4) * x1) + x2)) (nI 0); have fr18 : Fr T μ0 μ17 := Fr.stI fr15 (hT _ _ _ (iT 1 rfl inA_nn)); have h19 := mb_o h16; hself _ _ _ h19 fr18))))
  exact key 60000 _ _ _ h fr
def T_m_plain : List At := [(65, none, none), (66, none, none), (70, none, none), (74, none, none), (75, none, none), (76, none, none), (77, none, none)]
theorem f_m_plain {μ : Mem} {x1 : Int32}  {z : Unit × Mem} (h : m_plain x1 μ = some z) : Fr (T_m_plain) μ z.2 := by
  unfold m_plain at h
  exact (have h2 := fgv h; (let μ3 : Mem := stI (stI μ 65 0 (cl x1) (nI 0)) 66 0 (cl x1) (nI 0); have fr4 : Fr (T_m_plain) μ μ3 := Fr.stI (Fr.stI (Fr.rf (T_m_plain) μ) (iT 0 rfl inA_nn)) (iT 1 rfl inA_nn); have h5 := mb_o h2; (let μ6 : Mem := stI (stI μ3 70 0 (cl x1) (nI 0)) 74 0 (cl x1) (nI 8); have fr7 : Fr (T_m_plain) μ μ6 := Fr.stI (Fr.stI fr4 (iT 2 rfl inA_nn)) (iT 3 rfl inA_nn); have h8 := mb_o h5; f_m_plain_L38 h8 (Fr.stI fr7 (iT 4 rfl inA_nn)) (sbc (sa_m 5 rfl) (sbc (sa_m 6 rfl) sbn))  )))
def T_m_roomFor : List At := [(55, none, some 11), (55, none, some 13), (55, none, some 14)]
theorem f_m_roomFor {μ : Mem} {x1 : Int32} {x2 : Int32}  {z : Unit × Mem} (h : m_roomFor x1 x2 μ = some z) : Fr (T_m_roomFor) μ z.2 := by
  unfold m_roomFor at h
  exact fi h (fun h3 => fo h3 (fun _ μ13 e27 h15 => have fr17 : Fr (T_m_roomFor) μ μ13 := Fr.tr (Fr.mono (f_m_fail  e27) (sbc (sa_m 1 rfl) (sbc (sa_m 2 rfl) sbn))) (Fr.rf (T_m_roomFor) μ); fi h15 (fun h20 => fo h20 (fun _ μ21 e26 h23 => have fr25 : Fr (T_m_roomFor) μ μ21 := Fr.tr (Fr.mono (f_m_goesOn  e26) (sbc (sa_m 0 rfl) (sbc (sa_m 1 rfl) (sbc (sa_m 2 rfl) sbn)))) fr17; fr_ret h23 fr25)) (fun h19 => fr_ret h19 fr17))) (fun h2 => fi h2 (fun h6 => fo h6 (fun _ μ7 e12 h9 => have fr11 : Fr (T_m_roomFor) μ μ7 := Fr.tr (Fr.mono (f_m_goesOn  e12) (sbc (sa_m 0 rfl) (sbc (sa_m 1 rfl) (sbc (sa_m 2 rfl) sbn)))) (Fr.rf (T_m_roomFor) μ); fr_ret h9 fr11)) (fun h5 => fr_ret h5 (Fr.rf (T_m_roomFor) μ)))
def T_m_named_L12 : List At := [(55, none, some 15), (55, none, some 16)]
theorem f_m_named_L12 {μ0 : Mem} {T : List At} {x1 : Int32}   {x2 : Int32} {μ : Mem} {z : Int32 × Mem} (h : m_named_L12 x1 x2 μ = some z) (fr : Fr T μ0 μ) (hT : Sb (T_m_named_L12) T)   : Fr T μ0 z.2 := by
  have key : ∀ (n : Nat), (∀ (x2 : Int32) (μ : Mem) z, fixN (fun _ _ => none) (m_named_B12 x1) n x2 μ = some z → Fr T μ0 μ → Fr T μ0 z.2) := by
    intro n
    refine fixN_ind (fun (f : Int32 → Mem → Option (Int32 × Mem)) => ∀ (x2 : Int32) (μ : Mem) z, f x2 μ = some z → Fr T μ0 μ → Fr T μ0 z.2) ?_ ?_ n
    · intro x2 μ z h; cases h
    · intro self hself x2 μ z h fr
      unfold m_named_B12 at h
      exact fi h (fun h7 => fr_ret h7 fr) (fun h8 => fi h8 (fun h11 => (have h13 := fgv h11; (have h15 := fgv h13; fi h15 (fun h18 => fo h18 (fun _ μ19 e24 h21 => have fr23 : Fr T μ0 μ19 := Fr.tr (Fr.mono (f_m_wrong  e24) (sbt (sbc (sa_m 0 rfl) (sbc (sa_m 1 rfl) sbn)) hT)) fr; hself _ _ _ h21 fr23)) (fun h17 => hself _ _ _ h17 fr)))) (fun h10 => fr_ret h10 fr))
  exact key 60000 _ _ _ h fr
def T_m_named : List At := [(55, none, some 15), (55, none, some 16), (55, none, some 13), (55, none, some 14), (55, none, some 11)]
theorem f_m_named {μ : Mem}   {z : Int32 × Mem} (h : m_named  μ = some z) : Fr (T_m_named) μ z.2 := by
  unfold m_named at h
  exact fo h (fun _ μ1 e25 h3 => have fr5 : Fr (T_m_named) μ μ1 := Fr.tr (Fr.mono (f_m_must  e25) (sbc (sa_m 2 rfl) (sbc (sa_m 3 rfl) (sbc (sa_m 4 rfl) sbn)))) (Fr.rf (T_m_named) μ); f_m_named_L12 h3 fr5 (sbc (sa_m 0 rfl) (sbc (sa_m 1 rfl) sbn))  )
def T_m_endsName : List At := [(63, none, none), (64, none, none), (55, none, some 20), (55, none, some 13), (55, none, some 14), (55, none, some 11)]
theorem f_m_endsName {μ : Mem} {x1 : Int32} {x2 : Int32}  {z : Unit × Mem} (h : m_endsName x1 x2 μ = some z) : Fr (T_m_endsName) μ z.2 := by
  unfold m_endsName at h
  exact fo h (fun _ μ1 e21 h3 => have fr5 : Fr (T_m_endsName) μ μ1 := Fr.tr (Fr.mono (f_m_must  e21) (sbc (sa_m 3 rfl) (sbc (sa_m 4 rfl) (sbc (sa_m 5 rfl) sbn)))) (Fr.rf (T_m_endsName) μ); fi h3 (fun h7 => (have h10 := fgv h7; (have h12 := fgv h10; (let μ13 : Mem := stL μ1 63 0 (cl (mI μ1 55 0 20)) (mL μ1 61 0 (cl x1)); have fr14 : Fr (T_m_endsName) μ μ13 := Fr.stL fr5 (iT 0 rfl inA_nn); have h15 := mb_o h12; (have h17 := fgv h15; (let μ18 : Mem := stI (stI μ13 64 0 (cl (mI μ13 55 0 20)) x2) 55 0 20 ((mI (stI μ13 64 0 (cl (mI μ13 55 0 20)) x2) 55 0 20) + (nI 1)); have fr19 : Fr (T_m_endsName) μ μ18 := Fr.stI (Fr.stI fr14 (iT 1 rfl inA_nn)) (iT 2 rfl inA_ns); have h20 := mb_o h17; fr_ret h20 fr19)))))) (fun h8 => fr_ret h8 fr5))
def T_m_bounded : List At := [(55, none, some 13), (55, none, some 14), (55, none, some 11), (55, none, some 15), (55, none, some 16)]
theorem f_m_bounded {μ : Mem} {x1 : Int32} {x2 : Int32}  {z : Int32 × Mem} (h : m_bounded x1 x2 μ = some z) : Fr (T_m_bounded) μ z.2 := by
  unfold m_bounded at h
  exact fi h (fun h2 => fo h2 (fun _ μ4 e9 h6 => have fr8 : Fr (T_m_bounded) μ μ4 := Fr.tr (Fr.mono (f_m_fail  e9) (sbc (sa_m 0 rfl) (sbc (sa_m 1 rfl) sbn))) (Fr.rf (T_m_bounded) μ); fr_ret h6 fr8)) (fun h3 => fo h3 (fun r13 μ10 e62 h12 => have fr14 : Fr (T_m_bounded) μ μ10 := Fr.tr (Fr.mono (f_m_is  e62) sbn) (Fr.rf (T_m_bounded) μ); fi h12 (fun h17 => fo h17 (fun _ μ56 e61 h58 => have fr60 : Fr (T_m_bounded) μ μ56 := Fr.tr (Fr.mono (f_m_fail  e61) (sbc (sa_m 0 rfl) (sbc (sa_m 1 rfl) sbn))) fr14; fr_ret h58 fr60)) (fun h16 => (have h19 := fgv h16; fi h19 (fun h21 => fo h21 (fun _ μ23 e34 h25 => have fr27 : Fr (T_m_bounded) μ μ23 := Fr.tr (Fr.mono (f_m_wrong  e34) (sbc (sa_m 3 rfl) (sbc (sa_m 4 rfl) sbn))) fr14; fo h25 (fun _ μ28 e33 h30 => have fr32 : Fr (T_m_bounded) μ μ28 := Fr.tr (Fr.mono (f_m_goesOn  e33) (sbc (sa_m 2 rfl) (sbc (sa_m 0 rfl) (sbc (sa_m 1 rfl) sbn)))) fr27; fr_ret h30 fr32))) (fun h22 => fi h22 (fun h36 => fo h36 (fun _ μ38 e43 h40 => have fr42 : Fr (T_m_bounded) μ μ38 := Fr.tr (Fr.mono (f_m_goesOn  e43) (sbc (sa_m 2 rfl) (sbc (sa_m 0 rfl) (sbc (sa_m 1 rfl) sbn)))) fr14; fr_ret h40 fr42)) (fun h37 => fo h37 (fun _ μ44 e55 h46 => have fr48 : Fr (T_m_bounded) μ μ44 := Fr.tr (Fr.mono (f_m_wrong  e55) (sbc (sa_m 3 rfl) (sbc (sa_m 4 rfl) sbn))) fr14; fo h46 (fun _ μ49 e54 h51 => have fr53 : Fr (T_m_bounded) μ μ49 := Fr.tr (Fr.mono (f_m_goesOn  e54) (sbc (sa_m 2 rfl) (sbc (sa_m 0 rfl) (sbc (sa_m 1 rfl) sbn)))) fr48; fr_ret h51 fr53))))))))
def T_m_tellField : List At := [(67, none, none), (68, none, none), (69, none, none), (66, none, none), (63, none, none), (64, none, none), (55, none, some 20), (55, none, some 13), (55, none, some 14), (55, none, some 11), (55, none, some 15), (55, none, some 16)]
theorem f_m_tellField {μ : Mem}   {z : Unit × Mem} (h : m_tellField  μ = some z) : Fr (T_m_tellField) μ z.2 := by
  unfold m_tellField at h
  exact (have h2 := fgv h; (let v3 : Int32 := (((nI 6) * (mI μ 55 0 19)) + (mI μ 66 0 (cl (mI μ 55 0 19)))); have h4 := vb_o h2; (fo h4 (fun r8 μ5 e37 h7 => have fr9 : Fr (T_m_tellField) μ μ5 := Fr.tr (Fr.mono (f_m_named  e37) (sbc (sa_m 10 rfl) (sbc (sa_m 11 rfl) (sbc (sa_m 7 rfl) (sbc (sa_m 8 rfl) (sbc (sa_m 9 rfl) sbn)))))) (Fr.rf (T_m_tellField) μ); fo h7 (fun r13 μ10 e36 h12 => have fr14 : Fr (T_m_tellField) μ μ10 := Fr.tr (Fr.mono (f_m_bounded  e36) (sbc (sa_m 7 rfl) (sbc (sa_m 8 rfl) (sbc (sa_m 9 rfl) (sbc (sa_m 10 rfl) (sbc (sa_m 11 rfl) sbn)))))) fr9; (have h16 := fgv h12; (let μ17 : Mem := stI (stI μ10 67 0 (cl v3) r13) 68 0 (cl v3) (-2 : Int32); have fr18 : Fr (T_m_tellField) μ μ17 := Fr.stI (Fr.stI fr14 (iT 0 rfl inA_nn)) (iT 1 rfl inA_nn); have h19 := mb_o h16; (have h21 := fgv h19; fo h21 (fun _ μ22 e35 h24 => have fr26 : Fr (T_m_tellField) μ μ22 := Fr.tr (Fr.mono (f_m_endsName  e35) (sbc (sa_m 4 rfl) (sbc (sa_m 5 rfl) (sbc (sa_m 6 rfl) (sbc (sa_m 7 rfl) (sbc (sa_m 8 rfl) (sbc (sa_m 9 rfl) sbn))))))) (Fr.stI fr18 (iT 2 rfl inA_nn)); fi h24 (fun h29 => (have h31 := fgv h29; (let μ32 : Mem := stI μ22 66 0 (cl (mI μ22 55 0 19)) ((mI μ22 66 0 (cl (mI μ22 55 0 19))) + (nI 1)); have fr33 : Fr (T_m_tellField) μ μ32 := Fr.stI fr26 (iT 3 rfl inA_nn); have h34 := mb_o h31; fr_ret h34 fr33))) (fun h28 => fr_ret h28 fr26))))))))))
def T_m_foundOf_L2 : List At := []
theorem f_m_foundOf_L2 {μ0 : Mem} {T : List At} {x1 : Int32} {x2 : Int32}   {x3 : Int32} {μ : Mem} {z : Int32 × Mem} (h : m_foundOf_L2 x1 x2 x3 μ = some z) (fr : Fr T μ0 μ) (hT : Sb (T_m_foundOf_L2) T)   : Fr T μ0 z.2 := by
  have key : ∀ (n : Nat), (∀ (x3 : Int32) (μ : Mem) z, fixN (fun _ _ => none) (m_foundOf_B2 x1 x2) n x3 μ = some z → Fr T μ0 μ → Fr T μ0 z.2) := by
    intro n
    refine fixN_ind (fun (f : Int32 → Mem → Option (Int32 × Mem)) => ∀ (x3 : Int32) (μ : Mem) z, f x3 μ = some z → Fr T μ0 μ → Fr T μ0 z.2) ?_ ?_ n
    · intro x3 μ z h; cases h
    · intro self hself x3 μ z h fr
      unfold m_foundOf_B2 at h
      exact fi h (fun h2 => fr_ret h2 fr) (fun h3 => (have h5 := fgv h3; (have h7 := fgv h5; fi h7 (fun h10 => fi h10 (fun h12 => hself _ _ _ h12 fr) (fun h13 => fi h13 (fun h15 => hself _ _ _ h15 fr) (fun h16 => fr_ret h16 fr))) (fun h9 => hself _ _ _ h9 fr))))
  exact key 60000 _ _ _ h fr
def T_m_foundOf : List At := []
theorem f_m_foundOf {μ : Mem} {x1 : Int32} {x2 : Int32}  {z : Int32 × Mem} (h : m_foundOf x1 x2 μ = some z) : Fr (T_m_foundOf) μ z.2 := by
  unfold m_foundOf at h
  exact f_m_foundOf_L2 h (Fr.rf (T_m_foundOf) μ) sbn  
def T_m_known : List At := [(55, none, some 15), (55, none, some 16), (55, none, some 13), (55, none, some 14), (55, none, some 11)]
theorem f_m_known {μ : Mem} {x1 : Int32}  {z : Int32 × Mem} (h : m_known x1 μ = some z) : Fr (T_m_known) μ z.2 := by
  unfold m_known at h
  exact fo h (fun _ μ1 e24 h3 => have fr5 : Fr (T_m_known) μ μ1 := Fr.tr (Fr.mono (f_m_must  e24) (sbc (sa_m 2 rfl) (sbc (sa_m 3 rfl) (sbc (sa_m 4 rfl) sbn)))) (Fr.rf (T_m_known) μ); fi h3 (fun h7 => fo h7 (fun r12 μ9 e23 h11 => have fr13 : Fr (T_m_known) μ μ9 := Fr.tr (Fr.mono (f_m_foundOf  e23) sbn) fr5; fi h11 (fun h15 => fr_ret h15 fr13) (fun h16 => fo h16 (fun _ μ17 e22 h19 => have fr21 : Fr (T_m_known) μ μ17 := Fr.tr (Fr.mono (f_m_wrong  e22) (sbc (sa_m 0 rfl) (sbc (sa_m 1 rfl) sbn))) fr13; fr_ret h19 fr21)))) (fun h8 => fr_ret h8 fr5))
def T_m_toTold : List At := [(55, none, some 15), (55, none, some 16), (55, none, some 13), (55, none, some 14), (55, none, some 11)]
theorem f_m_toTold {μ : Mem}   {z : Int32 × Mem} (h : m_toTold  μ = some z) : Fr (T_m_toTold) μ z.2 := by
  unfold m_toTold at h
  exact fo h (fun r4 μ1 e57 h3 => have fr5 : Fr (T_m_toTold) μ μ1 := Fr.tr (Fr.mono (f_m_is  e57) sbn) (Fr.rf (T_m_toTold) μ); fi h3 (fun h7 => fo h7 (fun _ μ9 e50 h11 => have fr13 : Fr (T_m_toTold) μ μ9 := Fr.tr (Fr.mono (f_m_must  e50) (sbc (sa_m 2 rfl) (sbc (sa_m 3 rfl) (sbc (sa_m 4 rfl) sbn)))) fr5; fi h11 (fun h15 => fo h15 (fun r20 μ17 e49 h19 => have fr21 : Fr (T_m_toTold) μ μ17 := Fr.tr (Fr.mono (f_m_foundOf  e49) sbn) fr13; fo h19 (fun r25 μ22 e48 h24 => have fr26 : Fr (T_m_toTold) μ μ22 := Fr.tr (Fr.mono (f_m_foundOf  e48) sbn) fr21; fi h24 (fun h28 => fi h28 (fun h31 => fr_ret h31 fr26) (fun h32 => fr_ret h32 fr26)) (fun h29 => fi h29 (fun h34 => fi h34 (fun h37 => fr_ret h37 fr26) (fun h38 => fr_ret h38 fr26)) (fun h35 => fo h35 (fun _ μ39 e47 h41 => have fr43 : Fr (T_m_toTold) μ μ39 := Fr.tr (Fr.mono (f_m_wrong  e47) (sbc (sa_m 0 rfl) (sbc (sa_m 1 rfl) sbn))) fr26; fi h41 (fun h45 => fr_ret h45 fr43) (fun h46 => fr_ret h46 fr43))))))) (fun h16 => fr_ret h16 fr13))) (fun h8 => fo h8 (fun _ μ51 e56 h53 => have fr55 : Fr (T_m_toTold) μ μ51 := Fr.tr (Fr.mono (f_m_goesOn  e56) (sbc (sa_m 4 rfl) (sbc (sa_m 2 rfl) (sbc (sa_m 3 rfl) sbn)))) fr5; fr_ret h53 fr55)))
def T_m_tellNotch_L45 : List At := []
theorem f_m_tellNotch_L45 {μ0 : Mem} {T : List At} {x1 : Int32} {x2 : Int32}  {k83 : Int32 → Mem → Option (Unit × Mem)} {x3 : Int32} {x4 : Int32} {μ : Mem} {z : Unit × Mem} (h : m_tellNotch_L45 x1 x2 k83 x3 x4 μ = some z) (fr : Fr T μ0 μ) (hT : Sb (T_m_tellNotch_L45) T)  (hk83 : ∀ (x3 : Int32) (μ : Mem) z, k83 x3 μ = some z → Fr T μ0 μ → Fr T μ0 z.2) : Fr T μ0 z.2 := by
  have key : ∀ (n : Nat), (∀ (x3 : Int32) (x4 : Int32) (μ : Mem) z, fixN (fun _ _ _ => none) (m_tellNotch_B45 x1 x2 k83) n x3 x4 μ = some z → Fr T μ0 μ → Fr T μ0 z.2) := by
    intro n
    refine fixN_ind (fun (f : Int32 → Int32 → Mem → Option (Unit × Mem)) => ∀ (x3 : Int32) (x4 : Int32) (μ : Mem) z, f x3 x4 μ = some z → Fr T μ0 μ → Fr T μ0 z.2) ?_ ?_ n
    · intro x3 x4 μ z h; cases h
    · intro self hself x3 x4 μ z h fr
      unfold m_tellNotch_B45 at h
      exact fi h (fun h15 => hk83 _ _ _ h15 fr) (fun h16 => fi h16 (fun h19 => (have h21 := fgv h19; (have h23 := fgv h21; fi h23 (fun h26 => hself _ _ _ _ h26 fr) (fun h25 => hself _ _ _ _ h25 fr)))) (fun h18 => hk83 _ _ _ h18 fr))
  exact key 60000 _ _ _ _ h fr
def T_m_tellNotch : List At := [(71, none, none), (72, none, none), (73, none, none), (70, none, none), (55, none, some 13), (55, none, some 14), (55, none, some 11), (55, none, some 15), (55, none, some 16)]
theorem f_m_tellNotch {μ : Mem}   {z : Unit × Mem} (h : m_tellNotch  μ = some z) : Fr (T_m_tellNotch) μ z.2 := by
  unfold m_tellNotch at h
  exact (have h2 := fgv h; (let v3 : Int32 := (((nI 12) * (mI μ 55 0 19)) + (mI μ 70 0 (cl (mI μ 55 0 19)))); have h4 := vb_o h2; (fo h4 (fun r8 μ5 e151 h7 => have fr9 : Fr (T_m_tellNotch) μ μ5 := Fr.tr (Fr.mono (f_m_known  e151) (sbc (sa_m 7 rfl) (sbc (sa_m 8 rfl) (sbc (sa_m 4 rfl) (sbc (sa_m 5 rfl) (sbc (sa_m 6 rfl) sbn)))))) (Fr.rf (T_m_tellNotch) μ); (have h11 := fgv h7; (let v12 : Int32 := ((nI 12) * (mI (stI μ5 71 0 (cl v3) r8) 55 0 19)); have h13 := vb_o h11; (f_m_tellNotch_L45 h13 (Fr.stI fr9 (iT 0 rfl inA_nn)) sbn  (fun x27 μ28 _ h30 fr31 => fi h30 (fun h34 => fi h34 (fun h62 => fo h62 (fun r67 μ64 e89 h66 => have fr68 : Fr (T_m_tellNotch) μ μ64 := Fr.tr (Fr.mono (f_m_toTold  e89) (sbc (sa_m 7 rfl) (sbc (sa_m 8 rfl) (sbc (sa_m 4 rfl) (sbc (sa_m 5 rfl) (sbc (sa_m 6 rfl) sbn)))))) fr31; fo h66 (fun r72 μ69 e88 h71 => have fr73 : Fr (T_m_tellNotch) μ μ69 := Fr.tr (Fr.mono (f_m_bounded  e88) (sbc (sa_m 4 rfl) (sbc (sa_m 5 rfl) (sbc (sa_m 6 rfl) (sbc (sa_m 7 rfl) (sbc (sa_m 8 rfl) sbn)))))) (Fr.stI fr68 (iT 1 rfl inA_nn)); fo h71 (fun _ μ74 e87 h76 => have fr78 : Fr (T_m_tellNotch) μ μ74 := Fr.tr (Fr.mono (f_m_must  e87) (sbc (sa_m 4 rfl) (sbc (sa_m 5 rfl) (sbc (sa_m 6 rfl) sbn)))) (Fr.stI fr73 (iT 2 rfl inA_nn)); fi h76 (fun h81 => (have h83 := fgv h81; (let μ84 : Mem := stI μ74 70 0 (cl (mI μ74 55 0 19)) ((mI μ74 70 0 (cl (mI μ74 55 0 19))) + (nI 1)); have fr85 : Fr (T_m_tellNotch) μ μ84 := Fr.stI fr78 (iT 3 rfl inA_nn); have h86 := mb_o h83; fr_ret h86 fr85))) (fun h80 => fr_ret h80 fr78))))) (fun h63 => fi h63 (fun h91 => fo h91 (fun r96 μ93 e118 h95 => have fr97 : Fr (T_m_tellNotch) μ μ93 := Fr.tr (Fr.mono (f_m_toTold  e118) (sbc (sa_m 7 rfl) (sbc (sa_m 8 rfl) (sbc (sa_m 4 rfl) (sbc (sa_m 5 rfl) (sbc (sa_m 6 rfl) sbn)))))) fr31; fo h95 (fun r101 μ98 e117 h100 => have fr102 : Fr (T_m_tellNotch) μ μ98 := Fr.tr (Fr.mono (f_m_bounded  e117) (sbc (sa_m 4 rfl) (sbc (sa_m 5 rfl) (sbc (sa_m 6 rfl) (sbc (sa_m 7 rfl) (sbc (sa_m 8 rfl) sbn)))))) (Fr.stI fr97 (iT 1 rfl inA_nn)); fo h100 (fun _ μ103 e116 h105 => have fr107 : Fr (T_m_tellNotch) μ μ103 := Fr.tr (Fr.mono (f_m_must  e116) (sbc (sa_m 4 rfl) (sbc (sa_m 5 rfl) (sbc (sa_m 6 rfl) sbn)))) (Fr.stI fr102 (iT 2 rfl inA_nn)); fi h105 (fun h110 => (have h112 := fgv h110; (let μ113 : Mem := stI μ103 70 0 (cl (mI μ103 55 0 19)) ((mI μ103 70 0 (cl (mI μ103 55 0 19))) + (nI 1)); have fr114 : Fr (T_m_tellNotch) μ μ113 := Fr.stI fr107 (iT 3 rfl inA_nn); have h115 := mb_o h112; fr_ret h115 fr114))) (fun h109 => fr_ret h109 fr107))))) (fun h92 => fo h92 (fun _ μ119 e150 h121 => have fr123 : Fr (T_m_tellNotch) μ μ119 := Fr.tr (Fr.mono (f_m_wrong  e150) (sbc (sa_m 7 rfl) (sbc (sa_m 8 rfl) sbn))) fr31; fo h121 (fun r127 μ124 e149 h126 => have fr128 : Fr (T_m_tellNotch) μ μ124 := Fr.tr (Fr.mono (f_m_toTold  e149) (sbc (sa_m 7 rfl) (sbc (sa_m 8 rfl) (sbc (sa_m 4 rfl) (sbc (sa_m 5 rfl) (sbc (sa_m 6 rfl) sbn)))))) fr123; fo h126 (fun r132 μ129 e148 h131 => have fr133 : Fr (T_m_tellNotch) μ μ129 := Fr.tr (Fr.mono (f_m_bounded  e148) (sbc (sa_m 4 rfl) (sbc (sa_m 5 rfl) (sbc (sa_m 6 rfl) (sbc (sa_m 7 rfl) (sbc (sa_m 8 rfl) sbn)))))) (Fr.stI fr128 (iT 1 rfl inA_nn)); fo h131 (fun _ μ134 e147 h136 => have fr138 : Fr (T_m_tellNotch) μ μ134 := Fr.tr (Fr.mono (f_m_must  e147) (sbc (sa_m 4 rfl) (sbc (sa_m 5 rfl) (sbc (sa_m 6 rfl) sbn)))) (Fr.stI fr133 (iT 2 rfl inA_nn)); fi h136 (fun h141 => (have h143 := fgv h141; (let μ144 : Mem := stI μ134 70 0 (cl (mI μ134 55 0 19)) ((mI μ134 70 0 (cl (mI μ134 55 0 19))) + (nI 1)); have fr145 : Fr (T_m_tellNotch) μ μ144 := Fr.stI fr138 (iT 3 rfl inA_nn); have h146 := mb_o h143; fr_ret h146 fr145))) (fun h140 => fr_ret h140 fr138)))))))) (fun h33 => fo h33 (fun r38 μ35 e60 h37 => have fr39 : Fr (T_m_tellNotch) μ μ35 := Fr.tr (Fr.mono (f_m_toTold  e60) (sbc (sa_m 7 rfl) (sbc (sa_m 8 rfl) (sbc (sa_m 4 rfl) (sbc (sa_m 5 rfl) (sbc (sa_m 6 rfl) sbn)))))) fr31; fo h37 (fun r43 μ40 e59 h42 => have fr44 : Fr (T_m_tellNotch) μ μ40 := Fr.tr (Fr.mono (f_m_bounded  e59) (sbc (sa_m 4 rfl) (sbc (sa_m 5 rfl) (sbc (sa_m 6 rfl) (sbc (sa_m 7 rfl) (sbc (sa_m 8 rfl) sbn)))))) (Fr.stI fr39 (iT 1 rfl inA_nn)); fo h42 (fun _ μ45 e58 h47 => have fr49 : Fr (T_m_tellNotch) μ μ45 := Fr.tr (Fr.mono (f_m_must  e58) (sbc (sa_m 4 rfl) (sbc (sa_m 5 rfl) (sbc (sa_m 6 rfl) sbn)))) (Fr.stI fr44 (iT 2 rfl inA_nn)); fi h47 (fun h52 => (have h54 := fgv h52; (let μ55 : Mem := stI μ45 70 0 (cl (mI μ45 55 0 19)) ((mI μ45 70 0 (cl (mI μ45 55 0 19))) + (nI 1)); have fr56 : Fr (T_m_tellNotch) μ μ55 := Fr.stI fr49 (iT 3 rfl inA_nn); have h57 := mb_o h54; fr_ret h57 fr56))) (fun h51 => fr_ret h51 fr49)))))))))))))
def T_m_tellDrain : List At := [(68, none, none), (69, none, none), (55, none, some 13), (55, none, some 14), (55, none, some 11), (55, none, some 15), (55, none, some 16)]
theorem f_m_tellDrain {μ : Mem}   {z : Unit × Mem} (h : m_tellDrain  μ = some z) : Fr (T_m_tellDrain) μ z.2 := by
  unfold m_tellDrain at h
  exact fo h (fun r4 μ1 e40 h3 => have fr5 : Fr (T_m_tellDrain) μ μ1 := Fr.tr (Fr.mono (f_m_known  e40) (sbc (sa_m 5 rfl) (sbc (sa_m 6 rfl) (sbc (sa_m 2 rfl) (sbc (sa_m 3 rfl) (sbc (sa_m 4 rfl) sbn)))))) (Fr.rf (T_m_tellDrain) μ); fo h3 (fun r9 μ6 e39 h8 => have fr10 : Fr (T_m_tellDrain) μ μ6 := Fr.tr (Fr.mono (f_m_known  e39) (sbc (sa_m 5 rfl) (sbc (sa_m 6 rfl) (sbc (sa_m 2 rfl) (sbc (sa_m 3 rfl) (sbc (sa_m 4 rfl) sbn)))))) fr5; fo h8 (fun r14 μ11 e38 h13 => have fr15 : Fr (T_m_tellDrain) μ μ11 := Fr.tr (Fr.mono (f_m_bounded  e38) (sbc (sa_m 2 rfl) (sbc (sa_m 3 rfl) (sbc (sa_m 4 rfl) (sbc (sa_m 5 rfl) (sbc (sa_m 6 rfl) sbn)))))) fr10; fo h13 (fun _ μ16 e37 h18 => have fr20 : Fr (T_m_tellDrain) μ μ16 := Fr.tr (Fr.mono (f_m_must  e37) (sbc (sa_m 2 rfl) (sbc (sa_m 3 rfl) (sbc (sa_m 4 rfl) sbn)))) fr15; fi h18 (fun h22 => fr_ret h22 fr20) (fun h23 => fi h23 (fun h25 => (have h28 := fgv h25; (let μ29 : Mem := stI μ16 68 0 (cl (((nI 6) * (mI μ16 55 0 19)) + r4)) r9; have fr30 : Fr (T_m_tellDrain) μ μ29 := Fr.stI fr20 (iT 0 rfl inA_nn); have h31 := mb_o h28; (have h33 := fgv h31; (let μ34 : Mem := stI μ29 69 0 (cl (((nI 6) * (mI μ29 55 0 19)) + r4)) r14; have fr35 : Fr (T_m_tellDrain) μ μ34 := Fr.stI fr30 (iT 1 rfl inA_nn); have h36 := mb_o h33; fr_ret h36 fr35))))) (fun h26 => fr_ret h26 fr20))))))
def T_m_emit : List At := [(83, none, none), (84, none, none), (55, none, some 42)]
theorem f_m_emit {μ : Mem} {x1 : Int32} {x2 : Int32}  {z : Unit × Mem} (h : m_emit x1 x2 μ = some z) : Fr (T_m_emit) μ z.2 := by
  unfold m_emit at h
  exact (have h2 := fgv h; (have h4 := fgv h2; (let μ5 : Mem := stI (stI μ 83 0 (cl (mI μ 55 0 42)) x1) 84 0 (cl (mI (stI μ 83 0 (cl (mI μ 55 0 42)) x1) 55 0 42)) x2; have fr6 : Fr (T_m_emit) μ μ5 := Fr.stI (Fr.stI (Fr.rf (T_m_emit) μ) (iT 0 rfl inA_nn)) (iT 1 rfl inA_nn); have h7 := mb_o h4; (let μ8 : Mem := stI μ5 55 0 42 ((mI μ5 55 0 42) + (nI 1)); have fr9 : Fr (T_m_emit) μ μ8 := Fr.stI fr6 (iT 2 rfl inA_ns); have h10 := mb_o h7; fr_ret h10 fr9))))
def T_m_unit : List At := [(55, none, some 13), (55, none, some 14), (55, none, some 11), (83, none, none), (84, none, none), (55, none, some 42)]
theorem f_m_unit {μ : Mem}   {z : Unit × Mem} (h : m_unit  μ = some z) : Fr (T_m_unit) μ z.2 := by
  unfold m_unit at h
  exact fo h (fun r4 μ1 e64 h3 => have fr5 : Fr (T_m_unit) μ μ1 := Fr.tr (Fr.mono (f_m_is  e64) sbn) (Fr.rf (T_m_unit) μ); fi h3 (fun h7 => fi h7 (fun h11 => (have h19 := fgv h11; fi h19 (fun h21 => fo h21 (fun _ μ23 e28 h25 => have fr27 : Fr (T_m_unit) μ μ23 := Fr.tr (Fr.mono (f_m_fail  e28) (sbc (sa_m 0 rfl) (sbc (sa_m 1 rfl) sbn))) fr5; fr_ret h25 fr27)) (fun h22 => fi h22 (fun h30 => fo h30 (fun _ μ32 e37 h34 => have fr36 : Fr (T_m_unit) μ μ32 := Fr.tr (Fr.mono (f_m_fail  e37) (sbc (sa_m 0 rfl) (sbc (sa_m 1 rfl) sbn))) fr5; fr_ret h34 fr36)) (fun h31 => fo h31 (fun _ μ38 e49 h40 => have fr42 : Fr (T_m_unit) μ μ38 := Fr.tr (Fr.mono (f_m_emit  e49) (sbc (sa_m 3 rfl) (sbc (sa_m 4 rfl) (sbc (sa_m 5 rfl) sbn)))) fr5; fo h40 (fun _ μ43 e48 h45 => have fr47 : Fr (T_m_unit) μ μ43 := Fr.tr (Fr.mono (f_m_goesOn  e48) (sbc (sa_m 2 rfl) (sbc (sa_m 0 rfl) (sbc (sa_m 1 rfl) sbn)))) fr42; fr_ret h45 fr47)))))) (fun h10 => fo h10 (fun _ μ12 e17 h14 => have fr16 : Fr (T_m_unit) μ μ12 := Fr.tr (Fr.mono (f_m_fail  e17) (sbc (sa_m 0 rfl) (sbc (sa_m 1 rfl) sbn))) fr5; fr_ret h14 fr16))) (fun h8 => (have h51 := fgv h8; fo h51 (fun _ μ52 e63 h54 => have fr56 : Fr (T_m_unit) μ μ52 := Fr.tr (Fr.mono (f_m_emit  e63) (sbc (sa_m 3 rfl) (sbc (sa_m 4 rfl) (sbc (sa_m 5 rfl) sbn)))) fr5; fo h54 (fun _ μ57 e62 h59 => have fr61 : Fr (T_m_unit) μ μ57 := Fr.tr (Fr.mono (f_m_goesOn  e62) (sbc (sa_m 2 rfl) (sbc (sa_m 0 rfl) (sbc (sa_m 1 rfl) sbn)))) fr56; fr_ret h59 fr61)))))
def T_m_comesOut_L0 : List At := [(55, none, some 46), (83, none, none), (84, none, none), (55, none, some 42)]
theorem f_m_comesOut_L0 {μ0 : Mem} {T : List At} {x1 : Int32}    {μ : Mem} {z : Unit × Mem} (h : m_comesOut_L0 x1  μ = some z) (fr : Fr T μ0 μ) (hT : Sb (T_m_comesOut_L0) T)   : Fr T μ0 z.2 := by
  have key : ∀ (n : Nat), (∀  (μ : Mem) z, fixN (fun _ => none) (m_comesOut_B0 x1) n  μ = some z → Fr T μ0 μ → Fr T μ0 z.2) := by
    intro n
    refine fixN_ind (fun (f : Mem → Option (Unit × Mem)) => ∀  (μ : Mem) z, f  μ = some z → Fr T μ0 μ → Fr T μ0 z.2) ?_ ?_ n
    · intro  μ z h; cases h
    · intro self hself  μ z h fr
      unfold m_comesOut_B0 at h
      exact fi h (fun h2 => fr_ret h2 fr) (fun h3 => (have h5 := fgv h3; (let v6 : Int32 := (mI μ 85 0 (cl ((mI μ 55 0 46) - (nI 1)))); have h7 := vb_o h5; (fi h7 (fun h9 => fr_ret h9 fr) (fun h10 => fi h10 (fun h12 => fi h12 (fun h16 => fo h16 (fun _ μ41 e46 h43 => have fr45 : Fr T μ0 μ41 := Fr.tr (Fr.mono (f_m_emit  e46) (sbt (sbc (sa_m 1 rfl) (sbc (sa_m 2 rfl) (sbc (sa_m 3 rfl) sbn))) hT)) (Fr.stI fr (hT _ _ _ (iT 0 rfl inA_ns))); hself _ _ h43 fr45)) (fun h15 => fi h15 (fun h19 => fo h19 (fun _ μ35 e40 h37 => have fr39 : Fr T μ0 μ35 := Fr.tr (Fr.mono (f_m_emit  e40) (sbt (sbc (sa_m 1 rfl) (sbc (sa_m 2 rfl) (sbc (sa_m 3 rfl) sbn))) hT)) (Fr.stI fr (hT _ _ _ (iT 0 rfl inA_ns))); hself _ _ h37 fr39)) (fun h18 => fi h18 (fun h22 => fo h22 (fun _ μ29 e34 h31 => have fr33 : Fr T μ0 μ29 := Fr.tr (Fr.mono (f_m_emit  e34) (sbt (sbc (sa_m 1 rfl) (sbc (sa_m 2 rfl) (sbc (sa_m 3 rfl) sbn))) hT)) (Fr.stI fr (hT _ _ _ (iT 0 rfl inA_ns))); hself _ _ h31 fr33)) (fun h21 => fo h21 (fun _ μ23 e28 h25 => have fr27 : Fr T μ0 μ23 := Fr.tr (Fr.mono (f_m_emit  e28) (sbt (sbc (sa_m 1 rfl) (sbc (sa_m 2 rfl) (sbc (sa_m 3 rfl) sbn))) hT)) (Fr.stI fr (hT _ _ _ (iT 0 rfl inA_ns))); hself _ _ h25 fr27))))) (fun h13 => fi h13 (fun h48 => fr_ret h48 fr) (fun h49 => fi h49 (fun h52 => fr_ret h52 fr) (fun h51 => fi h51 (fun h55 => fo h55 (fun _ μ80 e85 h82 => have fr84 : Fr T μ0 μ80 := Fr.tr (Fr.mono (f_m_emit  e85) (sbt (sbc (sa_m 1 rfl) (sbc (sa_m 2 rfl) (sbc (sa_m 3 rfl) sbn))) hT)) (Fr.stI fr (hT _ _ _ (iT 0 rfl inA_ns))); hself _ _ h82 fr84)) (fun h54 => fi h54 (fun h58 => fo h58 (fun _ μ74 e79 h76 => have fr78 : Fr T μ0 μ74 := Fr.tr (Fr.mono (f_m_emit  e79) (sbt (sbc (sa_m 1 rfl) (sbc (sa_m 2 rfl) (sbc (sa_m 3 rfl) sbn))) hT)) (Fr.stI fr (hT _ _ _ (iT 0 rfl inA_ns))); hself _ _ h76 fr78)) (fun h57 => fi h57 (fun h61 => fo h61 (fun _ μ68 e73 h70 => have fr72 : Fr T μ0 μ68 := Fr.tr (Fr.mono (f_m_emit  e73) (sbt (sbc (sa_m 1 rfl) (sbc (sa_m 2 rfl) (sbc (sa_m 3 rfl) sbn))) hT)) (Fr.stI fr (hT _ _ _ (iT 0 rfl inA_ns))); hself _ _ h70 fr72)) (fun h60 => fo h60 (fun _ μ62 e67 h64 => have fr66 : Fr T μ0 μ62 := Fr.tr (Fr.mono (f_m_emit  e67) (sbt (sbc (sa_m 1 rfl) (sbc (sa_m 2 rfl) (sbc (sa_m 3 rfl) sbn))) hT)) (Fr.stI fr (hT _ _ _ (iT 0 rfl inA_ns))); hself _ _ h64 fr66))))))))))))
  exact key 60000  _ _ h fr
def T_m_comesOut : List At := [(55, none, some 46), (83, none, none), (84, none, none), (55, none, some 42)]
theorem f_m_comesOut {μ : Mem} {x1 : Int32}  {z : Unit × Mem} (h : m_comesOut x1 μ = some z) : Fr (T_m_comesOut) μ z.2 := by
  unfold m_comesOut at h
  exact f_m_comesOut_L0 h (Fr.rf (T_m_comesOut) μ) (sbc (sa_m 0 rfl) (sbc (sa_m 1 rfl) (sbc (sa_m 2 rfl) (sbc (sa_m 3 rfl) sbn))))  
def T_m_expression_L23 : List At := [(55, none, some 12), (85, none, none), (55, none, some 46), (55, none, some 11), (55, none, some 13), (55, none, some 14)]
theorem f_m_expression_L23 {μ0 : Mem} {T : List At} {x1 : Int32}  {k84 : Mem → Option (Unit × Mem)}  {μ : Mem} {z : Unit × Mem} (h : m_expression_L23 x1 k84  μ = some z) (fr : Fr T μ0 μ) (hT : Sb (T_m_expression_L23) T)  (hk84 : ∀  (μ : Mem) z, k84  μ = some z → Fr T μ0 μ → Fr T μ0 z.2) : Fr T μ0 z.2 := by
  have key : ∀ (n : Nat), (∀  (μ : Mem) z, fixN (fun _ => none) (m_expression_B23 x1 k84) n  μ = some z → Fr T μ0 μ → Fr T μ0 z.2) := by
    intro n
    refine fixN_ind (fun (f : Mem → Option (Unit × Mem)) => ∀  (μ : Mem) z, f  μ = some z → Fr T μ0 μ → Fr T μ0 z.2) ?_ ?_ n
    · intro  μ z h; cases h
    · intro self hself  μ z h fr
      unfold m_expression_B23 at h
      exact fo h (fun r10 μ7 e58 h9 => have fr11 : Fr T μ0 μ7 := Fr.tr (Fr.mono (f_m_is  e58) (sbt sbn hT)) fr; fi h9 (fun h13 => hk84 _ _ h13 fr11) (fun h14 => fi h14 (fun h17 => fo h17 (fun _ μ35 e57 h37 => have fr39 : Fr T μ0 μ35 := Fr.tr (Fr.mono (f_m_fail  e57) (sbt (sbc (sa_m 4 rfl) (sbc (sa_m 5 rfl) sbn)) hT)) fr11; (let μ40 : Mem := stI μ35 55 0 12 ((mI μ35 55 0 12) + (nI 1)); have fr41 : Fr T μ0 μ40 := Fr.stI fr39 (hT _ _ _ (iT 0 rfl inA_ns)); have h42 := mb_o h37; fo h42 (fun _ μ43 e56 h45 => have fr47 : Fr T μ0 μ43 := Fr.tr (Fr.mono (f_m_goesOn  e56) (sbt (sbc (sa_m 3 rfl) (sbc (sa_m 4 rfl) (sbc (sa_m 5 rfl) sbn))) hT)) fr41; (have h49 := fgv h45; (let μ50 : Mem := stI μ43 85 0 (cl (mI μ43 55 0 46)) (nI 6); have fr51 : Fr T μ0 μ50 := Fr.stI fr47 (hT _ _ _ (iT 1 rfl inA_nn)); have h52 := mb_o h49; (let μ53 : Mem := stI μ50 55 0 46 ((mI μ50 55 0 46) + (nI 1)); have fr54 : Fr T μ0 μ53 := Fr.stI fr51 (hT _ _ _ (iT 2 rfl inA_ns)); have h55 := mb_o h52; hself _ _ h55 fr54))))))) (fun h16 => (let μ18 : Mem := stI μ7 55 0 12 ((mI μ7 55 0 12) + (nI 1)); have fr19 : Fr T μ0 μ18 := Fr.stI fr11 (hT _ _ _ (iT 0 rfl inA_ns)); have h20 := mb_o h16; fo h20 (fun _ μ21 e34 h23 => have fr25 : Fr T μ0 μ21 := Fr.tr (Fr.mono (f_m_goesOn  e34) (sbt (sbc (sa_m 3 rfl) (sbc (sa_m 4 rfl) (sbc (sa_m 5 rfl) sbn))) hT)) fr19; (have h27 := fgv h23; (let μ28 : Mem := stI μ21 85 0 (cl (mI μ21 55 0 46)) (nI 6); have fr29 : Fr T μ0 μ28 := Fr.stI fr25 (hT _ _ _ (iT 1 rfl inA_nn)); have h30 := mb_o h27; (let μ31 : Mem := stI μ28 55 0 46 ((mI μ28 55 0 46) + (nI 1)); have fr32 : Fr T μ0 μ31 := Fr.stI fr29 (hT _ _ _ (iT 2 rfl inA_ns)); have h33 := mb_o h30; hself _ _ h33 fr32))))))))
  exact key 60000  _ _ h fr
def T_m_expression_L96 : List At := [(55, none, some 46), (55, none, some 12), (55, none, some 11), (55, none, some 13), (55, none, some 14), (83, none, none), (84, none, none), (55, none, some 42)]
theorem f_m_expression_L96 {μ0 : Mem} {T : List At} {x1 : Int32}  {k145 : Mem → Option (Unit × Mem)}  {μ : Mem} {z : Unit × Mem} (h : m_expression_L96 x1 k145  μ = some z) (fr : Fr T μ0 μ) (hT : Sb (T_m_expression_L96) T)  (hk145 : ∀  (μ : Mem) z, k145  μ = some z → Fr T μ0 μ → Fr T μ0 z.2) : Fr T μ0 z.2 := by
  have key : ∀ (n : Nat), (∀  (μ : Mem) z, fixN (fun _ => none) (m_expression_B96 x1 k145) n  μ = some z → Fr T μ0 μ → Fr T μ0 z.2) := by
    intro n
    refine fixN_ind (fun (f : Mem → Option (Unit × Mem)) => ∀  (μ : Mem) z, f  μ = some z → Fr T μ0 μ → Fr T μ0 z.2) ?_ ?_ n
    · intro  μ z h; cases h
    · intro self hself  μ z h fr
      unfold m_expression_B96 at h
      exact fo h (fun r74 μ71 e100 h73 => have fr75 : Fr T μ0 μ71 := Fr.tr (Fr.mono (f_m_is  e100) (sbt sbn hT)) fr; fi h73 (fun h77 => hk145 _ _ h77 fr75) (fun h78 => fi h78 (fun h80 => hk145 _ _ h80 fr75) (fun h81 => fo h81 (fun _ μ82 e99 h84 => have fr86 : Fr T μ0 μ82 := Fr.tr (Fr.mono (f_m_comesOut  e99) (sbt (sbc (sa_m 0 rfl) (sbc (sa_m 5 rfl) (sbc (sa_m 6 rfl) (sbc (sa_m 7 rfl) sbn)))) hT)) fr75; (let μ87 : Mem := stI μ82 55 0 46 ((mI μ82 55 0 46) - (nI 1)); have fr88 : Fr T μ0 μ87 := Fr.stI fr86 (hT _ _ _ (iT 0 rfl inA_ns)); have h89 := mb_o h84; (let μ90 : Mem := stI μ87 55 0 12 ((mI μ87 55 0 12) - (nI 1)); have fr91 : Fr T μ0 μ90 := Fr.stI fr88 (hT _ _ _ (iT 1 rfl inA_ns)); have h92 := mb_o h89; fo h92 (fun _ μ93 e98 h95 => have fr97 : Fr T μ0 μ93 := Fr.tr (Fr.mono (f_m_goesOn  e98) (sbt (sbc (sa_m 2 rfl) (sbc (sa_m 3 rfl) (sbc (sa_m 4 rfl) sbn))) hT)) fr91; hself _ _ h95 fr97)))))))
  exact key 60000  _ _ h fr
def T_m_expression_L12 : List At := [(85, none, none), (55, none, some 46), (55, none, some 11), (55, none, some 13), (55, none, some 14), (83, none, none), (84, none, none), (55, none, some 42), (55, none, some 12)]
theorem f_m_expression_L12 {μ0 : Mem} {T : List At} {x1 : Int32}  {k204 : Mem → Option (Unit × Mem)} {x2 : Int32} {μ : Mem} {z : Unit × Mem} (h : m_expression_L12 x1 k204 x2 μ = some z) (fr : Fr T μ0 μ) (hT : Sb (T_m_expression_L12) T)  (hk204 : ∀  (μ : Mem) z, k204  μ = some z → Fr T μ0 μ → Fr T μ0 z.2) : Fr T μ0 z.2 := by
  have key : ∀ (n : Nat), (∀ (x2 : Int32) (μ : Mem) z, fixN (fun _ _ => none) (m_expression_B12 x1 k204) n x2 μ = some z → Fr T μ0 μ → Fr T μ0 z.2) := by
    intro n
    refine fixN_ind (fun (f : Int32 → Mem → Option (Unit × Mem)) => ∀ (x2 : Int32) (μ : Mem) z, f x2 μ = some z → Fr T μ0 μ → Fr T μ0 z.2) ?_ ?_ n
    · intro x2 μ z h; cases h
    · intro self hself x2 μ z h fr
      unfold m_expression_B12 at h
      exact fi h (fun h2 => fr_ret h2 fr) (fun h3 => fi h3 (fun h6 => f_m_expression_L23 h6 fr (sbt (sbc (sa_m 8 rfl) (sbc (sa_m 0 rfl) (sbc (sa_m 1 rfl) (sbc (sa_m 2 rfl) (sbc (sa_m 3 rfl) (sbc (sa_m 4 rfl) sbn)))))) hT)  (fun  μ59 _ h61 fr62 => fo h61 (fun _ μ63 e491 h65 => have fr67 : Fr T μ0 μ63 := Fr.tr (Fr.mono (f_m_unit  e491) (sbt (sbc (sa_m 3 rfl) (sbc (sa_m 4 rfl) (sbc (sa_m 2 rfl) (sbc (sa_m 5 rfl) (sbc (sa_m 6 rfl) (sbc (sa_m 7 rfl) sbn)))))) hT)) fr62; fi h65 (fun h69 => f_m_expression_L96 h69 fr67 (sbt (sbc (sa_m 1 rfl) (sbc (sa_m 8 rfl) (sbc (sa_m 2 rfl) (sbc (sa_m 3 rfl) (sbc (sa_m 4 rfl) (sbc (sa_m 5 rfl) (sbc (sa_m 6 rfl) (sbc (sa_m 7 rfl) sbn)))))))) hT)  (fun  μ101 _ h103 fr104 => fo h103 (fun r108 μ105 e490 h107 => have fr109 : Fr T μ0 μ105 := Fr.tr (Fr.mono (f_m_is  e490) (sbt sbn hT)) fr104; fi h107 (fun h112 => fo h112 (fun r201 μ198 e489 h200 => have fr202 : Fr T μ0 μ198 := Fr.tr (Fr.mono (f_m_is  e489) (sbt sbn hT)) fr109; fi h200 (fun h205 => fo h205 (fun r294 μ291 e488 h293 => have fr295 : Fr T μ0 μ291 := Fr.tr (Fr.mono (f_m_is  e488) (sbt sbn hT)) fr202; fi h293 (fun h298 => fo h298 (fun r387 μ384 e487 h386 => have fr388 : Fr T μ0 μ384 := Fr.tr (Fr.mono (f_m_is  e487) (sbt sbn hT)) fr295; fi h386 (fun h390 => fi h390 (fun h394 => hk204 _ _ h394 fr388) (fun h395 => fo h395 (fun _ μ396 e401 h398 => have fr400 : Fr T μ0 μ396 := Fr.tr (Fr.mono (f_m_fail  e401) (sbt (sbc (sa_m 3 rfl) (sbc (sa_m 4 rfl) sbn)) hT)) fr388; hk204 _ _ h398 fr400))) (fun h391 => fo h391 (fun r406 μ403 e486 h405 => have fr407 : Fr T μ0 μ403 := Fr.tr (Fr.mono (f_m_is  e486) (sbt sbn hT)) fr388; fi h405 (fun h410 => fo h410 (fun r436 μ433 e485 h435 => have fr437 : Fr T μ0 μ433 := Fr.tr (Fr.mono (f_m_is  e485) (sbt sbn hT)) fr407; fi h435 (fun h439 => fo h439 (fun _ μ441 e462 h443 => have fr445 : Fr T μ0 μ441 := Fr.tr (Fr.mono (f_m_comesOut  e462) (sbt (sbc (sa_m 1 rfl) (sbc (sa_m 5 rfl) (sbc (sa_m 6 rfl) (sbc (sa_m 7 rfl) sbn)))) hT)) fr437; (have h447 := fgv h443; (have h449 := fgv h447; (let μ450 : Mem := stI μ441 85 0 (cl (mI μ441 55 0 46)) (mI μ441 58 0 (cl (mI μ441 55 0 11))); have fr451 : Fr T μ0 μ450 := Fr.stI fr445 (hT _ _ _ (iT 0 rfl inA_nn)); have h452 := mb_o h449; (let μ453 : Mem := stI μ450 55 0 46 ((mI μ450 55 0 46) + (nI 1)); have fr454 : Fr T μ0 μ453 := Fr.stI fr451 (hT _ _ _ (iT 1 rfl inA_ns)); have h455 := mb_o h452; fo h455 (fun _ μ456 e461 h458 => have fr460 : Fr T μ0 μ456 := Fr.tr (Fr.mono (f_m_goesOn  e461) (sbt (sbc (sa_m 2 rfl) (sbc (sa_m 3 rfl) (sbc (sa_m 4 rfl) sbn))) hT)) fr454; hself _ _ _ h458 fr460))))))) (fun h440 => fo h440 (fun _ μ463 e484 h465 => have fr467 : Fr T μ0 μ463 := Fr.tr (Fr.mono (f_m_comesOut  e484) (sbt (sbc (sa_m 1 rfl) (sbc (sa_m 5 rfl) (sbc (sa_m 6 rfl) (sbc (sa_m 7 rfl) sbn)))) hT)) fr437; (have h469 := fgv h465; (have h471 := fgv h469; (let μ472 : Mem := stI μ463 85 0 (cl (mI μ463 55 0 46)) (mI μ463 58 0 (cl (mI μ463 55 0 11))); have fr473 : Fr T μ0 μ472 := Fr.stI fr467 (hT _ _ _ (iT 0 rfl inA_nn)); have h474 := mb_o h471; (let μ475 : Mem := stI μ472 55 0 46 ((mI μ472 55 0 46) + (nI 1)); have fr476 : Fr T μ0 μ475 := Fr.stI fr473 (hT _ _ _ (iT 1 rfl inA_ns)); have h477 := mb_o h474; fo h477 (fun _ μ478 e483 h480 => have fr482 : Fr T μ0 μ478 := Fr.tr (Fr.mono (f_m_goesOn  e483) (sbt (sbc (sa_m 2 rfl) (sbc (sa_m 3 rfl) (sbc (sa_m 4 rfl) sbn))) hT)) fr476; hself _ _ _ h480 fr482))))))))) (fun h409 => fo h409 (fun _ μ411 e432 h413 => have fr415 : Fr T μ0 μ411 := Fr.tr (Fr.mono (f_m_comesOut  e432) (sbt (sbc (sa_m 1 rfl) (sbc (sa_m 5 rfl) (sbc (sa_m 6 rfl) (sbc (sa_m 7 rfl) sbn)))) hT)) fr407; (have h417 := fgv h413; (have h419 := fgv h417; (let μ420 : Mem := stI μ411 85 0 (cl (mI μ411 55 0 46)) (mI μ411 58 0 (cl (mI μ411 55 0 11))); have fr421 : Fr T μ0 μ420 := Fr.stI fr415 (hT _ _ _ (iT 0 rfl inA_nn)); have h422 := mb_o h419; (let μ423 : Mem := stI μ420 55 0 46 ((mI μ420 55 0 46) + (nI 1)); have fr424 : Fr T μ0 μ423 := Fr.stI fr421 (hT _ _ _ (iT 1 rfl inA_ns)); have h425 := mb_o h422; fo h425 (fun _ μ426 e431 h428 => have fr430 : Fr T μ0 μ426 := Fr.tr (Fr.mono (f_m_goesOn  e431) (sbt (sbc (sa_m 2 rfl) (sbc (sa_m 3 rfl) (sbc (sa_m 4 rfl) sbn))) hT)) fr424; hself _ _ _ h428 fr430))))))))))) (fun h297 => fo h297 (fun r303 μ300 e383 h302 => have fr304 : Fr T μ0 μ300 := Fr.tr (Fr.mono (f_m_is  e383) (sbt sbn hT)) fr295; fi h302 (fun h307 => fo h307 (fun r333 μ330 e382 h332 => have fr334 : Fr T μ0 μ330 := Fr.tr (Fr.mono (f_m_is  e382) (sbt sbn hT)) fr304; fi h332 (fun h336 => fo h336 (fun _ μ338 e359 h340 => have fr342 : Fr T μ0 μ338 := Fr.tr (Fr.mono (f_m_comesOut  e359) (sbt (sbc (sa_m 1 rfl) (sbc (sa_m 5 rfl) (sbc (sa_m 6 rfl) (sbc (sa_m 7 rfl) sbn)))) hT)) fr334; (have h344 := fgv h340; (have h346 := fgv h344; (let μ347 : Mem := stI μ338 85 0 (cl (mI μ338 55 0 46)) (mI μ338 58 0 (cl (mI μ338 55 0 11))); have fr348 : Fr T μ0 μ347 := Fr.stI fr342 (hT _ _ _ (iT 0 rfl inA_nn)); have h349 := mb_o h346; (let μ350 : Mem := stI μ347 55 0 46 ((mI μ347 55 0 46) + (nI 1)); have fr351 : Fr T μ0 μ350 := Fr.stI fr348 (hT _ _ _ (iT 1 rfl inA_ns)); have h352 := mb_o h349; fo h352 (fun _ μ353 e358 h355 => have fr357 : Fr T μ0 μ353 := Fr.tr (Fr.mono (f_m_goesOn  e358) (sbt (sbc (sa_m 2 rfl) (sbc (sa_m 3 rfl) (sbc (sa_m 4 rfl) sbn))) hT)) fr351; hself _ _ _ h355 fr357))))))) (fun h337 => fo h337 (fun _ μ360 e381 h362 => have fr364 : Fr T μ0 μ360 := Fr.tr (Fr.mono (f_m_comesOut  e381) (sbt (sbc (sa_m 1 rfl) (sbc (sa_m 5 rfl) (sbc (sa_m 6 rfl) (sbc (sa_m 7 rfl) sbn)))) hT)) fr334; (have h366 := fgv h362; (have h368 := fgv h366; (let μ369 : Mem := stI μ360 85 0 (cl (mI μ360 55 0 46)) (mI μ360 58 0 (cl (mI μ360 55 0 11))); have fr370 : Fr T μ0 μ369 := Fr.stI fr364 (hT _ _ _ (iT 0 rfl inA_nn)); have h371 := mb_o h368; (let μ372 : Mem := stI μ369 55 0 46 ((mI μ369 55 0 46) + (nI 1)); have fr373 : Fr T μ0 μ372 := Fr.stI fr370 (hT _ _ _ (iT 1 rfl inA_ns)); have h374 := mb_o h371; fo h374 (fun _ μ375 e380 h377 => have fr379 : Fr T μ0 μ375 := Fr.tr (Fr.mono (f_m_goesOn  e380) (sbt (sbc (sa_m 2 rfl) (sbc (sa_m 3 rfl) (sbc (sa_m 4 rfl) sbn))) hT)) fr373; hself _ _ _ h377 fr379))))))))) (fun h306 => fo h306 (fun _ μ308 e329 h310 => have fr312 : Fr T μ0 μ308 := Fr.tr (Fr.mono (f_m_comesOut  e329) (sbt (sbc (sa_m 1 rfl) (sbc (sa_m 5 rfl) (sbc (sa_m 6 rfl) (sbc (sa_m 7 rfl) sbn)))) hT)) fr304; (have h314 := fgv h310; (have h316 := fgv h314; (let μ317 : Mem := stI μ308 85 0 (cl (mI μ308 55 0 46)) (mI μ308 58 0 (cl (mI μ308 55 0 11))); have fr318 : Fr T μ0 μ317 := Fr.stI fr312 (hT _ _ _ (iT 0 rfl inA_nn)); have h319 := mb_o h316; (let μ320 : Mem := stI μ317 55 0 46 ((mI μ317 55 0 46) + (nI 1)); have fr321 : Fr T μ0 μ320 := Fr.stI fr318 (hT _ _ _ (iT 1 rfl inA_ns)); have h322 := mb_o h319; fo h322 (fun _ μ323 e328 h325 => have fr327 : Fr T μ0 μ323 := Fr.tr (Fr.mono (f_m_goesOn  e328) (sbt (sbc (sa_m 2 rfl) (sbc (sa_m 3 rfl) (sbc (sa_m 4 rfl) sbn))) hT)) fr321; hself _ _ _ h325 fr327))))))))))) (fun h204 => fo h204 (fun r210 μ207 e290 h209 => have fr211 : Fr T μ0 μ207 := Fr.tr (Fr.mono (f_m_is  e290) (sbt sbn hT)) fr202; fi h209 (fun h214 => fo h214 (fun r240 μ237 e289 h239 => have fr241 : Fr T μ0 μ237 := Fr.tr (Fr.mono (f_m_is  e289) (sbt sbn hT)) fr211; fi h239 (fun h243 => fo h243 (fun _ μ245 e266 h247 => have fr249 : Fr T μ0 μ245 := Fr.tr (Fr.mono (f_m_comesOut  e266) (sbt (sbc (sa_m 1 rfl) (sbc (sa_m 5 rfl) (sbc (sa_m 6 rfl) (sbc (sa_m 7 rfl) sbn)))) hT)) fr241; (have h251 := fgv h247; (have h253 := fgv h251; (let μ254 : Mem := stI μ245 85 0 (cl (mI μ245 55 0 46)) (mI μ245 58 0 (cl (mI μ245 55 0 11))); have fr255 : Fr T μ0 μ254 := Fr.stI fr249 (hT _ _ _ (iT 0 rfl inA_nn)); have h256 := mb_o h253; (let μ257 : Mem := stI μ254 55 0 46 ((mI μ254 55 0 46) + (nI 1)); have fr258 : Fr T μ0 μ257 := Fr.stI fr255 (hT _ _ _ (iT 1 rfl inA_ns)); have h259 := mb_o h256; fo h259 (fun _ μ260 e265 h262 => have fr264 : Fr T μ0 μ260 := Fr.tr (Fr.mono (f_m_goesOn  e265) (sbt (sbc (sa_m 2 rfl) (sbc (sa_m 3 rfl) (sbc (sa_m 4 rfl) sbn))) hT)) fr258; hself _ _ _ h262 fr264))))))) (fun h244 => fo h244 (fun _ μ267 e288 h269 => have fr271 : Fr T μ0 μ267 := Fr.tr (Fr.mono (f_m_comesOut  e288) (sbt (sbc (sa_m 1 rfl) (sbc (sa_m 5 rfl) (sbc (sa_m 6 rfl) (sbc (sa_m 7 rfl) sbn)))) hT)) fr241; (have h273 := fgv h269; (have h275 := fgv h273; (let μ276 : Mem := stI μ267 85 0 (cl (mI μ267 55 0 46)) (mI μ267 58 0 (cl (mI μ267 55 0 11))); have fr277 : Fr T μ0 μ276 := Fr.stI fr271 (hT _ _ _ (iT 0 rfl inA_nn)); have h278 := mb_o h275; (let μ279 : Mem := stI μ276 55 0 46 ((mI μ276 55 0 46) + (nI 1)); have fr280 : Fr T μ0 μ279 := Fr.stI fr277 (hT _ _ _ (iT 1 rfl inA_ns)); have h281 := mb_o h278; fo h281 (fun _ μ282 e287 h284 => have fr286 : Fr T μ0 μ282 := Fr.tr (Fr.mono (f_m_goesOn  e287) (sbt (sbc (sa_m 2 rfl) (sbc (sa_m 3 rfl) (sbc (sa_m 4 rfl) sbn))) hT)) fr280; hself _ _ _ h284 fr286))))))))) (fun h213 => fo h213 (fun _ μ215 e236 h217 => have fr219 : Fr T μ0 μ215 := Fr.tr (Fr.mono (f_m_comesOut  e236) (sbt (sbc (sa_m 1 rfl) (sbc (sa_m 5 rfl) (sbc (sa_m 6 rfl) (sbc (sa_m 7 rfl) sbn)))) hT)) fr211; (have h221 := fgv h217; (have h223 := fgv h221; (let μ224 : Mem := stI μ215 85 0 (cl (mI μ215 55 0 46)) (mI μ215 58 0 (cl (mI μ215 55 0 11))); have fr225 : Fr T μ0 μ224 := Fr.stI fr219 (hT _ _ _ (iT 0 rfl inA_nn)); have h226 := mb_o h223; (let μ227 : Mem := stI μ224 55 0 46 ((mI μ224 55 0 46) + (nI 1)); have fr228 : Fr T μ0 μ227 := Fr.stI fr225 (hT _ _ _ (iT 1 rfl inA_ns)); have h229 := mb_o h226; fo h229 (fun _ μ230 e235 h232 => have fr234 : Fr T μ0 μ230 := Fr.tr (Fr.mono (f_m_goesOn  e235) (sbt (sbc (sa_m 2 rfl) (sbc (sa_m 3 rfl) (sbc (sa_m 4 rfl) sbn))) hT)) fr228; hself _ _ _ h232 fr234))))))))))) (fun h111 => fo h111 (fun r117 μ114 e197 h116 => have fr118 : Fr T μ0 μ114 := Fr.tr (Fr.mono (f_m_is  e197) (sbt sbn hT)) fr109; fi h116 (fun h121 => fo h121 (fun r147 μ144 e196 h146 => have fr148 : Fr T μ0 μ144 := Fr.tr (Fr.mono (f_m_is  e196) (sbt sbn hT)) fr118; fi h146 (fun h150 => fo h150 (fun _ μ152 e173 h154 => have fr156 : Fr T μ0 μ152 := Fr.tr (Fr.mono (f_m_comesOut  e173) (sbt (sbc (sa_m 1 rfl) (sbc (sa_m 5 rfl) (sbc (sa_m 6 rfl) (sbc (sa_m 7 rfl) sbn)))) hT)) fr148; (have h158 := fgv h154; (have h160 := fgv h158; (let μ161 : Mem := stI μ152 85 0 (cl (mI μ152 55 0 46)) (mI μ152 58 0 (cl (mI μ152 55 0 11))); have fr162 : Fr T μ0 μ161 := Fr.stI fr156 (hT _ _ _ (iT 0 rfl inA_nn)); have h163 := mb_o h160; (let μ164 : Mem := stI μ161 55 0 46 ((mI μ161 55 0 46) + (nI 1)); have fr165 : Fr T μ0 μ164 := Fr.stI fr162 (hT _ _ _ (iT 1 rfl inA_ns)); have h166 := mb_o h163; fo h166 (fun _ μ167 e172 h169 => have fr171 : Fr T μ0 μ167 := Fr.tr (Fr.mono (f_m_goesOn  e172) (sbt (sbc (sa_m 2 rfl) (sbc (sa_m 3 rfl) (sbc (sa_m 4 rfl) sbn))) hT)) fr165; hself _ _ _ h169 fr171))))))) (fun h151 => fo h151 (fun _ μ174 e195 h176 => have fr178 : Fr T μ0 μ174 := Fr.tr (Fr.mono (f_m_comesOut  e195) (sbt (sbc (sa_m 1 rfl) (sbc (sa_m 5 rfl) (sbc (sa_m 6 rfl) (sbc (sa_m 7 rfl) sbn)))) hT)) fr148; (have h180 := fgv h176; (have h182 := fgv h180; (let μ183 : Mem := stI μ174 85 0 (cl (mI μ174 55 0 46)) (mI μ174 58 0 (cl (mI μ174 55 0 11))); have fr184 : Fr T μ0 μ183 := Fr.stI fr178 (hT _ _ _ (iT 0 rfl inA_nn)); have h185 := mb_o h182; (let μ186 : Mem := stI μ183 55 0 46 ((mI μ183 55 0 46) + (nI 1)); have fr187 : Fr T μ0 μ186 := Fr.stI fr184 (hT _ _ _ (iT 1 rfl inA_ns)); have h188 := mb_o h185; fo h188 (fun _ μ189 e194 h191 => have fr193 : Fr T μ0 μ189 := Fr.tr (Fr.mono (f_m_goesOn  e194) (sbt (sbc (sa_m 2 rfl) (sbc (sa_m 3 rfl) (sbc (sa_m 4 rfl) sbn))) hT)) fr187; hself _ _ _ h191 fr193))))))))) (fun h120 => fo h120 (fun _ μ122 e143 h124 => have fr126 : Fr T μ0 μ122 := Fr.tr (Fr.mono (f_m_comesOut  e143) (sbt (sbc (sa_m 1 rfl) (sbc (sa_m 5 rfl) (sbc (sa_m 6 rfl) (sbc (sa_m 7 rfl) sbn)))) hT)) fr118; (have h128 := fgv h124; (have h130 := fgv h128; (let μ131 : Mem := stI μ122 85 0 (cl (mI μ122 55 0 46)) (mI μ122 58 0 (cl (mI μ122 55 0 11))); have fr132 : Fr T μ0 μ131 := Fr.stI fr126 (hT _ _ _ (iT 0 rfl inA_nn)); have h133 := mb_o h130; (let μ134 : Mem := stI μ131 55 0 46 ((mI μ131 55 0 46) + (nI 1)); have fr135 : Fr T μ0 μ134 := Fr.stI fr132 (hT _ _ _ (iT 1 rfl inA_ns)); have h136 := mb_o h133; fo h136 (fun _ μ137 e142 h139 => have fr141 : Fr T μ0 μ137 := Fr.tr (Fr.mono (f_m_goesOn  e142) (sbt (sbc (sa_m 2 rfl) (sbc (sa_m 3 rfl) (sbc (sa_m 4 rfl) sbn))) hT)) fr135; hself _ _ _ h139 fr141)))))))))))) (fun h70 => fr_ret h70 fr67)))) (fun h5 => fr_ret h5 fr))
  exact key 60000 _ _ _ h fr
def T_m_expression : List At := [(55, none, some 46), (83, none, none), (84, none, none), (55, none, some 42), (85, none, none), (55, none, some 11), (55, none, some 13), (55, none, some 14), (55, none, some 12)]
theorem f_m_expression {μ : Mem}   {z : Unit × Mem} (h : m_expression  μ = some z) : Fr (T_m_expression) μ z.2 := by
  unfold m_expression at h
  exact f_m_expression_L12 h (Fr.stI (Fr.rf (T_m_expression) μ) (iT 0 rfl inA_ns)) (sbc (sa_m 4 rfl) (sbc (sa_m 0 rfl) (sbc (sa_m 5 rfl) (sbc (sa_m 6 rfl) (sbc (sa_m 7 rfl) (sbc (sa_m 1 rfl) (sbc (sa_m 2 rfl) (sbc (sa_m 3 rfl) (sbc (sa_m 8 rfl) sbn)))))))))  (fun  μ492 _ h494 fr495 => fo h494 (fun _ μ496 e501 h498 => have fr500 : Fr (T_m_expression) μ μ496 := Fr.tr (Fr.mono (f_m_comesOut  e501) (sbc (sa_m 0 rfl) (sbc (sa_m 1 rfl) (sbc (sa_m 2 rfl) (sbc (sa_m 3 rfl) sbn))))) fr495; fr_ret h498 fr500))
def T_m_term : List At := [(81, none, none), (82, none, none), (55, none, some 36), (55, none, some 46), (83, none, none), (84, none, none), (55, none, some 42), (85, none, none), (55, none, some 11), (55, none, some 13), (55, none, some 14), (55, none, some 12)]
theorem f_m_term {μ : Mem}   {z : Unit × Mem} (h : m_term  μ = some z) : Fr (T_m_term) μ z.2 := by
  unfold m_term at h
  exact (have h2 := fgv h; (let μ3 : Mem := stI μ 81 0 (cl (mI μ 55 0 36)) (mI μ 55 0 42); have fr4 : Fr (T_m_term) μ μ3 := Fr.stI (Fr.rf (T_m_term) μ) (iT 0 rfl inA_nn); have h5 := mb_o h2; fi h5 (fun h8 => fo h8 (fun _ μ17 e30 h19 => have fr21 : Fr (T_m_term) μ μ17 := Fr.tr (Fr.mono (f_m_expression  e30) (sbc (sa_m 3 rfl) (sbc (sa_m 4 rfl) (sbc (sa_m 5 rfl) (sbc (sa_m 6 rfl) (sbc (sa_m 7 rfl) (sbc (sa_m 8 rfl) (sbc (sa_m 9 rfl) (sbc (sa_m 10 rfl) (sbc (sa_m 11 rfl) sbn)))))))))) fr4; (have h23 := fgv h19; (let μ24 : Mem := stI μ17 82 0 (cl (mI μ17 55 0 36)) (mI μ17 55 0 42); have fr25 : Fr (T_m_term) μ μ24 := Fr.stI fr21 (iT 1 rfl inA_nn); have h26 := mb_o h23; (let μ27 : Mem := stI μ24 55 0 36 ((mI μ24 55 0 36) + (nI 1)); have fr28 : Fr (T_m_term) μ μ27 := Fr.stI fr25 (iT 2 rfl inA_ns); have h29 := mb_o h26; fr_ret h29 fr28))))) (fun h7 => (have h10 := fgv h7; (let μ11 : Mem := stI μ3 82 0 (cl (mI μ3 55 0 36)) (mI μ3 55 0 42); have fr12 : Fr (T_m_term) μ μ11 := Fr.stI fr4 (iT 1 rfl inA_nn); have h13 := mb_o h10; (let μ14 : Mem := stI μ11 55 0 36 ((mI μ11 55 0 36) + (nI 1)); have fr15 : Fr (T_m_term) μ μ14 := Fr.stI fr12 (iT 2 rfl inA_ns); have h16 := mb_o h13; fr_ret h16 fr15))))))
def T_m_tellLaw_L12 : List At := [(78, none, none), (79, none, none), (80, none, none), (55, none, some 13), (55, none, some 14), (55, none, some 11), (81, none, none), (82, none, none), (55, none, some 36), (55, none, some 46), (83, none, none), (84, none, none), (55, none, some 42), (85, none, none), (55, none, some 12)]
theorem f_m_tellLaw_L12 {μ0 : Mem} {T : List At} {x1 : Int32} {x2 : Int32}  {k129 : Mem → Option (Unit × Mem)} {x3 : Int32} {μ : Mem} {z : Unit × Mem} (h : m_tellLaw_L12 x1 x2 k129 x3 μ = some z) (fr : Fr T μ0 μ) (hT : Sb (T_m_tellLaw_L12) T)  (hk129 : ∀  (μ : Mem) z, k129  μ = some z → Fr T μ0 μ → Fr T μ0 z.2) : Fr T μ0 z.2 := by
  have key : ∀ (n : Nat), (∀ (x3 : Int32) (μ : Mem) z, fixN (fun _ _ => none) (m_tellLaw_B12 x1 x2 k129) n x3 μ = some z → Fr T μ0 μ → Fr T μ0 z.2) := by
    intro n
    refine fixN_ind (fun (f : Int32 → Mem → Option (Unit × Mem)) => ∀ (x3 : Int32) (μ : Mem) z, f x3 μ = some z → Fr T μ0 μ → Fr T μ0 z.2) ?_ ?_ n
    · intro x3 μ z h; cases h
    · intro self hself x3 μ z h fr
      unfold m_tellLaw_B12 at h
      exact fi h (fun h8 => fo h8 (fun r12 μ9 e188 h11 => have fr13 : Fr T μ0 μ9 := Fr.tr (Fr.mono (f_m_is  e188) (sbt sbn hT)) fr; fi h11 (fun h15 => hk129 _ _ h15 fr13) (fun h16 => fi h16 (fun h19 => fo h19 (fun _ μ101 e187 h103 => have fr105 : Fr T μ0 μ101 := Fr.tr (Fr.mono (f_m_fail  e187) (sbt (sbc (sa_m 3 rfl) (sbc (sa_m 4 rfl) sbn)) hT)) fr13; fi h103 (fun h107 => fo h107 (fun _ μ109 e186 h111 => have fr113 : Fr T μ0 μ109 := Fr.tr (Fr.mono (f_m_goesOn  e186) (sbt (sbc (sa_m 5 rfl) (sbc (sa_m 3 rfl) (sbc (sa_m 4 rfl) sbn))) hT)) fr105; (have h115 := fgv h111; (let μ116 : Mem := stI μ109 78 0 (cl (mI μ109 55 0 36)) ((nI 1) &&& 1); have fr117 : Fr T μ0 μ116 := Fr.stI fr113 (hT _ _ _ (iT 0 rfl inA_nn)); have h118 := mb_o h115; (have h120 := fgv h118; (let μ121 : Mem := stI μ116 79 0 (cl (mI μ116 55 0 36)) (mI μ116 55 0 42); have fr122 : Fr T μ0 μ121 := Fr.stI fr117 (hT _ _ _ (iT 1 rfl inA_nn)); have h123 := mb_o h120; fo h123 (fun _ μ124 e185 h126 => have fr128 : Fr T μ0 μ124 := Fr.tr (Fr.mono (f_m_expression  e185) (sbt (sbc (sa_m 9 rfl) (sbc (sa_m 10 rfl) (sbc (sa_m 11 rfl) (sbc (sa_m 12 rfl) (sbc (sa_m 13 rfl) (sbc (sa_m 5 rfl) (sbc (sa_m 3 rfl) (sbc (sa_m 4 rfl) (sbc (sa_m 14 rfl) sbn))))))))) hT)) fr122; fo h126 (fun _ μ129 e184 h131 => have fr133 : Fr T μ0 μ129 := Fr.tr (Fr.mono (f_m_must  e184) (sbt (sbc (sa_m 3 rfl) (sbc (sa_m 4 rfl) (sbc (sa_m 5 rfl) sbn))) hT)) fr128; (have h135 := fgv h131; (let μ136 : Mem := stI μ129 80 0 (cl (mI μ129 55 0 36)) (mI μ129 55 0 42); have fr137 : Fr T μ0 μ136 := Fr.stI fr133 (hT _ _ _ (iT 2 rfl inA_nn)); have h138 := mb_o h135; fi h138 (fun h141 => fo h141 (fun _ μ160 e183 h162 => have fr164 : Fr T μ0 μ160 := Fr.tr (Fr.mono (f_m_expression  e183) (sbt (sbc (sa_m 9 rfl) (sbc (sa_m 10 rfl) (sbc (sa_m 11 rfl) (sbc (sa_m 12 rfl) (sbc (sa_m 13 rfl) (sbc (sa_m 5 rfl) (sbc (sa_m 3 rfl) (sbc (sa_m 4 rfl) (sbc (sa_m 14 rfl) sbn))))))))) hT)) fr137; fo h162 (fun _ μ165 e182 h167 => have fr169 : Fr T μ0 μ165 := Fr.tr (Fr.mono (f_m_must  e182) (sbt (sbc (sa_m 3 rfl) (sbc (sa_m 4 rfl) (sbc (sa_m 5 rfl) sbn))) hT)) fr164; fo h167 (fun _ μ170 e181 h172 => have fr174 : Fr T μ0 μ170 := Fr.tr (Fr.mono (f_m_term  e181) (sbt (sbc (sa_m 6 rfl) (sbc (sa_m 7 rfl) (sbc (sa_m 8 rfl) (sbc (sa_m 9 rfl) (sbc (sa_m 10 rfl) (sbc (sa_m 11 rfl) (sbc (sa_m 12 rfl) (sbc (sa_m 13 rfl) (sbc (sa_m 5 rfl) (sbc (sa_m 3 rfl) (sbc (sa_m 4 rfl) (sbc (sa_m 14 rfl) sbn)))))))))))) hT)) fr169; fo h172 (fun _ μ175 e180 h177 => have fr179 : Fr T μ0 μ175 := Fr.tr (Fr.mono (f_m_must  e180) (sbt (sbc (sa_m 3 rfl) (sbc (sa_m 4 rfl) (sbc (sa_m 5 rfl) sbn))) hT)) fr174; hself _ _ _ h177 fr179))))) (fun h140 => fo h140 (fun _ μ142 e159 h144 => have fr146 : Fr T μ0 μ142 := Fr.tr (Fr.mono (f_m_must  e159) (sbt (sbc (sa_m 3 rfl) (sbc (sa_m 4 rfl) (sbc (sa_m 5 rfl) sbn))) hT)) fr137; fo h144 (fun _ μ147 e158 h149 => have fr151 : Fr T μ0 μ147 := Fr.tr (Fr.mono (f_m_term  e158) (sbt (sbc (sa_m 6 rfl) (sbc (sa_m 7 rfl) (sbc (sa_m 8 rfl) (sbc (sa_m 9 rfl) (sbc (sa_m 10 rfl) (sbc (sa_m 11 rfl) (sbc (sa_m 12 rfl) (sbc (sa_m 13 rfl) (sbc (sa_m 5 rfl) (sbc (sa_m 3 rfl) (sbc (sa_m 4 rfl) (sbc (sa_m 14 rfl) sbn)))))))))))) hT)) fr146; fo h149 (fun _ μ152 e157 h154 => have fr156 : Fr T μ0 μ152 := Fr.tr (Fr.mono (f_m_must  e157) (sbt (sbc (sa_m 3 rfl) (sbc (sa_m 4 rfl) (sbc (sa_m 5 rfl) sbn))) hT)) fr151; hself _ _ _ h154 fr156)))))))))))))) (fun h108 => fr_ret h108 fr105))) (fun h18 => fi h18 (fun h21 => fo h21 (fun _ μ23 e100 h25 => have fr27 : Fr T μ0 μ23 := Fr.tr (Fr.mono (f_m_goesOn  e100) (sbt (sbc (sa_m 5 rfl) (sbc (sa_m 3 rfl) (sbc (sa_m 4 rfl) sbn))) hT)) fr13; (have h29 := fgv h25; (let μ30 : Mem := stI μ23 78 0 (cl (mI μ23 55 0 36)) ((nI 1) &&& 1); have fr31 : Fr T μ0 μ30 := Fr.stI fr27 (hT _ _ _ (iT 0 rfl inA_nn)); have h32 := mb_o h29; (have h34 := fgv h32; (let μ35 : Mem := stI μ30 79 0 (cl (mI μ30 55 0 36)) (mI μ30 55 0 42); have fr36 : Fr T μ0 μ35 := Fr.stI fr31 (hT _ _ _ (iT 1 rfl inA_nn)); have h37 := mb_o h34; fo h37 (fun _ μ38 e99 h40 => have fr42 : Fr T μ0 μ38 := Fr.tr (Fr.mono (f_m_expression  e99) (sbt (sbc (sa_m 9 rfl) (sbc (sa_m 10 rfl) (sbc (sa_m 11 rfl) (sbc (sa_m 12 rfl) (sbc (sa_m 13 rfl) (sbc (sa_m 5 rfl) (sbc (sa_m 3 rfl) (sbc (sa_m 4 rfl) (sbc (sa_m 14 rfl) sbn))))))))) hT)) fr36; fo h40 (fun _ μ43 e98 h45 => have fr47 : Fr T μ0 μ43 := Fr.tr (Fr.mono (f_m_must  e98) (sbt (sbc (sa_m 3 rfl) (sbc (sa_m 4 rfl) (sbc (sa_m 5 rfl) sbn))) hT)) fr42; (have h49 := fgv h45; (let μ50 : Mem := stI μ43 80 0 (cl (mI μ43 55 0 36)) (mI μ43 55 0 42); have fr51 : Fr T μ0 μ50 := Fr.stI fr47 (hT _ _ _ (iT 2 rfl inA_nn)); have h52 := mb_o h49; fi h52 (fun h55 => fo h55 (fun _ μ74 e97 h76 => have fr78 : Fr T μ0 μ74 := Fr.tr (Fr.mono (f_m_expression  e97) (sbt (sbc (sa_m 9 rfl) (sbc (sa_m 10 rfl) (sbc (sa_m 11 rfl) (sbc (sa_m 12 rfl) (sbc (sa_m 13 rfl) (sbc (sa_m 5 rfl) (sbc (sa_m 3 rfl) (sbc (sa_m 4 rfl) (sbc (sa_m 14 rfl) sbn))))))))) hT)) fr51; fo h76 (fun _ μ79 e96 h81 => have fr83 : Fr T μ0 μ79 := Fr.tr (Fr.mono (f_m_must  e96) (sbt (sbc (sa_m 3 rfl) (sbc (sa_m 4 rfl) (sbc (sa_m 5 rfl) sbn))) hT)) fr78; fo h81 (fun _ μ84 e95 h86 => have fr88 : Fr T μ0 μ84 := Fr.tr (Fr.mono (f_m_term  e95) (sbt (sbc (sa_m 6 rfl) (sbc (sa_m 7 rfl) (sbc (sa_m 8 rfl) (sbc (sa_m 9 rfl) (sbc (sa_m 10 rfl) (sbc (sa_m 11 rfl) (sbc (sa_m 12 rfl) (sbc (sa_m 13 rfl) (sbc (sa_m 5 rfl) (sbc (sa_m 3 rfl) (sbc (sa_m 4 rfl) (sbc (sa_m 14 rfl) sbn)))))))))))) hT)) fr83; fo h86 (fun _ μ89 e94 h91 => have fr93 : Fr T μ0 μ89 := Fr.tr (Fr.mono (f_m_must  e94) (sbt (sbc (sa_m 3 rfl) (sbc (sa_m 4 rfl) (sbc (sa_m 5 rfl) sbn))) hT)) fr88; hself _ _ _ h91 fr93))))) (fun h54 => fo h54 (fun _ μ56 e73 h58 => have fr60 : Fr T μ0 μ56 := Fr.tr (Fr.mono (f_m_must  e73) (sbt (sbc (sa_m 3 rfl) (sbc (sa_m 4 rfl) (sbc (sa_m 5 rfl) sbn))) hT)) fr51; fo h58 (fun _ μ61 e72 h63 => have fr65 : Fr T μ0 μ61 := Fr.tr (Fr.mono (f_m_term  e72) (sbt (sbc (sa_m 6 rfl) (sbc (sa_m 7 rfl) (sbc (sa_m 8 rfl) (sbc (sa_m 9 rfl) (sbc (sa_m 10 rfl) (sbc (sa_m 11 rfl) (sbc (sa_m 12 rfl) (sbc (sa_m 13 rfl) (sbc (sa_m 5 rfl) (sbc (sa_m 3 rfl) (sbc (sa_m 4 rfl) (sbc (sa_m 14 rfl) sbn)))))))))))) hT)) fr60; fo h63 (fun _ μ66 e71 h68 => have fr70 : Fr T μ0 μ66 := Fr.tr (Fr.mono (f_m_must  e71) (sbt (sbc (sa_m 3 rfl) (sbc (sa_m 4 rfl) (sbc (sa_m 5 rfl) sbn))) hT)) fr65; hself _ _ _ h68 fr70)))))))))))))) (fun h22 => fr_ret h22 fr13))))) (fun h7 => hk129 _ _ h7 fr)
  exact key 60000 _ _ _ h fr
def T_m_tellLaw : List At := [(78, none, none), (76, none, none), (77, none, none), (55, none, some 13), (55, none, some 14), (55, none, some 11), (81, none, none), (82, none, none), (55, none, some 36), (55, none, some 46), (83, none, none), (84, none, none), (55, none, some 42), (85, none, none), (55, none, some 12), (79, none, none), (80, none, none)]
theorem f_m_tellLaw {μ : Mem} {x1 : Int32}  {z : Unit × Mem} (h : m_tellLaw x1 μ = some z) : Fr (T_m_tellLaw) μ z.2 := by
  unfold m_tellLaw at h
  exact fo h (fun _ μ1 e223 h3 => have fr5 : Fr (T_m_tellLaw) μ μ1 := Fr.tr (Fr.mono (f_m_must  e223) (sbc (sa_m 3 rfl) (sbc (sa_m 4 rfl) (sbc (sa_m 5 rfl) sbn)))) (Fr.rf (T_m_tellLaw) μ); f_m_tellLaw_L12 h3 fr5 (sbc (sa_m 0 rfl) (sbc (sa_m 15 rfl) (sbc (sa_m 16 rfl) (sbc (sa_m 3 rfl) (sbc (sa_m 4 rfl) (sbc (sa_m 5 rfl) (sbc (sa_m 6 rfl) (sbc (sa_m 7 rfl) (sbc (sa_m 8 rfl) (sbc (sa_m 9 rfl) (sbc (sa_m 10 rfl) (sbc (sa_m 11 rfl) (sbc (sa_m 12 rfl) (sbc (sa_m 13 rfl) (sbc (sa_m 14 rfl) sbn)))))))))))))))  (fun  μ189 _ h191 fr192 => (have h194 := fgv h191; (let μ195 : Mem := stI μ189 78 0 (cl (mI μ189 55 0 36)) ((nI 0) &&& 1); have fr196 : Fr (T_m_tellLaw) μ μ195 := Fr.stI fr192 (iT 0 rfl inA_nn); have h197 := mb_o h194; fo h197 (fun _ μ198 e222 h200 => have fr202 : Fr (T_m_tellLaw) μ μ198 := Fr.tr (Fr.mono (f_m_term  e222) (sbc (sa_m 6 rfl) (sbc (sa_m 7 rfl) (sbc (sa_m 8 rfl) (sbc (sa_m 9 rfl) (sbc (sa_m 10 rfl) (sbc (sa_m 11 rfl) (sbc (sa_m 12 rfl) (sbc (sa_m 13 rfl) (sbc (sa_m 5 rfl) (sbc (sa_m 3 rfl) (sbc (sa_m 4 rfl) (sbc (sa_m 14 rfl) sbn))))))))))))) fr196; fo h200 (fun _ μ203 e221 h205 => have fr207 : Fr (T_m_tellLaw) μ μ203 := Fr.tr (Fr.mono (f_m_must  e221) (sbc (sa_m 3 rfl) (sbc (sa_m 4 rfl) (sbc (sa_m 5 rfl) sbn)))) fr202; fi h205 (fun h209 => (have h212 := fgv h209; (let μ213 : Mem := stI μ203 76 0 (cl (((nI 4) * (mI μ203 55 0 19)) + x1)) (mI μ1 55 0 36); have fr214 : Fr (T_m_tellLaw) μ μ213 := Fr.stI fr207 (iT 1 rfl inA_nn); have h215 := mb_o h212; (have h217 := fgv h215; (let μ218 : Mem := stI μ213 77 0 (cl (((nI 4) * (mI μ213 55 0 19)) + x1)) (mI μ213 55 0 36); have fr219 : Fr (T_m_tellLaw) μ μ218 := Fr.stI fr214 (iT 2 rfl inA_nn); have h220 := mb_o h217; fr_ret h220 fr219))))) (fun h210 => fr_ret h210 fr207)))))))
def T_m_tellOne : List At := [(65, none, none), (63, none, none), (64, none, none), (55, none, some 20), (55, none, some 13), (55, none, some 14), (55, none, some 11), (55, none, some 15), (55, none, some 16), (67, none, none), (68, none, none), (69, none, none), (66, none, none), (71, none, none), (72, none, none), (73, none, none), (70, none, none), (74, none, none), (75, none, none), (78, none, none), (76, none, none), (77, none, none), (81, none, none), (82, none, none), (55, none, some 36), (55, none, some 46), (83, none, none), (84, none, none), (55, none, some 42), (85, none, none), (55, none, some 12), (79, none, none), (80, none, none)]
theorem f_m_tellOne {μ : Mem}   {z : Unit × Mem} (h : m_tellOne  μ = some z) : Fr (T_m_tellOne) μ z.2 := by
  unfold m_tellOne at h
  exact (have h2 := fgv h; (fi h2 (fun h4 => (have h6 := fgv h4; fo h6 (fun _ μ7 e37 h9 => have fr11 : Fr (T_m_tellOne) μ μ7 := Fr.tr (Fr.mono (f_m_roomFor  e37) (sbc (sa_m 6 rfl) (sbc (sa_m 4 rfl) (sbc (sa_m 5 rfl) sbn)))) (Fr.rf (T_m_tellOne) μ); fi h9 (fun h13 => fo h13 (fun r18 μ15 e36 h17 => have fr19 : Fr (T_m_tellOne) μ μ15 := Fr.tr (Fr.mono (f_m_named  e36) (sbc (sa_m 7 rfl) (sbc (sa_m 8 rfl) (sbc (sa_m 4 rfl) (sbc (sa_m 5 rfl) (sbc (sa_m 6 rfl) sbn)))))) fr11; (have h21 := fgv h17; fo h21 (fun _ μ22 e35 h24 => have fr26 : Fr (T_m_tellOne) μ μ22 := Fr.tr (Fr.mono (f_m_endsName  e35) (sbc (sa_m 1 rfl) (sbc (sa_m 2 rfl) (sbc (sa_m 3 rfl) (sbc (sa_m 4 rfl) (sbc (sa_m 5 rfl) (sbc (sa_m 6 rfl) sbn))))))) fr19; fi h24 (fun h29 => (have h31 := fgv h29; (let μ32 : Mem := stI μ22 65 0 (cl (mI μ22 55 0 19)) ((mI μ22 65 0 (cl (mI μ22 55 0 19))) + (nI 1)); have fr33 : Fr (T_m_tellOne) μ μ32 := Fr.stI fr26 (iT 0 rfl inA_nn); have h34 := mb_o h31; fr_ret h34 fr33))) (fun h28 => fr_ret h28 fr26))))) (fun h14 => fr_ret h14 fr11)))) (fun h_ => (fi h_ (fun h38 => (have h40 := fgv h38; fo h40 (fun _ μ41 e55 h43 => have fr45 : Fr (T_m_tellOne) μ μ41 := Fr.tr (Fr.mono (f_m_roomFor  e55) (sbc (sa_m 6 rfl) (sbc (sa_m 4 rfl) (sbc (sa_m 5 rfl) sbn)))) (Fr.rf (T_m_tellOne) μ); fi h43 (fun h48 => fo h48 (fun _ μ49 e54 h51 => have fr53 : Fr (T_m_tellOne) μ μ49 := Fr.tr (Fr.mono (f_m_tellField  e54) (sbc (sa_m 9 rfl) (sbc (sa_m 10 rfl) (sbc (sa_m 11 rfl) (sbc (sa_m 12 rfl) (sbc (sa_m 1 rfl) (sbc (sa_m 2 rfl) (sbc (sa_m 3 rfl) (sbc (sa_m 4 rfl) (sbc (sa_m 5 rfl) (sbc (sa_m 6 rfl) (sbc (sa_m 7 rfl) (sbc (sa_m 8 rfl) sbn))))))))))))) fr45; fr_ret h51 fr53)) (fun h47 => fr_ret h47 fr45)))) (fun h_ => (fi h_ (fun h56 => (have h58 := fgv h56; fo h58 (fun _ μ59 e73 h61 => have fr63 : Fr (T_m_tellOne) μ μ59 := Fr.tr (Fr.mono (f_m_roomFor  e73) (sbc (sa_m 6 rfl) (sbc (sa_m 4 rfl) (sbc (sa_m 5 rfl) sbn)))) (Fr.rf (T_m_tellOne) μ); fi h61 (fun h66 => fo h66 (fun _ μ67 e72 h69 => have fr71 : Fr (T_m_tellOne) μ μ67 := Fr.tr (Fr.mono (f_m_tellNotch  e72) (sbc (sa_m 13 rfl) (sbc (sa_m 14 rfl) (sbc (sa_m 15 rfl) (sbc (sa_m 16 rfl) (sbc (sa_m 4 rfl) (sbc (sa_m 5 rfl) (sbc (sa_m 6 rfl) (sbc (sa_m 7 rfl) (sbc (sa_m 8 rfl) sbn)))))))))) fr63; fr_ret h69 fr71)) (fun h65 => fr_ret h65 fr63)))) (fun h_ => (fi h_ (fun h74 => fo h74 (fun _ μ75 e86 h77 => have fr79 : Fr (T_m_tellOne) μ μ75 := Fr.tr (Fr.mono (f_m_goesOn  e86) (sbc (sa_m 6 rfl) (sbc (sa_m 4 rfl) (sbc (sa_m 5 rfl) sbn)))) (Fr.rf (T_m_tellOne) μ); fo h77 (fun _ μ80 e85 h82 => have fr84 : Fr (T_m_tellOne) μ μ80 := Fr.tr (Fr.mono (f_m_tellDrain  e85) (sbc (sa_m 10 rfl) (sbc (sa_m 11 rfl) (sbc (sa_m 4 rfl) (sbc (sa_m 5 rfl) (sbc (sa_m 6 rfl) (sbc (sa_m 7 rfl) (sbc (sa_m 8 rfl) sbn)))))))) fr79; fr_ret h82 fr84))) (fun h_ => (fi h_ (fun h87 => fo h87 (fun _ μ88 e107 h90 => have fr92 : Fr (T_m_tellOne) μ μ88 := Fr.tr (Fr.mono (f_m_goesOn  e107) (sbc (sa_m 6 rfl) (sbc (sa_m 4 rfl) (sbc (sa_m 5 rfl) sbn)))) (Fr.rf (T_m_tellOne) μ); fo h90 (fun r96 μ93 e106 h95 => have fr97 : Fr (T_m_tellOne) μ μ93 := Fr.tr (Fr.mono (f_m_bounded  e106) (sbc (sa_m 4 rfl) (sbc (sa_m 5 rfl) (sbc (sa_m 6 rfl) (sbc (sa_m 7 rfl) (sbc (sa_m 8 rfl) sbn)))))) fr92; (have h99 := fgv h95; fo h99 (fun _ μ100 e105 h102 => have fr104 : Fr (T_m_tellOne) μ μ100 := Fr.tr (Fr.mono (f_m_must  e105) (sbc (sa_m 4 rfl) (sbc (sa_m 5 rfl) (sbc (sa_m 6 rfl) sbn)))) (Fr.stI fr97 (iT 17 rfl inA_nn)); fr_ret h102 fr104))))) (fun h_ => (fi h_ (fun h108 => fo h108 (fun _ μ109 e131 h111 => have fr113 : Fr (T_m_tellOne) μ μ109 := Fr.tr (Fr.mono (f_m_goesOn  e131) (sbc (sa_m 6 rfl) (sbc (sa_m 4 rfl) (sbc (sa_m 5 rfl) sbn)))) (Fr.rf (T_m_tellOne) μ); fo h111 (fun r117 μ114 e130 h116 => have fr118 : Fr (T_m_tellOne) μ μ114 := Fr.tr (Fr.mono (f_m_bounded  e130) (sbc (sa_m 4 rfl) (sbc (sa_m 5 rfl) (sbc (sa_m 6 rfl) (sbc (sa_m 7 rfl) (sbc (sa_m 8 rfl) sbn)))))) fr113; (have h120 := fgv h116; (let μ121 : Mem := stI μ114 75 0 (cl (mI μ109 55 0 19)) r117; have fr122 : Fr (T_m_tellOne) μ μ121 := Fr.stI fr118 (iT 18 rfl inA_nn); have h123 := mb_o h120; fo h123 (fun _ μ124 e129 h126 => have fr128 : Fr (T_m_tellOne) μ μ124 := Fr.tr (Fr.mono (f_m_must  e129) (sbc (sa_m 4 rfl) (sbc (sa_m 5 rfl) (sbc (sa_m 6 rfl) sbn)))) fr122; fr_ret h126 fr128)))))) (fun h132 => (let v133 : Int32 := ((mI μ 58 0 (cl (mI μ 55 0 11))) - (nI 26)); have h134 := vb_o h132; (fi h134 (fun h136 => fo h136 (fun _ μ138 e158 h140 => have fr142 : Fr (T_m_tellOne) μ μ138 := Fr.tr (Fr.mono (f_m_fail  e158) (sbc (sa_m 4 rfl) (sbc (sa_m 5 rfl) sbn))) (Fr.rf (T_m_tellOne) μ); fi h140 (fun h144 => fo h144 (fun _ μ146 e157 h148 => have fr150 : Fr (T_m_tellOne) μ μ146 := Fr.tr (Fr.mono (f_m_goesOn  e157) (sbc (sa_m 6 rfl) (sbc (sa_m 4 rfl) (sbc (sa_m 5 rfl) sbn)))) fr142; fo h148 (fun _ μ151 e156 h153 => have fr155 : Fr (T_m_tellOne) μ μ151 := Fr.tr (Fr.mono (f_m_tellLaw  e156) (sbc (sa_m 19 rfl) (sbc (sa_m 20 rfl) (sbc (sa_m 21 rfl) (sbc (sa_m 4 rfl) (sbc (sa_m 5 rfl) (sbc (sa_m 6 rfl) (sbc (sa_m 22 rfl) (sbc (sa_m 23 rfl) (sbc (sa_m 24 rfl) (sbc (sa_m 25 rfl) (sbc (sa_m 26 rfl) (sbc (sa_m 27 rfl) (sbc (sa_m 28 rfl) (sbc (sa_m 29 rfl) (sbc (sa_m 30 rfl) (sbc (sa_m 31 rfl) (sbc (sa_m 32 rfl) sbn)))))))))))))))))) fr150; fr_ret h153 fr155))) (fun h145 => fr_ret h145 fr142))) (fun h137 => fi h137 (fun h160 => fi h160 (fun h163 => fo h163 (fun _ μ165 e176 h167 => have fr169 : Fr (T_m_tellOne) μ μ165 := Fr.tr (Fr.mono (f_m_goesOn  e176) (sbc (sa_m 6 rfl) (sbc (sa_m 4 rfl) (sbc (sa_m 5 rfl) sbn)))) (Fr.rf (T_m_tellOne) μ); fo h167 (fun _ μ170 e175 h172 => have fr174 : Fr (T_m_tellOne) μ μ170 := Fr.tr (Fr.mono (f_m_tellLaw  e175) (sbc (sa_m 19 rfl) (sbc (sa_m 20 rfl) (sbc (sa_m 21 rfl) (sbc (sa_m 4 rfl) (sbc (sa_m 5 rfl) (sbc (sa_m 6 rfl) (sbc (sa_m 22 rfl) (sbc (sa_m 23 rfl) (sbc (sa_m 24 rfl) (sbc (sa_m 25 rfl) (sbc (sa_m 26 rfl) (sbc (sa_m 27 rfl) (sbc (sa_m 28 rfl) (sbc (sa_m 29 rfl) (sbc (sa_m 30 rfl) (sbc (sa_m 31 rfl) (sbc (sa_m 32 rfl) sbn)))))))))))))))))) fr169; fr_ret h172 fr174))) (fun h164 => fr_ret h164 (Fr.rf (T_m_tellOne) μ))) (fun h161 => fo h161 (fun _ μ177 e197 h179 => have fr181 : Fr (T_m_tellOne) μ μ177 := Fr.tr (Fr.mono (f_m_fail  e197) (sbc (sa_m 4 rfl) (sbc (sa_m 5 rfl) sbn))) (Fr.rf (T_m_tellOne) μ); fi h179 (fun h183 => fo h183 (fun _ μ185 e196 h187 => have fr189 : Fr (T_m_tellOne) μ μ185 := Fr.tr (Fr.mono (f_m_goesOn  e196) (sbc (sa_m 6 rfl) (sbc (sa_m 4 rfl) (sbc (sa_m 5 rfl) sbn)))) fr181; fo h187 (fun _ μ190 e195 h192 => have fr194 : Fr (T_m_tellOne) μ μ190 := Fr.tr (Fr.mono (f_m_tellLaw  e195) (sbc (sa_m 19 rfl) (sbc (sa_m 20 rfl) (sbc (sa_m 21 rfl) (sbc (sa_m 4 rfl) (sbc (sa_m 5 rfl) (sbc (sa_m 6 rfl) (sbc (sa_m 22 rfl) (sbc (sa_m 23 rfl) (sbc (sa_m 24 rfl) (sbc (sa_m 25 rfl) (sbc (sa_m 26 rfl) (sbc (sa_m 27 rfl) (sbc (sa_m 28 rfl) (sbc (sa_m 29 rfl) (sbc (sa_m 30 rfl) (sbc (sa_m 31 rfl) (sbc (sa_m 32 rfl) sbn)))))))))))))))))) fr189; fr_ret h192 fr194))) (fun h184 => fr_ret h184 fr181)))))))))))))))))))
def T_m_fromLog : List At := []
theorem f_m_fromLog {μ : Mem} {x1 : Int32}  {z : Int32 × Mem} (h : m_fromLog x1 μ = some z) : Fr (T_m_fromLog) μ z.2 := by
  unfold m_fromLog at h
  exact (have h2 := fgv h; fr_ret h2 (Fr.rf (T_m_fromLog) μ))
def T_m_toWhere : List At := []
theorem f_m_toWhere {μ : Mem} {x1 : Int32}  {z : Int32 × Mem} (h : m_toWhere x1 μ = some z) : Fr (T_m_toWhere) μ z.2 := by
  unfold m_toWhere at h
  exact (have h2 := fgv h; fr_ret h2 (Fr.rf (T_m_toWhere) μ))
def T_m_wideAt : List At := []
theorem f_m_wideAt {μ : Mem} {x1 : Int32}  {z : Int32 × Mem} (h : m_wideAt x1 μ = some z) : Fr (T_m_wideAt) μ z.2 := by
  unfold m_wideAt at h
  exact (have h2 := fgv h; fr_ret h2 (Fr.rf (T_m_wideAt) μ))
def T_m_fillsLeads_L2 : List At := [(90, none, none)]
theorem f_m_fillsLeads_L2 {μ0 : Mem} {T : List At}   {k20 : Mem → Option (Unit × Mem)} {x1 : Int32} {μ : Mem} {z : Unit × Mem} (h : m_fillsLeads_L2 k20 x1 μ = some z) (fr : Fr T μ0 μ) (hT : Sb (T_m_fillsLeads_L2) T)  (hk20 : ∀  (μ : Mem) z, k20  μ = some z → Fr T μ0 μ → Fr T μ0 z.2) : Fr T μ0 z.2 := by
  have key : ∀ (n : Nat), (∀ (x1 : Int32) (μ : Mem) z, fixN (fun _ _ => none) (m_fillsLeads_B2 k20) n x1 μ = some z → Fr T μ0 μ → Fr T μ0 z.2) := by
    intro n
    refine fixN_ind (fun (f : Int32 → Mem → Option (Unit × Mem)) => ∀ (x1 : Int32) (μ : Mem) z, f x1 μ = some z → Fr T μ0 μ → Fr T μ0 z.2) ?_ ?_ n
    · intro x1 μ z h; cases h
    · intro self hself x1 μ z h fr
      unfold m_fillsLeads_B2 at h
      exact fi h (fun h2 => hk20 _ _ h2 fr) (fun h3 => (have h5 := fgv h3; hself _ _ _ h5 (Fr.stI fr (hT _ _ _ (iT 0 rfl inA_nn)))))
  exact key 60000 _ _ _ h fr
def T_m_fillsLeads_L22 : List At := [(91, none, none)]
theorem f_m_fillsLeads_L22 {μ0 : Mem} {T : List At}   {k41 : Mem → Option (Unit × Mem)} {x1 : Int32} {μ : Mem} {z : Unit × Mem} (h : m_fillsLeads_L22 k41 x1 μ = some z) (fr : Fr T μ0 μ) (hT : Sb (T_m_fillsLeads_L22) T)  (hk41 : ∀  (μ : Mem) z, k41  μ = some z → Fr T μ0 μ → Fr T μ0 z.2) : Fr T μ0 z.2 := by
  have key : ∀ (n : Nat), (∀ (x1 : Int32) (μ : Mem) z, fixN (fun _ _ => none) (m_fillsLeads_B22 k41) n x1 μ = some z → Fr T μ0 μ → Fr T μ0 z.2) := by
    intro n
    refine fixN_ind (fun (f : Int32 → Mem → Option (Unit × Mem)) => ∀ (x1 : Int32) (μ : Mem) z, f x1 μ = some z → Fr T μ0 μ → Fr T μ0 z.2) ?_ ?_ n
    · intro x1 μ z h; cases h
    · intro self hself x1 μ z h fr
      unfold m_fillsLeads_B22 at h
      exact fi h (fun h11 => hk41 _ _ h11 fr) (fun h12 => (have h14 := fgv h12; hself _ _ _ h14 (Fr.stI fr (hT _ _ _ (iT 0 rfl inA_nn)))))
  exact key 60000 _ _ _ h fr
def T_m_fillsLeads_L43 : List At := [(90, none, none), (91, none, none)]
theorem f_m_fillsLeads_L43 {μ0 : Mem} {T : List At}    {x1 : Int32} {μ : Mem} {z : Unit × Mem} (h : m_fillsLeads_L43  x1 μ = some z) (fr : Fr T μ0 μ) (hT : Sb (T_m_fillsLeads_L43) T)   : Fr T μ0 z.2 := by
  have key : ∀ (n : Nat), (∀ (x1 : Int32) (μ : Mem) z, fixN (fun _ _ => none) (m_fillsLeads_B43 ) n x1 μ = some z → Fr T μ0 μ → Fr T μ0 z.2) := by
    intro n
    refine fixN_ind (fun (f : Int32 → Mem → Option (Unit × Mem)) => ∀ (x1 : Int32) (μ : Mem) z, f x1 μ = some z → Fr T μ0 μ → Fr T μ0 z.2) ?_ ?_ n
    · intro x1 μ z h; cases h
    · intro self hself x1 μ z h fr
      unfold m_fillsLeads_B43 at h
      exact (have h20 := fgv h; fi h20 (fun h22 => fr_ret h22 fr) (fun h23 => fo h23 (fun r27 μ24 e69 h26 => have fr28 : Fr T μ0 μ24 := Fr.tr (Fr.mono (f_m_fromLog  e69) (sbt sbn hT)) fr; fo h26 (fun r32 μ29 e68 h31 => have fr33 : Fr T μ0 μ29 := Fr.tr (Fr.mono (f_m_toWhere  e68) (sbt sbn hT)) fr28; fo h31 (fun r37 μ34 e67 h36 => have fr38 : Fr T μ0 μ34 := Fr.tr (Fr.mono (f_m_wideAt  e67) (sbt sbn hT)) fr33; (have h40 := fgv h36; (let μ41 : Mem := stI μ34 90 0 (cl r27) ((mI μ34 90 0 (cl r27)) + r37); have fr42 : Fr T μ0 μ41 := Fr.stI fr38 (hT _ _ _ (iT 0 rfl inA_nn)); have h43 := mb_o h40; fi h43 (fun h45 => fi h45 (fun h48 => hself _ _ _ h48 fr42) (fun h49 => (have h51 := fgv h49; fi h51 (fun h53 => hself _ _ _ h53 fr42) (fun h54 => (have h56 := fgv h54; (have h58 := fgv h56; (let μ59 : Mem := stI μ41 91 0 (cl (((nI 4) * r27) + (mI μ41 89 0 (cl (r32 - (nI 10)))))) ((mI μ41 91 0 (cl (((nI 4) * r27) + (mI μ41 89 0 (cl (r32 - (nI 10))))))) + (r37 * (mI μ41 89 0 (cl (r32 - (nI 4)))))); have fr60 : Fr T μ0 μ59 := Fr.stI fr42 (hT _ _ _ (iT 1 rfl inA_nn)); have h61 := mb_o h58; hself _ _ _ h61 fr60))))))) (fun h46 => (have h63 := fgv h46; (let μ64 : Mem := stI μ41 91 0 (cl (((nI 4) * r27) + r32)) ((mI μ41 91 0 (cl (((nI 4) * r27) + r32))) + ((nI 4) * r37)); have fr65 : Fr T μ0 μ64 := Fr.stI fr42 (hT _ _ _ (iT 1 rfl inA_nn)); have h66 := mb_o h63; hself _ _ _ h66 fr65))))))))))
  exact key 60000 _ _ _ h fr
def T_m_fillsLeads : List At := [(90, none, none), (91, none, none)]
theorem f_m_fillsLeads {μ : Mem}   {z : Unit × Mem} (h : m_fillsLeads  μ = some z) : Fr (T_m_fillsLeads) μ z.2 := by
  unfold m_fillsLeads at h
  exact f_m_fillsLeads_L2 h (Fr.rf (T_m_fillsLeads) μ) (sbc (sa_m 0 rfl) sbn)  (fun  μ6 _ h8 fr9 => f_m_fillsLeads_L22 h8 fr9 (sbc (sa_m 1 rfl) sbn)  (fun  μ15 _ h17 fr18 => f_m_fillsLeads_L43 h17 fr18 (sbc (sa_m 0 rfl) (sbc (sa_m 1 rfl) sbn))  ))
def T_m_comesBy_L14 : List At := []
theorem f_m_comesBy_L14 {μ0 : Mem} {T : List At} {x3 : Int32}  {k58 : Int32 → Mem → Option (Int32 × Mem)} {x2 : Int32} {x4 : Int32} {μ : Mem} {z : Int32 × Mem} (h : m_comesBy_L14 x3 k58 x2 x4 μ = some z) (fr : Fr T μ0 μ) (hT : Sb (T_m_comesBy_L14) T)  (hk58 : ∀ (x2 : Int32) (μ : Mem) z, k58 x2 μ = some z → Fr T μ0 μ → Fr T μ0 z.2) : Fr T μ0 z.2 := by
  have key : ∀ (n : Nat), (∀ (x2 : Int32) (x4 : Int32) (μ : Mem) z, fixN (fun _ _ _ => none) (m_comesBy_B14 x3 k58) n x2 x4 μ = some z → Fr T μ0 μ → Fr T μ0 z.2) := by
    intro n
    refine fixN_ind (fun (f : Int32 → Int32 → Mem → Option (Int32 × Mem)) => ∀ (x2 : Int32) (x4 : Int32) (μ : Mem) z, f x2 x4 μ = some z → Fr T μ0 μ → Fr T μ0 z.2) ?_ ?_ n
    · intro x2 x4 μ z h; cases h
    · intro self hself x2 x4 μ z h fr
      unfold m_comesBy_B14 at h
      exact fi h (fun h5 => hk58 _ _ _ h5 fr) (fun h6 => fi h6 (fun h9 => (have h11 := fgv h9; fi h11 (fun h13 => hself _ _ _ _ h13 fr) (fun h14 => (let v15 : Int32 := (x2 ||| ((nI 1) <<< ((irm x4 (nI 4)) &&& 31))); have h16 := vb_o h14; (hself _ _ _ _ h16 fr))))) (fun h8 => hself _ _ _ _ h8 fr))
  exact key 60000 _ _ _ _ h fr
def T_m_comesBy_L4 : List At := []
theorem f_m_comesBy_L4 {μ0 : Mem} {T : List At}    {x2 : Int32} {x3 : Int32} {μ : Mem} {z : Int32 × Mem} (h : m_comesBy_L4  x2 x3 μ = some z) (fr : Fr T μ0 μ) (hT : Sb (T_m_comesBy_L4) T)   : Fr T μ0 z.2 := by
  have key : ∀ (n : Nat), (∀ (x2 : Int32) (x3 : Int32) (μ : Mem) z, fixN (fun _ _ _ => none) (m_comesBy_B4 ) n x2 x3 μ = some z → Fr T μ0 μ → Fr T μ0 z.2) := by
    intro n
    refine fixN_ind (fun (f : Int32 → Int32 → Mem → Option (Int32 × Mem)) => ∀ (x2 : Int32) (x3 : Int32) (μ : Mem) z, f x2 x3 μ = some z → Fr T μ0 μ → Fr T μ0 z.2) ?_ ?_ n
    · intro x2 x3 μ z h; cases h
    · intro self hself x2 x3 μ z h fr
      unfold m_comesBy_B4 at h
      exact fi h (fun h2 => fr_ret h2 fr) (fun h3 => f_m_comesBy_L14 h3 fr (sbt sbn hT)  (fun x17 μ18 _ h20 fr21 => hself _ _ _ _ h20 fr21))
  exact key 60000 _ _ _ _ h fr
def T_m_comesBy : List At := []
theorem f_m_comesBy {μ : Mem} {x1 : Int32}  {z : Int32 × Mem} (h : m_comesBy x1 μ = some z) : Fr (T_m_comesBy) μ z.2 := by
  unfold m_comesBy at h
  exact f_m_comesBy_L4 h (Fr.rf (T_m_comesBy) μ) sbn  
def T_m_isOut_L13 : List At := []
theorem f_m_isOut_L13 {μ0 : Mem} {T : List At} {x1 : Int32}   {x2 : Int32} {μ : Mem} {z : Int32 × Mem} (h : m_isOut_L13 x1 x2 μ = some z) (fr : Fr T μ0 μ) (hT : Sb (T_m_isOut_L13) T)   : Fr T μ0 z.2 := by
  have key : ∀ (n : Nat), (∀ (x2 : Int32) (μ : Mem) z, fixN (fun _ _ => none) (m_isOut_B13 x1) n x2 μ = some z → Fr T μ0 μ → Fr T μ0 z.2) := by
    intro n
    refine fixN_ind (fun (f : Int32 → Mem → Option (Int32 × Mem)) => ∀ (x2 : Int32) (μ : Mem) z, f x2 μ = some z → Fr T μ0 μ → Fr T μ0 z.2) ?_ ?_ n
    · intro x2 μ z h; cases h
    · intro self hself x2 μ z h fr
      unfold m_isOut_B13 at h
      exact (have h7 := fgv h; fi h7 (fun h9 => fr_ret h9 fr) (fun h10 => fo h10 (fun r14 μ11 e37 h13 => have fr15 : Fr T μ0 μ11 := Fr.tr (Fr.mono (f_m_fromLog  e37) (sbt sbn hT)) fr; fi h13 (fun h18 => fo h18 (fun r22 μ19 e36 h21 => have fr23 : Fr T μ0 μ19 := Fr.tr (Fr.mono (f_m_wideAt  e36) (sbt sbn hT)) fr15; fi h21 (fun h25 => hself _ _ _ h25 fr23) (fun h26 => fo h26 (fun r30 μ27 e35 h29 => have fr31 : Fr T μ0 μ27 := Fr.tr (Fr.mono (f_m_toWhere  e35) (sbt sbn hT)) fr23; fi h29 (fun h33 => hself _ _ _ h33 fr31) (fun h34 => fr_ret h34 fr31))))) (fun h17 => hself _ _ _ h17 fr15))))
  exact key 60000 _ _ _ h fr
def T_m_isOut : List At := []
theorem f_m_isOut {μ : Mem} {x1 : Int32}  {z : Int32 × Mem} (h : m_isOut x1 μ = some z) : Fr (T_m_isOut) μ z.2 := by
  unfold m_isOut at h
  exact (have h2 := fgv h; fi h2 (fun h5 => fr_ret h5 (Fr.rf (T_m_isOut) μ)) (fun h4 => f_m_isOut_L13 h4 (Fr.rf (T_m_isOut) μ) sbn  ))
def T_m_outBits_L4 : List At := []
theorem f_m_outBits_L4 {μ0 : Mem} {T : List At}    {x1 : Int32} {x2 : Int32} {μ : Mem} {z : Int32 × Mem} (h : m_outBits_L4  x1 x2 μ = some z) (fr : Fr T μ0 μ) (hT : Sb (T_m_outBits_L4) T)   : Fr T μ0 z.2 := by
  have key : ∀ (n : Nat), (∀ (x1 : Int32) (x2 : Int32) (μ : Mem) z, fixN (fun _ _ _ => none) (m_outBits_B4 ) n x1 x2 μ = some z → Fr T μ0 μ → Fr T μ0 z.2) := by
    intro n
    refine fixN_ind (fun (f : Int32 → Int32 → Mem → Option (Int32 × Mem)) => ∀ (x1 : Int32) (x2 : Int32) (μ : Mem) z, f x1 x2 μ = some z → Fr T μ0 μ → Fr T μ0 z.2) ?_ ?_ n
    · intro x1 x2 μ z h; cases h
    · intro self hself x1 x2 μ z h fr
      unfold m_outBits_B4 at h
      exact (have h2 := fgv h; fi h2 (fun h4 => fr_ret h4 fr) (fun h5 => fo h5 (fun r9 μ6 e14 h8 => have fr10 : Fr T μ0 μ6 := Fr.tr (Fr.mono (f_m_isOut  e14) (sbt sbn hT)) fr; fi h8 (fun h12 => hself _ _ _ _ h12 fr10) (fun h13 => hself _ _ _ _ h13 fr10))))
  exact key 60000 _ _ _ _ h fr
def T_m_outBits : List At := []
theorem f_m_outBits {μ : Mem}   {z : Int32 × Mem} (h : m_outBits  μ = some z) : Fr (T_m_outBits) μ z.2 := by
  unfold m_outBits at h
  exact f_m_outBits_L4 h (Fr.rf (T_m_outBits) μ) sbn  
def T_m_isShut_L2 : List At := []
theorem f_m_isShut_L2 {μ0 : Mem} {T : List At} {x1 : Int32}   {x2 : Int32} {μ : Mem} {z : Int32 × Mem} (h : m_isShut_L2 x1 x2 μ = some z) (fr : Fr T μ0 μ) (hT : Sb (T_m_isShut_L2) T)   : Fr T μ0 z.2 := by
  have key : ∀ (n : Nat), (∀ (x2 : Int32) (μ : Mem) z, fixN (fun _ _ => none) (m_isShut_B2 x1) n x2 μ = some z → Fr T μ0 μ → Fr T μ0 z.2) := by
    intro n
    refine fixN_ind (fun (f : Int32 → Mem → Option (Int32 × Mem)) => ∀ (x2 : Int32) (μ : Mem) z, f x2 μ = some z → Fr T μ0 μ → Fr T μ0 z.2) ?_ ?_ n
    · intro x2 μ z h; cases h
    · intro self hself x2 μ z h fr
      unfold m_isShut_B2 at h
      exact (have h2 := fgv h; fi h2 (fun h4 => fr_ret h4 fr) (fun h5 => fi h5 (fun h8 => fo h8 (fun r12 μ9 e23 h11 => have fr13 : Fr T μ0 μ9 := Fr.tr (Fr.mono (f_m_comesBy  e23) (sbt sbn hT)) fr; fo h11 (fun r17 μ14 e22 h16 => have fr18 : Fr T μ0 μ14 := Fr.tr (Fr.mono (f_m_outBits  e22) (sbt sbn hT)) fr13; fi h16 (fun h21 => fr_ret h21 fr18) (fun h20 => hself _ _ _ h20 fr18)))) (fun h7 => hself _ _ _ h7 fr)))
  exact key 60000 _ _ _ h fr
def T_m_isShut : List At := []
theorem f_m_isShut {μ : Mem} {x1 : Int32}  {z : Int32 × Mem} (h : m_isShut x1 μ = some z) : Fr (T_m_isShut) μ z.2 := by
  unfold m_isShut at h
  exact f_m_isShut_L2 h (Fr.rf (T_m_isShut) μ) sbn  
def T_m_fillsTable_L2 : List At := [(93, none, none)]
theorem f_m_fillsTable_L2 {μ0 : Mem} {T : List At} {x1 : Int32}  {k32 : Mem → Option (Unit × Mem)} {x2 : Int32} {μ : Mem} {z : Unit × Mem} (h : m_fillsTable_L2 x1 k32 x2 μ = some z) (fr : Fr T μ0 μ) (hT : Sb (T_m_fillsTable_L2) T)  (hk32 : ∀  (μ : Mem) z, k32  μ = some z → Fr T μ0 μ → Fr T μ0 z.2) : Fr T μ0 z.2 := by
  have key : ∀ (n : Nat), (∀ (x2 : Int32) (μ : Mem) z, fixN (fun _ _ => none) (m_fillsTable_B2 x1 k32) n x2 μ = some z → Fr T μ0 μ → Fr T μ0 z.2) := by
    intro n
    refine fixN_ind (fun (f : Int32 → Mem → Option (Unit × Mem)) => ∀ (x2 : Int32) (μ : Mem) z, f x2 μ = some z → Fr T μ0 μ → Fr T μ0 z.2) ?_ ?_ n
    · intro x2 μ z h; cases h
    · intro self hself x2 μ z h fr
      unfold m_fillsTable_B2 at h
      exact fi h (fun h2 => hk32 _ _ h2 fr) (fun h3 => fi h3 (fun h6 => (have h10 := fgv h6; hself _ _ _ h10 (Fr.stL fr (hT _ _ _ (iT 0 rfl inA_nn))))) (fun h5 => (have h8 := fgv h5; hself _ _ _ h8 (Fr.stL fr (hT _ _ _ (iT 0 rfl inA_nn))))))
  exact key 60000 _ _ _ h fr
def T_m_fillsTable_L91 : List At := [(93, none, none)]
theorem f_m_fillsTable_L91 {μ0 : Mem} {T : List At} {x1 : Int32} {x2 : Int32}  {k143 : Mem → Option (Unit × Mem)} {x3 : Int32} {μ : Mem} {z : Unit × Mem} (h : m_fillsTable_L91 x1 x2 k143 x3 μ = some z) (fr : Fr T μ0 μ) (hT : Sb (T_m_fillsTable_L91) T)  (hk143 : ∀  (μ : Mem) z, k143  μ = some z → Fr T μ0 μ → Fr T μ0 z.2) : Fr T μ0 z.2 := by
  have key : ∀ (n : Nat), (∀ (x3 : Int32) (μ : Mem) z, fixN (fun _ _ => none) (m_fillsTable_B91 x1 x2 k143) n x3 μ = some z → Fr T μ0 μ → Fr T μ0 z.2) := by
    intro n
    refine fixN_ind (fun (f : Int32 → Mem → Option (Unit × Mem)) => ∀ (x3 : Int32) (μ : Mem) z, f x3 μ = some z → Fr T μ0 μ → Fr T μ0 z.2) ?_ ?_ n
    · intro x3 μ z h; cases h
    · intro self hself x3 μ z h fr
      unfold m_fillsTable_B91 at h
      exact (have h34 := fgv h; fi h34 (fun h36 => hk143 _ _ h36 fr) (fun h37 => fi h37 (fun h40 => (have h42 := fgv h40; (have h44 := fgv h42; (let μ45 : Mem := stL μ 93 0 (cl (((nI 5) * x2) + x3)) ((mL μ 93 0 (cl (((nI 5) * x2) + x3))) - (Int32.toInt64 (mI μ 91 0 (cl (((nI 4) * x3) + x2))))); have fr46 : Fr T μ0 μ45 := Fr.stL fr (hT _ _ _ (iT 0 rfl inA_nn)); have h47 := mb_o h44; hself _ _ _ h47 fr46)))) (fun h39 => hself _ _ _ h39 fr)))
  exact key 60000 _ _ _ h fr
def T_m_fillsTable_L34 : List At := [(93, none, none)]
theorem f_m_fillsTable_L34 {μ0 : Mem} {T : List At} {x1 : Int32}  {k149 : Mem → Option (Unit × Mem)} {x2 : Int32} {μ : Mem} {z : Unit × Mem} (h : m_fillsTable_L34 x1 k149 x2 μ = some z) (fr : Fr T μ0 μ) (hT : Sb (T_m_fillsTable_L34) T)  (hk149 : ∀  (μ : Mem) z, k149  μ = some z → Fr T μ0 μ → Fr T μ0 z.2) : Fr T μ0 z.2 := by
  have key : ∀ (n : Nat), (∀ (x2 : Int32) (μ : Mem) z, fixN (fun _ _ => none) (m_fillsTable_B34 x1 k149) n x2 μ = some z → Fr T μ0 μ → Fr T μ0 z.2) := by
    intro n
    refine fixN_ind (fun (f : Int32 → Mem → Option (Unit × Mem)) => ∀ (x2 : Int32) (μ : Mem) z, f x2 μ = some z → Fr T μ0 μ → Fr T μ0 z.2) ?_ ?_ n
    · intro x2 μ z h; cases h
    · intro self hself x2 μ z h fr
      unfold m_fillsTable_B34 at h
      exact (have h16 := fgv h; fi h16 (fun h18 => hk149 _ _ h18 fr) (fun h19 => fi h19 (fun h22 => hself _ _ _ h22 fr) (fun h21 => (have h24 := fgv h21; fi h24 (fun h27 => (have h53 := fgv h27; (let μ54 : Mem := stL μ 93 0 (cl ((nI 6) * x2)) (Int32.toInt64 ((nI 4) * (nI 1))); have fr55 : Fr T μ0 μ54 := Fr.stL fr (hT _ _ _ (iT 0 rfl inA_nn)); have h56 := mb_o h53; f_m_fillsTable_L91 h56 fr55 (sbt (sbc (sa_m 0 rfl) sbn) hT)  (fun  μ57 _ h59 fr60 => hself _ _ _ h59 fr60)))) (fun h26 => (have h29 := fgv h26; (let μ30 : Mem := stL μ 93 0 (cl ((nI 6) * x2)) (Int32.toInt64 ((nI 4) * (mI μ 90 0 (cl x2)))); have fr31 : Fr T μ0 μ30 := Fr.stL fr (hT _ _ _ (iT 0 rfl inA_nn)); have h32 := mb_o h29; f_m_fillsTable_L91 h32 fr31 (sbt (sbc (sa_m 0 rfl) sbn) hT)  (fun  μ48 _ h50 fr51 => hself _ _ _ h50 fr51))))))))
  exact key 60000 _ _ _ h fr
def T_m_fillsTable : List At := [(93, none, none)]
theorem f_m_fillsTable {μ : Mem} {x1 : Int32}  {z : Unit × Mem} (h : m_fillsTable x1 μ = some z) : Fr (T_m_fillsTable) μ z.2 := by
  unfold m_fillsTable at h
  exact f_m_fillsTable_L2 h (Fr.rf (T_m_fillsTable) μ) (sbc (sa_m 0 rfl) sbn)  (fun  μ11 _ h13 fr14 => f_m_fillsTable_L34 h13 fr14 (sbc (sa_m 0 rfl) sbn)  (fun  μ61 _ h63 fr64 => (let μ65 : Mem := stL μ61 93 0 4 (Int32.toInt64 (mI μ61 89 0 30)); have fr66 : Fr (T_m_fillsTable) μ μ65 := Fr.stL fr64 (iT 0 rfl inA_nn); have h67 := mb_o h63; fr_ret h67 fr66)))
def T_m_clears_L36 : List At := [(93, none, none)]
theorem f_m_clears_L36 {μ0 : Mem} {T : List At} {x1 : Int32} {x2 : Int64} {x4 : Int64} {x6 : Int32} {x7 : Int64}  {k98 : Mem → Option (Unit × Mem)} {x9 : Int32} {μ : Mem} {z : Unit × Mem} (h : m_clears_L36 x1 x2 x4 x6 x7 k98 x9 μ = some z) (fr : Fr T μ0 μ) (hT : Sb (T_m_clears_L36) T)  (hk98 : ∀  (μ : Mem) z, k98  μ = some z → Fr T μ0 μ → Fr T μ0 z.2) : Fr T μ0 z.2 := by
  have key : ∀ (n : Nat), (∀ (x9 : Int32) (μ : Mem) z, fixN (fun _ _ => none) (m_clears_B36 x1 x2 x4 x6 x7 k98) n x9 μ = some z → Fr T μ0 μ → Fr T μ0 z.2) := by
    intro n
    refine fixN_ind (fun (f : Int32 → Mem → Option (Unit × Mem)) => ∀ (x9 : Int32) (μ : Mem) z, f x9 μ = some z → Fr T μ0 μ → Fr T μ0 z.2) ?_ ?_ n
    · intro x9 μ z h; cases h
    · intro self hself x9 μ z h fr
      unfold m_clears_B36 at h
      exact fi h (fun h9 => hk98 _ _ h9 fr) (fun h10 => fi h10 (fun h12 => hk98 _ _ h12 fr) (fun h13 => (have h15 := fgv h13; (have h17 := fgv h15; (have h19 := fgv h17; (let μ20 : Mem := stL μ 93 0 (cl (((nI 5) * x6) + x9)) ((((mL μ 93 0 (cl (((nI 5) * x6) + x9))) * x4) - (x7 * (mL μ 93 0 (cl (((nI 5) * x1) + x9))))) / x2); have fr21 : Fr T μ0 μ20 := Fr.stL fr (hT _ _ _ (iT 0 rfl inA_nn)); have h22 := mb_o h19; hself _ _ _ h22 fr21))))))
  exact key 60000 _ _ _ h fr
def T_m_clears_L14 : List At := [(93, none, none)]
theorem f_m_clears_L14 {μ0 : Mem} {T : List At} {x1 : Int32} {x2 : Int64} {x4 : Int64}   {x6 : Int32} {μ : Mem} {z : Unit × Mem} (h : m_clears_L14 x1 x2 x4 x6 μ = some z) (fr : Fr T μ0 μ) (hT : Sb (T_m_clears_L14) T)   : Fr T μ0 z.2 := by
  have key : ∀ (n : Nat), (∀ (x6 : Int32) (μ : Mem) z, fixN (fun _ _ => none) (m_clears_B14 x1 x2 x4) n x6 μ = some z → Fr T μ0 μ → Fr T μ0 z.2) := by
    intro n
    refine fixN_ind (fun (f : Int32 → Mem → Option (Unit × Mem)) => ∀ (x6 : Int32) (μ : Mem) z, f x6 μ = some z → Fr T μ0 μ → Fr T μ0 z.2) ?_ ?_ n
    · intro x6 μ z h; cases h
    · intro self hself x6 μ z h fr
      unfold m_clears_B14 at h
      exact fi h (fun h4 => fr_ret h4 fr) (fun h5 => (have h7 := fgv h5; f_m_clears_L36 h7 fr (sbt (sbc (sa_m 0 rfl) sbn) hT)  (fun  μ23 _ h25 fr26 => hself _ _ _ h25 fr26)))
  exact key 60000 _ _ _ h fr
def T_m_clears : List At := [(93, none, none)]
theorem f_m_clears {μ : Mem} {x1 : Int32} {x2 : Int64}  {z : Unit × Mem} (h : m_clears x1 x2 μ = some z) : Fr (T_m_clears) μ z.2 := by
  unfold m_clears at h
  exact (have h2 := fgv h; f_m_clears_L14 h2 (Fr.rf (T_m_clears) μ) (sbc (sa_m 0 rfl) sbn)  )
def T_m_parts_L12 : List At := [(92, none, none)]
theorem f_m_parts_L12 {μ0 : Mem} {T : List At}   {k30 : Mem → Option (Unit × Mem)} {x1 : Int32} {μ : Mem} {z : Unit × Mem} (h : m_parts_L12 k30 x1 μ = some z) (fr : Fr T μ0 μ) (hT : Sb (T_m_parts_L12) T)  (hk30 : ∀  (μ : Mem) z, k30  μ = some z → Fr T μ0 μ → Fr T μ0 z.2) : Fr T μ0 z.2 := by
  have key : ∀ (n : Nat), (∀ (x1 : Int32) (μ : Mem) z, fixN (fun _ _ => none) (m_parts_B12 k30) n x1 μ = some z → Fr T μ0 μ → Fr T μ0 z.2) := by
    intro n
    refine fixN_ind (fun (f : Int32 → Mem → Option (Unit × Mem)) => ∀ (x1 : Int32) (μ : Mem) z, f x1 μ = some z → Fr T μ0 μ → Fr T μ0 z.2) ?_ ?_ n
    · intro x1 μ z h; cases h
    · intro self hself x1 μ z h fr
      unfold m_parts_B12 at h
      exact fi h (fun h5 => hk30 _ _ h5 fr) (fun h6 => (have h8 := fgv h6; hself _ _ _ h8 (Fr.stL fr (hT _ _ _ (iT 0 rfl inA_nn)))))
  exact key 60000 _ _ _ h fr
def T_m_parts_L77 : List At := [(55, none, some 57), (93, none, none)]
theorem f_m_parts_L77 {μ0 : Mem} {T : List At} {x1 : Int32}  {k112 : Mem → Option (Unit × Mem)} {x2 : Int32} {μ : Mem} {z : Unit × Mem} (h : m_parts_L77 x1 k112 x2 μ = some z) (fr : Fr T μ0 μ) (hT : Sb (T_m_parts_L77) T)  (hk112 : ∀  (μ : Mem) z, k112  μ = some z → Fr T μ0 μ → Fr T μ0 z.2) : Fr T μ0 z.2 := by
  have key : ∀ (n : Nat), (∀ (x2 : Int32) (μ : Mem) z, fixN (fun _ _ => none) (m_parts_B77 x1 k112) n x2 μ = some z → Fr T μ0 μ → Fr T μ0 z.2) := by
    intro n
    refine fixN_ind (fun (f : Int32 → Mem → Option (Unit × Mem)) => ∀ (x2 : Int32) (μ : Mem) z, f x2 μ = some z → Fr T μ0 μ → Fr T μ0 z.2) ?_ ?_ n
    · intro x2 μ z h; cases h
    · intro self hself x2 μ z h fr
      unfold m_parts_B77 at h
      exact fi h (fun h44 => hk112 _ _ h44 fr) (fun h45 => (have h47 := fgv h45; fo h47 (fun _ μ48 e56 h50 => have fr52 : Fr T μ0 μ48 := Fr.tr (Fr.mono (f_m_clears  e56) (sbt (sbc (sa_m 1 rfl) sbn) hT)) fr; (let μ53 : Mem := stL μ48 55 0 57 (mL μ 93 0 (cl ((nI 6) * x2))); have fr54 : Fr T μ0 μ53 := Fr.stL fr52 (hT _ _ _ (iT 0 rfl inA_ns)); have h55 := mb_o h50; hself _ _ _ h55 fr54))))
  exact key 60000 _ _ _ h fr
def T_m_parts_L114 : List At := [(92, none, none)]
theorem f_m_parts_L114 {μ0 : Mem} {T : List At} {x1 : Int32}   {x2 : Int32} {μ : Mem} {z : Unit × Mem} (h : m_parts_L114 x1 x2 μ = some z) (fr : Fr T μ0 μ) (hT : Sb (T_m_parts_L114) T)   : Fr T μ0 z.2 := by
  have key : ∀ (n : Nat), (∀ (x2 : Int32) (μ : Mem) z, fixN (fun _ _ => none) (m_parts_B114 x1) n x2 μ = some z → Fr T μ0 μ → Fr T μ0 z.2) := by
    intro n
    refine fixN_ind (fun (f : Int32 → Mem → Option (Unit × Mem)) => ∀ (x2 : Int32) (μ : Mem) z, f x2 μ = some z → Fr T μ0 μ → Fr T μ0 z.2) ?_ ?_ n
    · intro x2 μ z h; cases h
    · intro self hself x2 μ z h fr
      unfold m_parts_B114 at h
      exact fi h (fun h62 => fr_ret h62 fr) (fun h63 => fi h63 (fun h66 => (have h70 := fgv h66; (have h72 := fgv h70; (let μ73 : Mem := stL μ 92 0 (cl x2) (mL μ 93 0 (cl (((nI 5) * x2) + (nI 4)))); have fr74 : Fr T μ0 μ73 := Fr.stL fr (hT _ _ _ (iT 0 rfl inA_nn)); have h75 := mb_o h72; hself _ _ _ h75 fr74)))) (fun h65 => (have h68 := fgv h65; hself _ _ _ h68 (Fr.stL fr (hT _ _ _ (iT 0 rfl inA_nn))))))
  exact key 60000 _ _ _ h fr
def T_m_parts : List At := [(55, none, some 56), (55, none, some 57), (92, none, none), (93, none, none), (90, none, none), (91, none, none)]
theorem f_m_parts {μ : Mem}   {z : Unit × Mem} (h : m_parts  μ = some z) : Fr (T_m_parts) μ z.2 := by
  unfold m_parts at h
  exact (let μ1 : Mem := stL (stI μ 55 0 56 (nI 0)) 55 0 57 (1 : Int64); have fr2 : Fr (T_m_parts) μ μ1 := Fr.stL (Fr.stI (Fr.rf (T_m_parts) μ) (iT 0 rfl inA_ns)) (iT 1 rfl inA_ns); have h3 := mb_o h; f_m_parts_L12 h3 fr2 (sbc (sa_m 2 rfl) sbn)  (fun  μ9 _ h11 fr12 => (have h14 := fgv h11; fi h14 (fun h17 => fr_ret h17 fr12) (fun h16 => fo h16 (fun _ μ18 e79 h20 => have fr22 : Fr (T_m_parts) μ μ18 := Fr.tr (Fr.mono (f_m_fillsLeads  e79) (sbc (sa_m 4 rfl) (sbc (sa_m 5 rfl) sbn))) fr12; fo h20 (fun r26 μ23 e78 h25 => have fr27 : Fr (T_m_parts) μ μ23 := Fr.tr (Fr.mono (f_m_comesBy  e78) sbn) fr22; fo h25 (fun r31 μ28 e77 h30 => have fr32 : Fr (T_m_parts) μ μ28 := Fr.tr (Fr.mono (f_m_isShut  e77) sbn) fr27; (have h34 := fgv h30; fi h34 (fun h36 => fo h36 (fun _ μ38 e76 h40 => have fr42 : Fr (T_m_parts) μ μ38 := Fr.tr (Fr.mono (f_m_fillsTable  e76) (sbc (sa_m 3 rfl) sbn)) (Fr.stI fr32 (iT 0 rfl inA_ns)); f_m_parts_L77 h40 fr42 (sbc (sa_m 1 rfl) (sbc (sa_m 3 rfl) sbn))  (fun  μ57 _ h59 fr60 => f_m_parts_L114 h59 fr60 (sbc (sa_m 2 rfl) sbn)  ))) (fun h37 => fr_ret h37 (Fr.stI fr32 (iT 0 rfl inA_ns)))))))))))
def T_m_begins_L2 : List At := [(89, none, none)]
theorem f_m_begins_L2 {μ0 : Mem} {T : List At}   {k21 : Mem → Option (Unit × Mem)} {x1 : Int32} {μ : Mem} {z : Unit × Mem} (h : m_begins_L2 k21 x1 μ = some z) (fr : Fr T μ0 μ) (hT : Sb (T_m_begins_L2) T)  (hk21 : ∀  (μ : Mem) z, k21  μ = some z → Fr T μ0 μ → Fr T μ0 z.2) : Fr T μ0 z.2 := by
  have key : ∀ (n : Nat), (∀ (x1 : Int32) (μ : Mem) z, fixN (fun _ _ => none) (m_begins_B2 k21) n x1 μ = some z → Fr T μ0 μ → Fr T μ0 z.2) := by
    intro n
    refine fixN_ind (fun (f : Int32 → Mem → Option (Unit × Mem)) => ∀ (x1 : Int32) (μ : Mem) z, f x1 μ = some z → Fr T μ0 μ → Fr T μ0 z.2) ?_ ?_ n
    · intro x1 μ z h; cases h
    · intro self hself x1 μ z h fr
      unfold m_begins_B2 at h
      exact fi h (fun h2 => hk21 _ _ h2 fr) (fun h3 => (have h5 := fgv h3; hself _ _ _ h5 (Fr.stI fr (hT _ _ _ (iT 0 rfl inA_nn)))))
  exact key 60000 _ _ _ h fr
def T_m_begins_L23 : List At := [(89, none, none)]
theorem f_m_begins_L23 {μ0 : Mem} {T : List At}   {k85 : Mem → Option (Unit × Mem)} {x1 : Int32} {μ : Mem} {z : Unit × Mem} (h : m_begins_L23 k85 x1 μ = some z) (fr : Fr T μ0 μ) (hT : Sb (T_m_begins_L23) T)  (hk85 : ∀  (μ : Mem) z, k85  μ = some z → Fr T μ0 μ → Fr T μ0 z.2) : Fr T μ0 z.2 := by
  have key : ∀ (n : Nat), (∀ (x1 : Int32) (μ : Mem) z, fixN (fun _ _ => none) (m_begins_B23 k85) n x1 μ = some z → Fr T μ0 μ → Fr T μ0 z.2) := by
    intro n
    refine fixN_ind (fun (f : Int32 → Mem → Option (Unit × Mem)) => ∀ (x1 : Int32) (μ : Mem) z, f x1 μ = some z → Fr T μ0 μ → Fr T μ0 z.2) ?_ ?_ n
    · intro x1 μ z h; cases h
    · intro self hself x1 μ z h fr
      unfold m_begins_B23 at h
      exact (have h11 := fgv h; fi h11 (fun h13 => hk85 _ _ h13 fr) (fun h14 => (have h16 := fgv h14; (have h18 := fgv h16; (let μ19 : Mem := stI μ 89 0 (cl x1) (mI μ 68 0 (cl (((nI 6) * (mI μ 55 0 18)) + x1))); have fr20 : Fr T μ0 μ19 := Fr.stI fr (hT _ _ _ (iT 0 rfl inA_nn)); have h21 := mb_o h18; (have h23 := fgv h21; (have h25 := fgv h23; (let μ26 : Mem := stI μ19 89 0 (cl ((nI 6) + x1)) (mI μ19 69 0 (cl (((nI 6) * (mI μ19 55 0 18)) + x1))); have fr27 : Fr T μ0 μ26 := Fr.stI fr20 (hT _ _ _ (iT 0 rfl inA_nn)); have h28 := mb_o h25; hself _ _ _ h28 fr27))))))))
  exact key 60000 _ _ _ h fr
def T_m_begins_L87 : List At := [(89, none, none)]
theorem f_m_begins_L87 {μ0 : Mem} {T : List At}   {k129 : Mem → Option (Unit × Mem)} {x1 : Int32} {μ : Mem} {z : Unit × Mem} (h : m_begins_L87 k129 x1 μ = some z) (fr : Fr T μ0 μ) (hT : Sb (T_m_begins_L87) T)  (hk129 : ∀  (μ : Mem) z, k129  μ = some z → Fr T μ0 μ → Fr T μ0 z.2) : Fr T μ0 z.2 := by
  have key : ∀ (n : Nat), (∀ (x1 : Int32) (μ : Mem) z, fixN (fun _ _ => none) (m_begins_B87 k129) n x1 μ = some z → Fr T μ0 μ → Fr T μ0 z.2) := by
    intro n
    refine fixN_ind (fun (f : Int32 → Mem → Option (Unit × Mem)) => ∀ (x1 : Int32) (μ : Mem) z, f x1 μ = some z → Fr T μ0 μ → Fr T μ0 z.2) ?_ ?_ n
    · intro x1 μ z h; cases h
    · intro self hself x1 μ z h fr
      unfold m_begins_B87 at h
      exact (have h34 := fgv h; fi h34 (fun h36 => hk129 _ _ h36 fr) (fun h37 => (have h39 := fgv h37; (have h41 := fgv h39; (let μ42 : Mem := stI μ 89 0 (cl ((nI 18) + x1)) (mI μ 73 0 (cl (((nI 12) * (mI μ 55 0 18)) + x1))); have fr43 : Fr T μ0 μ42 := Fr.stI fr (hT _ _ _ (iT 0 rfl inA_nn)); have h44 := mb_o h41; hself _ _ _ h44 fr43)))))
  exact key 60000 _ _ _ h fr
def T_m_begins : List At := [(89, none, none), (55, none, some 52), (55, none, some 53), (55, none, some 56), (55, none, some 57), (92, none, none), (93, none, none), (90, none, none), (91, none, none)]
theorem f_m_begins {μ : Mem}   {z : Unit × Mem} (h : m_begins  μ = some z) : Fr (T_m_begins) μ z.2 := by
  unfold m_begins at h
  exact f_m_begins_L2 h (Fr.rf (T_m_begins) μ) (sbc (sa_m 0 rfl) sbn)  (fun  μ6 _ h8 fr9 => f_m_begins_L23 h8 fr9 (sbc (sa_m 0 rfl) sbn)  (fun  μ29 _ h31 fr32 => f_m_begins_L87 h31 fr32 (sbc (sa_m 0 rfl) sbn)  (fun  μ45 _ h47 fr48 => (have h50 := fgv h47; (let μ51 : Mem := stI μ45 89 0 30 (mI μ45 74 0 (cl (mI μ45 55 0 18))); have fr52 : Fr (T_m_begins) μ μ51 := Fr.stI fr48 (iT 0 rfl inA_nn); have h53 := mb_o h50; (have h55 := fgv h53; (let μ56 : Mem := stI μ51 55 0 52 (mI μ51 75 0 (cl (mI μ51 55 0 18))); have fr57 : Fr (T_m_begins) μ μ56 := Fr.stI fr52 (iT 1 rfl inA_ns); have h58 := mb_o h55; fo h58 (fun _ μ59 e64 h61 => have fr63 : Fr (T_m_begins) μ μ59 := Fr.tr (Fr.mono (f_m_parts  e64) (sbc (sa_m 3 rfl) (sbc (sa_m 4 rfl) (sbc (sa_m 5 rfl) (sbc (sa_m 6 rfl) (sbc (sa_m 7 rfl) (sbc (sa_m 8 rfl) sbn))))))) (Fr.stI fr57 (iT 2 rfl inA_ns)); fr_ret h61 fr63))))))))
def T_m_keepsRow_L2 : List At := [(88, none, none)]
theorem f_m_keepsRow_L2 {μ0 : Mem} {T : List At}    {x1 : Int32} {μ : Mem} {z : Unit × Mem} (h : m_keepsRow_L2  x1 μ = some z) (fr : Fr T μ0 μ) (hT : Sb (T_m_keepsRow_L2) T)   : Fr T μ0 z.2 := by
  have key : ∀ (n : Nat), (∀ (x1 : Int32) (μ : Mem) z, fixN (fun _ _ => none) (m_keepsRow_B2 ) n x1 μ = some z → Fr T μ0 μ → Fr T μ0 z.2) := by
    intro n
    refine fixN_ind (fun (f : Int32 → Mem → Option (Unit × Mem)) => ∀ (x1 : Int32) (μ : Mem) z, f x1 μ = some z → Fr T μ0 μ → Fr T μ0 z.2) ?_ ?_ n
    · intro x1 μ z h; cases h
    · intro self hself x1 μ z h fr
      unfold m_keepsRow_B2 at h
      exact fi h (fun h2 => fr_ret h2 fr) (fun h3 => (have h5 := fgv h3; hself _ _ _ h5 (Fr.stI fr (hT _ _ _ (iT 0 rfl inA_nn)))))
  exact key 60000 _ _ _ h fr
def T_m_keepsRow : List At := [(88, none, none)]
theorem f_m_keepsRow {μ : Mem}   {z : Unit × Mem} (h : m_keepsRow  μ = some z) : Fr (T_m_keepsRow) μ z.2 := by
  unfold m_keepsRow at h
  exact f_m_keepsRow_L2 h (Fr.rf (T_m_keepsRow) μ) (sbc (sa_m 0 rfl) sbn)  
def T_m_read_L10 : List At := [(57, none, none)]
theorem f_m_read_L10 {μ0 : Mem} {T : List At}   {k36 : Mem → Option (Int32 × Mem)} {x1 : Int32} {μ : Mem} {z : Int32 × Mem} (h : m_read_L10 k36 x1 μ = some z) (fr : Fr T μ0 μ) (hT : Sb (T_m_read_L10) T)  (hk36 : ∀  (μ : Mem) z, k36  μ = some z → Fr T μ0 μ → Fr T μ0 z.2) : Fr T μ0 z.2 := by
  have key : ∀ (n : Nat), (∀ (x1 : Int32) (μ : Mem) z, fixN (fun _ _ => none) (m_read_B10 k36) n x1 μ = some z → Fr T μ0 μ → Fr T μ0 z.2) := by
    intro n
    refine fixN_ind (fun (f : Int32 → Mem → Option (Int32 × Mem)) => ∀ (x1 : Int32) (μ : Mem) z, f x1 μ = some z → Fr T μ0 μ → Fr T μ0 z.2) ?_ ?_ n
    · intro x1 μ z h; cases h
    · intro self hself x1 μ z h fr
      unfold m_read_B10 at h
      exact fi h (fun h2 => hk36 _ _ h2 fr) (fun h3 => (have h5 := fgv h3; (let μ6 : Mem := stI μ 57 0 (cl x1) (Int8.toInt32 (Int32.toInt8 (mI μ 56 0 (cl x1)))); have fr7 : Fr T μ0 μ6 := Fr.stI fr (hT _ _ _ (iT 0 rfl inA_nn)); have h8 := mb_o h5; hself _ _ _ h8 fr7)))
  exact key 60000 _ _ _ h fr
def T_m_read_L112 : List At := [(65, none, none), (63, none, none), (64, none, none), (55, none, some 20), (55, none, some 13), (55, none, some 14), (55, none, some 11), (55, none, some 15), (55, none, some 16), (67, none, none), (68, none, none), (69, none, none), (66, none, none), (71, none, none), (72, none, none), (73, none, none), (70, none, none), (74, none, none), (75, none, none), (78, none, none), (76, none, none), (77, none, none), (81, none, none), (82, none, none), (55, none, some 36), (55, none, some 46), (83, none, none), (84, none, none), (55, none, some 42), (85, none, none), (55, none, some 12), (79, none, none), (80, none, none)]
theorem f_m_read_L112 {μ0 : Mem} {T : List At}   {k134 : Mem → Option (Int32 × Mem)}  {μ : Mem} {z : Int32 × Mem} (h : m_read_L112 k134  μ = some z) (fr : Fr T μ0 μ) (hT : Sb (T_m_read_L112) T)  (hk134 : ∀  (μ : Mem) z, k134  μ = some z → Fr T μ0 μ → Fr T μ0 z.2) : Fr T μ0 z.2 := by
  have key : ∀ (n : Nat), (∀  (μ : Mem) z, fixN (fun _ => none) (m_read_B112 k134) n  μ = some z → Fr T μ0 μ → Fr T μ0 z.2) := by
    intro n
    refine fixN_ind (fun (f : Mem → Option (Int32 × Mem)) => ∀  (μ : Mem) z, f  μ = some z → Fr T μ0 μ → Fr T μ0 z.2) ?_ ?_ n
    · intro  μ z h; cases h
    · intro self hself  μ z h fr
      unfold m_read_B112 at h
      exact fi h (fun h40 => fo h40 (fun r44 μ41 e55 h43 => have fr45 : Fr T μ0 μ41 := Fr.tr (Fr.mono (f_m_is  e55) (sbt sbn hT)) fr; fi h43 (fun h48 => fo h48 (fun _ μ49 e54 h51 => have fr53 : Fr T μ0 μ49 := Fr.tr (Fr.mono (f_m_tellOne  e54) (sbt (sbc (sa_m 0 rfl) (sbc (sa_m 1 rfl) (sbc (sa_m 2 rfl) (sbc (sa_m 3 rfl) (sbc (sa_m 4 rfl) (sbc (sa_m 5 rfl) (sbc (sa_m 6 rfl) (sbc (sa_m 7 rfl) (sbc (sa_m 8 rfl) (sbc (sa_m 9 rfl) (sbc (sa_m 10 rfl) (sbc (sa_m 11 rfl) (sbc (sa_m 12 rfl) (sbc (sa_m 13 rfl) (sbc (sa_m 14 rfl) (sbc (sa_m 15 rfl) (sbc (sa_m 16 rfl) (sbc (sa_m 17 rfl) (sbc (sa_m 18 rfl) (sbc (sa_m 19 rfl) (sbc (sa_m 20 rfl) (sbc (sa_m 21 rfl) (sbc (sa_m 22 rfl) (sbc (sa_m 23 rfl) (sbc (sa_m 24 rfl) (sbc (sa_m 25 rfl) (sbc (sa_m 26 rfl) (sbc (sa_m 27 rfl) (sbc (sa_m 28 rfl) (sbc (sa_m 29 rfl) (sbc (sa_m 30 rfl) (sbc (sa_m 31 rfl) (sbc (sa_m 32 rfl) sbn))))))))))))))))))))))))))))))))) hT)) fr45; hself _ _ h51 fr53)) (fun h47 => hk134 _ _ h47 fr45))) (fun h39 => hk134 _ _ h39 fr)
  exact key 60000  _ _ h fr
def T_m_read_L219 : List At := [(102, none, none)]
theorem f_m_read_L219 {μ0 : Mem} {T : List At}    {x1 : Int32} {μ : Mem} {z : Int32 × Mem} (h : m_read_L219  x1 μ = some z) (fr : Fr T μ0 μ) (hT : Sb (T_m_read_L219) T)   : Fr T μ0 z.2 := by
  have key : ∀ (n : Nat), (∀ (x1 : Int32) (μ : Mem) z, fixN (fun _ _ => none) (m_read_B219 ) n x1 μ = some z → Fr T μ0 μ → Fr T μ0 z.2) := by
    intro n
    refine fixN_ind (fun (f : Int32 → Mem → Option (Int32 × Mem)) => ∀ (x1 : Int32) (μ : Mem) z, f x1 μ = some z → Fr T μ0 μ → Fr T μ0 z.2) ?_ ?_ n
    · intro x1 μ z h; cases h
    · intro self hself x1 μ z h fr
      unfold m_read_B219 at h
      exact fi h (fun h89 => fr_ret h89 fr) (fun h90 => (have h92 := fgv h90; hself _ _ _ h92 (Fr.stI fr (hT _ _ _ (iT 0 rfl inA_nn)))))
  exact key 60000 _ _ _ h fr
def T_m_read : List At := [(55, none, some 4), (55, none, some 2), (55, none, some 11), (55, none, some 12), (55, none, some 13), (55, none, some 15), (55, none, some 19), (55, none, some 20), (55, none, some 36), (55, none, some 42), (55, none, some 17), (55, none, some 18), (55, none, some 61), (55, none, some 67), (102, none, none), (88, none, none), (89, none, none), (55, none, some 52), (55, none, some 53), (55, none, some 56), (55, none, some 57), (92, none, none), (93, none, none), (90, none, none), (91, none, none), (65, none, none), (63, none, none), (64, none, none), (55, none, some 14), (55, none, some 16), (67, none, none), (68, none, none), (69, none, none), (66, none, none), (71, none, none), (72, none, none), (73, none, none), (70, none, none), (74, none, none), (75, none, none), (78, none, none), (76, none, none), (77, none, none), (81, none, none), (82, none, none), (55, none, some 46), (83, none, none), (84, none, none), (85, none, none), (79, none, none), (80, none, none), (55, none, some 10), (58, none, none), (59, none, none), (60, none, none), (61, none, none), (57, none, none)]
theorem f_m_read {μ : Mem}   {z : Int32 × Mem} (h : m_read  μ = some z) : Fr (T_m_read) μ z.2 := by
  unfold m_read at h
  exact f_m_read_L10 h (Fr.stI (Fr.rf (T_m_read) μ) (iT 0 rfl inA_ns)) (sbc (sa_m 56 rfl) sbn)  (fun  μ9 _ h11 fr12 => fo h11 (fun _ μ13 e144 h15 => have fr17 : Fr (T_m_read) μ μ13 := Fr.tr (Fr.mono (f_m_cut  e144) (sbc (sa_m 51 rfl) (sbc (sa_m 52 rfl) (sbc (sa_m 53 rfl) (sbc (sa_m 54 rfl) (sbc (sa_m 55 rfl) sbn)))))) (Fr.stI fr12 (iT 1 rfl inA_ns)); (let μ18 : Mem := stI (stI μ13 55 0 11 (nI 0)) 55 0 12 (nI 0); have fr19 : Fr (T_m_read) μ μ18 := Fr.stI (Fr.stI fr17 (iT 2 rfl inA_ns)) (iT 3 rfl inA_ns); have h20 := mb_o h15; (let μ21 : Mem := stI (stI μ18 55 0 13 (nI 0)) 55 0 15 (nI 0); have fr22 : Fr (T_m_read) μ μ21 := Fr.stI (Fr.stI fr19 (iT 4 rfl inA_ns)) (iT 5 rfl inA_ns); have h23 := mb_o h20; (let μ24 : Mem := stI μ21 55 0 19 ((nI 1) - (mI μ21 55 0 18)); have fr25 : Fr (T_m_read) μ μ24 := Fr.stI fr22 (iT 6 rfl inA_ns); have h26 := mb_o h23; fo h26 (fun _ μ27 e143 h29 => have fr31 : Fr (T_m_read) μ μ27 := Fr.tr (Fr.mono (f_m_plain  e143) (sbc (sa_m 25 rfl) (sbc (sa_m 33 rfl) (sbc (sa_m 37 rfl) (sbc (sa_m 38 rfl) (sbc (sa_m 39 rfl) (sbc (sa_m 41 rfl) (sbc (sa_m 42 rfl) sbn)))))))) (Fr.stI fr25 (iT 7 rfl inA_ns)); (let μ32 : Mem := stI μ27 55 0 36 ((nI 130) * (mI μ27 55 0 19)); have fr33 : Fr (T_m_read) μ μ32 := Fr.stI fr31 (iT 8 rfl inA_ns); have h34 := mb_o h29; (let μ35 : Mem := stI μ32 55 0 42 ((nI 420) * (mI μ32 55 0 19)); have fr36 : Fr (T_m_read) μ μ35 := Fr.stI fr33 (iT 9 rfl inA_ns); have h37 := mb_o h34; f_m_read_L112 h37 fr36 (sbc (sa_m 25 rfl) (sbc (sa_m 26 rfl) (sbc (sa_m 27 rfl) (sbc (sa_m 7 rfl) (sbc (sa_m 4 rfl) (sbc (sa_m 28 rfl) (sbc (sa_m 2 rfl) (sbc (sa_m 5 rfl) (sbc (sa_m 29 rfl) (sbc (sa_m 30 rfl) (sbc (sa_m 31 rfl) (sbc (sa_m 32 rfl) (sbc (sa_m 33 rfl) (sbc (sa_m 34 rfl) (sbc (sa_m 35 rfl) (sbc (sa_m 36 rfl) (sbc (sa_m 37 rfl) (sbc (sa_m 38 rfl) (sbc (sa_m 39 rfl) (sbc (sa_m 40 rfl) (sbc (sa_m 41 rfl) (sbc (sa_m 42 rfl) (sbc (sa_m 43 rfl) (sbc (sa_m 44 rfl) (sbc (sa_m 8 rfl) (sbc (sa_m 45 rfl) (sbc (sa_m 46 rfl) (sbc (sa_m 47 rfl) (sbc (sa_m 9 rfl) (sbc (sa_m 48 rfl) (sbc (sa_m 3 rfl) (sbc (sa_m 49 rfl) (sbc (sa_m 50 rfl) sbn)))))))))))))))))))))))))))))))))  (fun  μ56 _ h58 fr59 => fi h58 (fun h61 => fi h61 (fun h64 => fi h64 (fun h67 => fi h67 (fun h70 => (let μ72 : Mem := stI (stI μ56 55 0 17 (-1 : Int32)) 55 0 18 (mI (stI μ56 55 0 17 (-1 : Int32)) 55 0 19); have fr73 : Fr (T_m_read) μ μ72 := Fr.stI (Fr.stI fr59 (iT 10 rfl inA_ns)) (iT 11 rfl inA_ns); have h74 := mb_o h70; fo h74 (fun _ μ75 e94 h77 => have fr79 : Fr (T_m_read) μ μ75 := Fr.tr (Fr.mono (f_m_begins  e94) (sbc (sa_m 16 rfl) (sbc (sa_m 17 rfl) (sbc (sa_m 18 rfl) (sbc (sa_m 19 rfl) (sbc (sa_m 20 rfl) (sbc (sa_m 21 rfl) (sbc (sa_m 22 rfl) (sbc (sa_m 23 rfl) (sbc (sa_m 24 rfl) sbn)))))))))) fr73; fo h77 (fun _ μ80 e93 h82 => have fr84 : Fr (T_m_read) μ μ80 := Fr.tr (Fr.mono (f_m_keepsRow  e93) (sbc (sa_m 15 rfl) sbn)) fr79; (let μ85 : Mem := stI (stI μ80 55 0 61 (nI 0)) 55 0 67 (nI 0); have fr86 : Fr (T_m_read) μ μ85 := Fr.stI (Fr.stI fr84 (iT 12 rfl inA_ns)) (iT 13 rfl inA_ns); have h87 := mb_o h82; f_m_read_L219 h87 fr86 (sbc (sa_m 14 rfl) sbn)  ))))) (fun h71 => fr_ret h71 (Fr.stI fr59 (iT 10 rfl inA_ns)))) (fun h68 => fr_ret h68 (Fr.stI fr59 (iT 10 rfl inA_ns)))) (fun h65 => fi h65 (fun h96 => fi h96 (fun h99 => (let μ101 : Mem := stI (stI μ56 55 0 17 (mI μ56 55 0 16)) 55 0 18 (mI (stI μ56 55 0 17 (mI μ56 55 0 16)) 55 0 19); have fr102 : Fr (T_m_read) μ μ101 := Fr.stI (Fr.stI fr59 (iT 10 rfl inA_ns)) (iT 11 rfl inA_ns); have h103 := mb_o h99; fo h103 (fun _ μ104 e118 h106 => have fr108 : Fr (T_m_read) μ μ104 := Fr.tr (Fr.mono (f_m_begins  e118) (sbc (sa_m 16 rfl) (sbc (sa_m 17 rfl) (sbc (sa_m 18 rfl) (sbc (sa_m 19 rfl) (sbc (sa_m 20 rfl) (sbc (sa_m 21 rfl) (sbc (sa_m 22 rfl) (sbc (sa_m 23 rfl) (sbc (sa_m 24 rfl) sbn)))))))))) fr102; fo h106 (fun _ μ109 e117 h111 => have fr113 : Fr (T_m_read) μ μ109 := Fr.tr (Fr.mono (f_m_keepsRow  e117) (sbc (sa_m 15 rfl) sbn)) fr108; (let μ114 : Mem := stI (stI μ109 55 0 61 (nI 0)) 55 0 67 (nI 0); have fr115 : Fr (T_m_read) μ μ114 := Fr.stI (Fr.stI fr113 (iT 12 rfl inA_ns)) (iT 13 rfl inA_ns); have h116 := mb_o h111; f_m_read_L219 h116 fr115 (sbc (sa_m 14 rfl) sbn)  ))))) (fun h100 => fr_ret h100 (Fr.stI fr59 (iT 10 rfl inA_ns)))) (fun h97 => fr_ret h97 (Fr.stI fr59 (iT 10 rfl inA_ns))))) (fun h62 => fi h62 (fun h120 => fi h120 (fun h123 => (let μ125 : Mem := stI (stI μ56 55 0 17 (mI μ56 55 0 14)) 55 0 18 (mI (stI μ56 55 0 17 (mI μ56 55 0 14)) 55 0 19); have fr126 : Fr (T_m_read) μ μ125 := Fr.stI (Fr.stI fr59 (iT 10 rfl inA_ns)) (iT 11 rfl inA_ns); have h127 := mb_o h123; fo h127 (fun _ μ128 e142 h130 => have fr132 : Fr (T_m_read) μ μ128 := Fr.tr (Fr.mono (f_m_begins  e142) (sbc (sa_m 16 rfl) (sbc (sa_m 17 rfl) (sbc (sa_m 18 rfl) (sbc (sa_m 19 rfl) (sbc (sa_m 20 rfl) (sbc (sa_m 21 rfl) (sbc (sa_m 22 rfl) (sbc (sa_m 23 rfl) (sbc (sa_m 24 rfl) sbn)))))))))) fr126; fo h130 (fun _ μ133 e141 h135 => have fr137 : Fr (T_m_read) μ μ133 := Fr.tr (Fr.mono (f_m_keepsRow  e141) (sbc (sa_m 15 rfl) sbn)) fr132; (let μ138 : Mem := stI (stI μ133 55 0 61 (nI 0)) 55 0 67 (nI 0); have fr139 : Fr (T_m_read) μ μ138 := Fr.stI (Fr.stI fr137 (iT 12 rfl inA_ns)) (iT 13 rfl inA_ns); have h140 := mb_o h135; f_m_read_L219 h140 fr139 (sbc (sa_m 14 rfl) sbn)  ))))) (fun h124 => fr_ret h124 (Fr.stI fr59 (iT 10 rfl inA_ns)))) (fun h121 => fr_ret h121 (Fr.stI fr59 (iT 10 rfl inA_ns)))))))))))))
def T_m_place : List At := []
theorem f_m_place {μ : Mem}   {z : Int32 × Mem} (h : m_place  μ = some z) : Fr (T_m_place) μ z.2 := by
  unfold m_place at h
  exact fr_ret h (Fr.rf (T_m_place) μ)
def T_m_termOf_L5 : List At := [(87, none, none), (55, none, some 49)]
theorem f_m_termOf_L5 {μ0 : Mem} {T : List At} {x2 : Int32}   {x3 : Int32} {x4 : Int32} {μ : Mem} {z : Int32 × Mem} (h : m_termOf_L5 x2 x3 x4 μ = some z) (fr : Fr T μ0 μ) (hT : Sb (T_m_termOf_L5) T)   : Fr T μ0 z.2 := by
  have key : ∀ (n : Nat), (∀ (x3 : Int32) (x4 : Int32) (μ : Mem) z, fixN (fun _ _ _ => none) (m_termOf_B5 x2) n x3 x4 μ = some z → Fr T μ0 μ → Fr T μ0 z.2) := by
    intro n
    refine fixN_ind (fun (f : Int32 → Int32 → Mem → Option (Int32 × Mem)) => ∀ (x3 : Int32) (x4 : Int32) (μ : Mem) z, f x3 x4 μ = some z → Fr T μ0 μ → Fr T μ0 z.2) ?_ ?_ n
    · intro x3 x4 μ z h; cases h
    · intro self hself x3 x4 μ z h fr
      unfold m_termOf_B5 at h
      exact fi h (fun h2 => fr_ret h2 fr) (fun h3 => (have h5 := fgv h3; fi h5 (fun h7 => (have h10 := fgv h7; (let v11 : Int32 := (mI μ 87 0 (cl ((x3 + (-1 : Int32)) - (nI 1)))); have h12 := vb_o h10; ((have h14 := fgv h12; fi h14 (fun h17 => fi h17 (fun h43 => fr_ret h43 (Fr.stI fr (hT _ _ _ (iT 1 rfl inA_ns)))) (fun h42 => fi h42 (fun h46 => (let μ64 : Mem := stI μ 87 0 (cl ((x3 + (-1 : Int32)) - (nI 1))) (v11 + (mI μ 87 0 (cl (x3 + (-1 : Int32))))); have fr65 : Fr T μ0 μ64 := Fr.stI fr (hT _ _ _ (iT 0 rfl inA_nn)); have h66 := mb_o h46; hself _ _ _ _ h66 fr65)) (fun h45 => fi h45 (fun h49 => (let μ61 : Mem := stI μ 87 0 (cl ((x3 + (-1 : Int32)) - (nI 1))) (v11 - (mI μ 87 0 (cl (x3 + (-1 : Int32))))); have fr62 : Fr T μ0 μ61 := Fr.stI fr (hT _ _ _ (iT 0 rfl inA_nn)); have h63 := mb_o h49; hself _ _ _ _ h63 fr62)) (fun h48 => fi h48 (fun h52 => (let μ58 : Mem := stI μ 87 0 (cl ((x3 + (-1 : Int32)) - (nI 1))) (v11 * (mI μ 87 0 (cl (x3 + (-1 : Int32))))); have fr59 : Fr T μ0 μ58 := Fr.stI fr (hT _ _ _ (iT 0 rfl inA_nn)); have h60 := mb_o h52; hself _ _ _ _ h60 fr59)) (fun h51 => (have h54 := fgv h51; (let μ55 : Mem := stI μ 87 0 (cl ((x3 + (-1 : Int32)) - (nI 1))) (v11 / (mI μ 87 0 (cl (x3 + (-1 : Int32))))); have fr56 : Fr T μ0 μ55 := Fr.stI fr (hT _ _ _ (iT 0 rfl inA_nn)); have h57 := mb_o h54; hself _ _ _ _ h57 fr56))))))) (fun h16 => fi h16 (fun h20 => (let μ38 : Mem := stI μ 87 0 (cl ((x3 + (-1 : Int32)) - (nI 1))) (v11 + (mI μ 87 0 (cl (x3 + (-1 : Int32))))); have fr39 : Fr T μ0 μ38 := Fr.stI fr (hT _ _ _ (iT 0 rfl inA_nn)); have h40 := mb_o h20; hself _ _ _ _ h40 fr39)) (fun h19 => fi h19 (fun h23 => (let μ35 : Mem := stI μ 87 0 (cl ((x3 + (-1 : Int32)) - (nI 1))) (v11 - (mI μ 87 0 (cl (x3 + (-1 : Int32))))); have fr36 : Fr T μ0 μ35 := Fr.stI fr (hT _ _ _ (iT 0 rfl inA_nn)); have h37 := mb_o h23; hself _ _ _ _ h37 fr36)) (fun h22 => fi h22 (fun h26 => (let μ32 : Mem := stI μ 87 0 (cl ((x3 + (-1 : Int32)) - (nI 1))) (v11 * (mI μ 87 0 (cl (x3 + (-1 : Int32))))); have fr33 : Fr T μ0 μ32 := Fr.stI fr (hT _ _ _ (iT 0 rfl inA_nn)); have h34 := mb_o h26; hself _ _ _ _ h34 fr33)) (fun h25 => (have h28 := fgv h25; (let μ29 : Mem := stI μ 87 0 (cl ((x3 + (-1 : Int32)) - (nI 1))) (v11 / (mI μ 87 0 (cl (x3 + (-1 : Int32))))); have fr30 : Fr T μ0 μ29 := Fr.stI fr (hT _ _ _ (iT 0 rfl inA_nn)); have h31 := mb_o h28; hself _ _ _ _ h31 fr30))))))))))) (fun h8 => fi h8 (fun h69 => (have h78 := fgv h69; hself _ _ _ _ h78 (Fr.stI fr (hT _ _ _ (iT 0 rfl inA_nn))))) (fun h68 => (have h71 := fgv h68; (have h73 := fgv h71; (let μ74 : Mem := stI μ 87 0 (cl x3) (mI μ 86 0 (cl (mI μ 84 0 (cl x4)))); have fr75 : Fr T μ0 μ74 := Fr.stI fr (hT _ _ _ (iT 0 rfl inA_nn)); have h76 := mb_o h73; hself _ _ _ _ h76 fr75)))))))
  exact key 60000 _ _ _ _ h fr
def T_m_termOf : List At := [(87, none, none), (55, none, some 49)]
theorem f_m_termOf {μ : Mem} {x1 : Int32} {x2 : Int32}  {z : Int32 × Mem} (h : m_termOf x1 x2 μ = some z) : Fr (T_m_termOf) μ z.2 := by
  unfold m_termOf at h
  exact f_m_termOf_L5 h (Fr.rf (T_m_termOf) μ) (sbc (sa_m 0 rfl) (sbc (sa_m 1 rfl) sbn))  
def T_m_in : List At := []
theorem f_m_in {μ : Mem} {x0 : Int32} {x1 : Int32} {x2 : Int32}  {z : Int32 × Mem} (h : m_in x0 x1 x2 μ = some z) : Fr (T_m_in) μ z.2 := by
  unfold m_in at h
  exact fi h (fun h2 => fr_ret h2 (Fr.rf (T_m_in) μ)) (fun h3 => fi h3 (fun h5 => fr_ret h5 (Fr.rf (T_m_in) μ)) (fun h6 => fr_ret h6 (Fr.rf (T_m_in) μ)))
def T_m_within : List At := []
theorem f_m_within {μ : Mem} {x0 : Int32} {x1 : Int32} {x2 : Int32}  {z : Int32 × Mem} (h : m_within x0 x1 x2 μ = some z) : Fr (T_m_within) μ z.2 := by
  unfold m_within at h
  exact fi h (fun h2 => fi h2 (fun h5 => fr_ret h5 (Fr.rf (T_m_within) μ)) (fun h6 => fr_ret h6 (Fr.rf (T_m_within) μ))) (fun h3 => fr_ret h3 (Fr.rf (T_m_within) μ))
def T_m_bits_L4 : List At := []
theorem f_m_bits_L4 {μ0 : Mem} {T : List At} {x0 : Int32}   {x1 : Int32} {x2 : Int32} {μ : Mem} {z : Int32 × Mem} (h : m_bits_L4 x0 x1 x2 μ = some z) (fr : Fr T μ0 μ) (hT : Sb (T_m_bits_L4) T)   : Fr T μ0 z.2 := by
  have key : ∀ (n : Nat), (∀ (x1 : Int32) (x2 : Int32) (μ : Mem) z, fixN (fun _ _ _ => none) (m_bits_B4 x0) n x1 x2 μ = some z → Fr T μ0 μ → Fr T μ0 z.2) := by
    intro n
    refine fixN_ind (fun (f : Int32 → Int32 → Mem → Option (Int32 × Mem)) => ∀ (x1 : Int32) (x2 : Int32) (μ : Mem) z, f x1 x2 μ = some z → Fr T μ0 μ → Fr T μ0 z.2) ?_ ?_ n
    · intro x1 x2 μ z h; cases h
    · intro self hself x1 x2 μ z h fr
      unfold m_bits_B4 at h
      exact fi h (fun h2 => fr_ret h2 fr) (fun h3 => (let v4 : Int32 := (x1 + ((x0 >>> (x2 &&& 31)) &&& (nI 1))); have h5 := vb_o h3; (hself _ _ _ _ h5 fr)))
  exact key 60000 _ _ _ _ h fr
def T_m_bits : List At := []
theorem f_m_bits {μ : Mem} {x0 : Int32}  {z : Int32 × Mem} (h : m_bits x0 μ = some z) : Fr (T_m_bits) μ z.2 := by
  unfold m_bits at h
  exact f_m_bits_L4 h (Fr.rf (T_m_bits) μ) sbn  
def T_m_isLog : List At := []
theorem f_m_isLog {μ : Mem} {x1 : Int32}  {z : Int32 × Mem} (h : m_isLog x1 μ = some z) : Fr (T_m_isLog) μ z.2 := by
  unfold m_isLog at h
  exact (have h2 := fgv h; fo h2 (fun r6 μ3 e10 h5 => have fr7 : Fr (T_m_isLog) μ μ3 := Fr.tr (Fr.mono (f_m_in  e10) sbn) (Fr.rf (T_m_isLog) μ); (have h9 := fgv h5; fr_ret h9 fr7)))
def T_m_isField : List At := []
theorem f_m_isField {μ : Mem} {x1 : Int32}  {z : Int32 × Mem} (h : m_isField x1 μ = some z) : Fr (T_m_isField) μ z.2 := by
  unfold m_isField at h
  exact (have h2 := fgv h; fo h2 (fun r6 μ3 e10 h5 => have fr7 : Fr (T_m_isField) μ μ3 := Fr.tr (Fr.mono (f_m_in  e10) sbn) (Fr.rf (T_m_isField) μ); (have h9 := fgv h5; fr_ret h9 fr7)))
def T_m_isNotch : List At := []
theorem f_m_isNotch {μ : Mem} {x1 : Int32}  {z : Int32 × Mem} (h : m_isNotch x1 μ = some z) : Fr (T_m_isNotch) μ z.2 := by
  unfold m_isNotch at h
  exact (have h2 := fgv h; fo h2 (fun r6 μ3 e10 h5 => have fr7 : Fr (T_m_isNotch) μ μ3 := Fr.tr (Fr.mono (f_m_in  e10) sbn) (Fr.rf (T_m_isNotch) μ); (have h9 := fgv h5; fr_ret h9 fr7)))
def T_m_copies_L2 : List At := [(89, none, none)]
theorem f_m_copies_L2 {μ0 : Mem} {T : List At}   {k26 : Mem → Option (Unit × Mem)} {x1 : Int32} {μ : Mem} {z : Unit × Mem} (h : m_copies_L2 k26 x1 μ = some z) (fr : Fr T μ0 μ) (hT : Sb (T_m_copies_L2) T)  (hk26 : ∀  (μ : Mem) z, k26  μ = some z → Fr T μ0 μ → Fr T μ0 z.2) : Fr T μ0 z.2 := by
  have key : ∀ (n : Nat), (∀ (x1 : Int32) (μ : Mem) z, fixN (fun _ _ => none) (m_copies_B2 k26) n x1 μ = some z → Fr T μ0 μ → Fr T μ0 z.2) := by
    intro n
    refine fixN_ind (fun (f : Int32 → Mem → Option (Unit × Mem)) => ∀ (x1 : Int32) (μ : Mem) z, f x1 μ = some z → Fr T μ0 μ → Fr T μ0 z.2) ?_ ?_ n
    · intro x1 μ z h; cases h
    · intro self hself x1 μ z h fr
      unfold m_copies_B2 at h
      exact fi h (fun h2 => hk26 _ _ h2 fr) (fun h3 => (have h5 := fgv h3; hself _ _ _ h5 (Fr.stI fr (hT _ _ _ (iT 0 rfl inA_nn)))))
  exact key 60000 _ _ _ h fr
def T_m_copies : List At := [(55, none, some 52), (55, none, some 53), (55, none, some 56), (55, none, some 57), (92, none, none), (93, none, none), (90, none, none), (91, none, none), (89, none, none)]
theorem f_m_copies {μ : Mem}   {z : Unit × Mem} (h : m_copies  μ = some z) : Fr (T_m_copies) μ z.2 := by
  unfold m_copies at h
  exact f_m_copies_L2 h (Fr.rf (T_m_copies) μ) (sbc (sa_m 8 rfl) sbn)  (fun  μ6 _ h8 fr9 => (have h11 := fgv h8; (let μ12 : Mem := stI μ6 55 0 52 (mI μ6 75 0 (cl (mI μ6 55 0 18))); have fr13 : Fr (T_m_copies) μ μ12 := Fr.stI fr9 (iT 0 rfl inA_ns); have h14 := mb_o h11; fo h14 (fun _ μ15 e20 h17 => have fr19 : Fr (T_m_copies) μ μ15 := Fr.tr (Fr.mono (f_m_parts  e20) (sbc (sa_m 2 rfl) (sbc (sa_m 3 rfl) (sbc (sa_m 4 rfl) (sbc (sa_m 5 rfl) (sbc (sa_m 6 rfl) (sbc (sa_m 7 rfl) sbn))))))) (Fr.stI fr13 (iT 1 rfl inA_ns)); fr_ret h17 fr19))))
def T_m_mixed : List At := []
theorem f_m_mixed {μ : Mem} {x0 : Int32} {x1 : Int32}  {z : Int32 × Mem} (h : m_mixed x0 x1 μ = some z) : Fr (T_m_mixed) μ z.2 := by
  unfold m_mixed at h
  exact (let v1 : Int32 := (((x0 ^^^ x1) * (nI 1103515245)) + (nI 12345)); have h2 := vb_o h; (fr_ret h2 (Fr.rf (T_m_mixed) μ)))
def T_m_lotOf : List At := []
theorem f_m_lotOf {μ : Mem} {x1 : Int32}  {z : Int32 × Mem} (h : m_lotOf x1 μ = some z) : Fr (T_m_lotOf) μ z.2 := by
  unfold m_lotOf at h
  exact fo h (fun r4 μ1 e12 h3 => have fr5 : Fr (T_m_lotOf) μ μ1 := Fr.tr (Fr.mono (f_m_mixed  e12) sbn) (Fr.rf (T_m_lotOf) μ); fo h3 (fun r9 μ6 e11 h8 => have fr10 : Fr (T_m_lotOf) μ μ6 := Fr.tr (Fr.mono (f_m_mixed  e11) sbn) fr5; fr_ret h8 fr10))
def T_m_common_L6 : List At := []
theorem f_m_common_L6 {μ0 : Mem} {T : List At}    {x4 : Int64} {x6 : Int64} {μ : Mem} {z : Int64 × Mem} (h : m_common_L6  x4 x6 μ = some z) (fr : Fr T μ0 μ) (hT : Sb (T_m_common_L6) T)   : Fr T μ0 z.2 := by
  have key : ∀ (n : Nat), (∀ (x4 : Int64) (x6 : Int64) (μ : Mem) z, fixN (fun _ _ _ => none) (m_common_B6 ) n x4 x6 μ = some z → Fr T μ0 μ → Fr T μ0 z.2) := by
    intro n
    refine fixN_ind (fun (f : Int64 → Int64 → Mem → Option (Int64 × Mem)) => ∀ (x4 : Int64) (x6 : Int64) (μ : Mem) z, f x4 x6 μ = some z → Fr T μ0 μ → Fr T μ0 z.2) ?_ ?_ n
    · intro x4 x6 μ z h; cases h
    · intro self hself x4 x6 μ z h fr
      unfold m_common_B6 at h
      exact fi h (fun h2 => fr_ret h2 fr) (fun h3 => (have h5 := fgv h3; hself _ _ _ _ h5 fr))
  exact key 60000 _ _ _ _ h fr
def T_m_common : List At := []
theorem f_m_common {μ : Mem} {x0 : Int64} {x2 : Int64}  {z : Int64 × Mem} (h : m_common x0 x2 μ = some z) : Fr (T_m_common) μ z.2 := by
  unfold m_common at h
  exact f_m_common_L6 h (Fr.rf (T_m_common) μ) sbn  
def T_m_termOfTwo : List At := []
theorem f_m_termOfTwo {μ : Mem} {x1 : Int64} {x3 : Int32}  {z : Int32 × Mem} (h : m_termOfTwo x1 x3 μ = some z) : Fr (T_m_termOfTwo) μ z.2 := by
  unfold m_termOfTwo at h
  exact fi h (fun h2 => fo h2 (fun r7 μ4 e16 h6 => have fr8 : Fr (T_m_termOfTwo) μ μ4 := Fr.tr (Fr.mono (f_m_common  e16) sbn) (Fr.rf (T_m_termOfTwo) μ); fi h6 (fun h11 => (have h15 := fgv h11; fr_ret h15 fr8)) (fun h10 => (have h13 := fgv h10; fr_ret h13 fr8)))) (fun h3 => fr_ret h3 (Fr.rf (T_m_termOfTwo) μ))
def T_m_logOver : List At := []
theorem f_m_logOver {μ : Mem} {x1 : Int32}  {z : Int64 × Mem} (h : m_logOver x1 μ = some z) : Fr (T_m_logOver) μ z.2 := by
  unfold m_logOver at h
  exact (have h2 := fgv h; fi h2 (fun h5 => fr_ret h5 (Fr.rf (T_m_logOver) μ)) (fun h4 => fr_ret h4 (Fr.rf (T_m_logOver) μ)))
def T_m_fieldOver_L5 : List At := []
theorem f_m_fieldOver_L5 {μ0 : Mem} {T : List At} {x1 : Int32}   {x2 : Int64} {x4 : Int32} {μ : Mem} {z : Int64 × Mem} (h : m_fieldOver_L5 x1 x2 x4 μ = some z) (fr : Fr T μ0 μ) (hT : Sb (T_m_fieldOver_L5) T)   : Fr T μ0 z.2 := by
  have key : ∀ (n : Nat), (∀ (x2 : Int64) (x4 : Int32) (μ : Mem) z, fixN (fun _ _ _ => none) (m_fieldOver_B5 x1) n x2 x4 μ = some z → Fr T μ0 μ → Fr T μ0 z.2) := by
    intro n
    refine fixN_ind (fun (f : Int64 → Int32 → Mem → Option (Int64 × Mem)) => ∀ (x2 : Int64) (x4 : Int32) (μ : Mem) z, f x2 x4 μ = some z → Fr T μ0 μ → Fr T μ0 z.2) ?_ ?_ n
    · intro x2 x4 μ z h; cases h
    · intro self hself x2 x4 μ z h fr
      unfold m_fieldOver_B5 at h
      exact (have h2 := fgv h; fi h2 (fun h4 => fr_ret h4 fr) (fun h5 => fo h5 (fun r9 μ6 e30 h8 => have fr10 : Fr T μ0 μ6 := Fr.tr (Fr.mono (f_m_toWhere  e30) (sbt sbn hT)) fr; fi h8 (fun h13 => fo h13 (fun r17 μ14 e29 h16 => have fr18 : Fr T μ0 μ14 := Fr.tr (Fr.mono (f_m_wideAt  e29) (sbt sbn hT)) fr10; fo h16 (fun r22 μ19 e28 h21 => have fr23 : Fr T μ0 μ19 := Fr.tr (Fr.mono (f_m_fromLog  e28) (sbt sbn hT)) fr18; (have h25 := fgv h21; (let v26 : Int64 := (x2 + ((Int32.toInt64 ((nI 4) * r17)) * (mL μ19 92 0 (cl r22)))); have h27 := vb_o h25; (hself _ _ _ _ h27 fr23)))))) (fun h12 => hself _ _ _ _ h12 fr10))))
  exact key 60000 _ _ _ _ h fr
def T_m_fieldOver : List At := []
theorem f_m_fieldOver {μ : Mem} {x1 : Int32}  {z : Int64 × Mem} (h : m_fieldOver x1 μ = some z) : Fr (T_m_fieldOver) μ z.2 := by
  unfold m_fieldOver at h
  exact f_m_fieldOver_L5 h (Fr.rf (T_m_fieldOver) μ) sbn  
def T_m_widthsTo_L4 : List At := []
theorem f_m_widthsTo_L4 {μ0 : Mem} {T : List At} {x1 : Int32}   {x2 : Int32} {x3 : Int32} {μ : Mem} {z : Int32 × Mem} (h : m_widthsTo_L4 x1 x2 x3 μ = some z) (fr : Fr T μ0 μ) (hT : Sb (T_m_widthsTo_L4) T)   : Fr T μ0 z.2 := by
  have key : ∀ (n : Nat), (∀ (x2 : Int32) (x3 : Int32) (μ : Mem) z, fixN (fun _ _ _ => none) (m_widthsTo_B4 x1) n x2 x3 μ = some z → Fr T μ0 μ → Fr T μ0 z.2) := by
    intro n
    refine fixN_ind (fun (f : Int32 → Int32 → Mem → Option (Int32 × Mem)) => ∀ (x2 : Int32) (x3 : Int32) (μ : Mem) z, f x2 x3 μ = some z → Fr T μ0 μ → Fr T μ0 z.2) ?_ ?_ n
    · intro x2 x3 μ z h; cases h
    · intro self hself x2 x3 μ z h fr
      unfold m_widthsTo_B4 at h
      exact (have h2 := fgv h; fi h2 (fun h4 => fr_ret h4 fr) (fun h5 => fo h5 (fun r9 μ6 e20 h8 => have fr10 : Fr T μ0 μ6 := Fr.tr (Fr.mono (f_m_toWhere  e20) (sbt sbn hT)) fr; fi h8 (fun h13 => fo h13 (fun r17 μ14 e19 h16 => have fr18 : Fr T μ0 μ14 := Fr.tr (Fr.mono (f_m_wideAt  e19) (sbt sbn hT)) fr10; hself _ _ _ _ h16 fr18)) (fun h12 => hself _ _ _ _ h12 fr10))))
  exact key 60000 _ _ _ _ h fr
def T_m_widthsTo : List At := []
theorem f_m_widthsTo {μ : Mem} {x1 : Int32}  {z : Int32 × Mem} (h : m_widthsTo x1 μ = some z) : Fr (T_m_widthsTo) μ z.2 := by
  unfold m_widthsTo at h
  exact f_m_widthsTo_L4 h (Fr.rf (T_m_widthsTo) μ) sbn  
def T_m_flowOf : List At := []
theorem f_m_flowOf {μ : Mem} {x1 : Int32}  {z : Int32 × Mem} (h : m_flowOf x1 μ = some z) : Fr (T_m_flowOf) μ z.2 := by
  unfold m_flowOf at h
  exact fi h (fun h2 => fo h2 (fun r7 μ4 e11 h6 => have fr8 : Fr (T_m_flowOf) μ μ4 := Fr.tr (Fr.mono (f_m_fieldOver  e11) sbn) (Fr.rf (T_m_flowOf) μ); (have h10 := fgv h6; fr_ret h10 fr8))) (fun h3 => fr_ret h3 (Fr.rf (T_m_flowOf) μ))
def T_m_lawTells_L39 : List At := [(87, none, none), (55, none, some 49)]
theorem f_m_lawTells_L39 {μ0 : Mem} {T : List At} {x3 : Int32}  {k119 : Int32 → Mem → Option (Int32 × Mem)} {x4 : Int32} {μ : Mem} {z : Int32 × Mem} (h : m_lawTells_L39 x3 k119 x4 μ = some z) (fr : Fr T μ0 μ) (hT : Sb (T_m_lawTells_L39) T)  (hk119 : ∀ (x4 : Int32) (μ : Mem) z, k119 x4 μ = some z → Fr T μ0 μ → Fr T μ0 z.2) : Fr T μ0 z.2 := by
  have key : ∀ (n : Nat), (∀ (x4 : Int32) (μ : Mem) z, fixN (fun _ _ => none) (m_lawTells_B39 x3 k119) n x4 μ = some z → Fr T μ0 μ → Fr T μ0 z.2) := by
    intro n
    refine fixN_ind (fun (f : Int32 → Mem → Option (Int32 × Mem)) => ∀ (x4 : Int32) (μ : Mem) z, f x4 μ = some z → Fr T μ0 μ → Fr T μ0 z.2) ?_ ?_ n
    · intro x4 μ z h; cases h
    · intro self hself x4 μ z h fr
      unfold m_lawTells_B39 at h
      exact (have h9 := fgv h; fi h9 (fun h11 => fr_ret h11 fr) (fun h12 => (have h14 := fgv h12; fi h14 (fun h16 => hk119 _ _ _ h16 fr) (fun h17 => fo h17 (fun r21 μ18 e35 h20 => have fr22 : Fr T μ0 μ18 := Fr.tr (Fr.mono (f_m_termOf  e35) (sbt (sbc (sa_m 0 rfl) (sbc (sa_m 1 rfl) sbn)) hT)) fr; fo h20 (fun r26 μ23 e34 h25 => have fr27 : Fr T μ0 μ23 := Fr.tr (Fr.mono (f_m_termOf  e34) (sbt (sbc (sa_m 0 rfl) (sbc (sa_m 1 rfl) sbn)) hT)) fr22; fi h25 (fun h29 => fi h29 (fun h32 => hk119 _ _ _ h32 fr27) (fun h33 => hself _ _ _ h33 fr27)) (fun h30 => fr_ret h30 fr27)))))))
  exact key 60000 _ _ _ h fr
def T_m_lawTells : List At := [(55, none, some 49), (87, none, none)]
theorem f_m_lawTells {μ : Mem} {x1 : Int32} {x2 : Int32}  {z : Int32 × Mem} (h : m_lawTells x1 x2 μ = some z) : Fr (T_m_lawTells) μ z.2 := by
  unfold m_lawTells at h
  exact (have h2 := fgv h; fi h2 (fun h5 => fr_ret h5 (Fr.rf (T_m_lawTells) μ)) (fun h4 => (let v6 : Int32 := (mI (stI μ 55 0 49 (nI 0)) 76 0 (cl (((nI 4) * (mI μ 55 0 18)) + x1))); have h7 := vb_o h4; (f_m_lawTells_L39 h7 (Fr.stI (Fr.rf (T_m_lawTells) μ) (iT 0 rfl inA_ns)) (sbc (sa_m 1 rfl) (sbc (sa_m 0 rfl) sbn))  (fun x36 μ37 _ h39 fr40 => (have h42 := fgv h39; fo h42 (fun r46 μ43 e51 h45 => have fr47 : Fr (T_m_lawTells) μ μ43 := Fr.tr (Fr.mono (f_m_termOf  e51) (sbc (sa_m 1 rfl) (sbc (sa_m 0 rfl) sbn))) fr40; fi h45 (fun h49 => fr_ret h49 fr47) (fun h50 => fr_ret h50 fr47))))))))
def T_m_views : List At := [(86, none, none)]
theorem f_m_views {μ : Mem} {x1 : Int32} {x2 : Int32}  {z : Unit × Mem} (h : m_views x1 x2 μ = some z) : Fr (T_m_views) μ z.2 := by
  unfold m_views at h
  exact (let μ1 : Mem := stI (stI (stI μ 86 0 0 (nI 0)) 86 0 1 (nI 0)) 86 0 2 x2; have fr2 : Fr (T_m_views) μ μ1 := Fr.stI (Fr.stI (Fr.stI (Fr.rf (T_m_views) μ) (iT 0 rfl inA_nn)) (iT 0 rfl inA_nn)) (iT 0 rfl inA_nn); have h3 := mb_o h; (let μ4 : Mem := stI (stI μ1 86 0 3 (nI 0)) 86 0 4 (mI (stI μ1 86 0 3 (nI 0)) 89 0 31); have fr5 : Fr (T_m_views) μ μ4 := Fr.stI (Fr.stI fr2 (iT 0 rfl inA_nn)) (iT 0 rfl inA_nn); have h6 := mb_o h3; (have h8 := fgv h6; (let μ9 : Mem := stI (stI (stI μ4 86 0 5 x1) 86 0 6 (nI 0)) 86 0 7 (mI (stI (stI μ4 86 0 5 x1) 86 0 6 (nI 0)) 65 0 (cl (mI (stI (stI μ4 86 0 5 x1) 86 0 6 (nI 0)) 55 0 18))); have fr10 : Fr (T_m_views) μ μ9 := Fr.stI (Fr.stI (Fr.stI fr5 (iT 0 rfl inA_nn)) (iT 0 rfl inA_nn)) (iT 0 rfl inA_nn); have h11 := mb_o h8; (have h13 := fgv h11; (let μ14 : Mem := stI μ9 86 0 8 (mI μ9 66 0 (cl (mI μ9 55 0 18))); have fr15 : Fr (T_m_views) μ μ14 := Fr.stI fr10 (iT 0 rfl inA_nn); have h16 := mb_o h13; fr_ret h16 fr15))))))
def T_m_viewsField : List At := [(86, none, none)]
theorem f_m_viewsField {μ : Mem} {x1 : Int32}  {z : Unit × Mem} (h : m_viewsField x1 μ = some z) : Fr (T_m_viewsField) μ z.2 := by
  unfold m_viewsField at h
  exact fo h (fun r4 μ1 e33 h3 => have fr5 : Fr (T_m_viewsField) μ μ1 := Fr.tr (Fr.mono (f_m_widthsTo  e33) sbn) (Fr.rf (T_m_viewsField) μ); fo h3 (fun _ μ6 e32 h8 => have fr10 : Fr (T_m_viewsField) μ μ6 := Fr.tr (Fr.mono (f_m_views  e32) (sbc (sa_m 0 rfl) sbn)) fr5; fo h8 (fun r14 μ11 e31 h13 => have fr15 : Fr (T_m_viewsField) μ μ11 := Fr.tr (Fr.mono (f_m_flowOf  e31) sbn) fr10; (have h17 := fgv h13; (let μ18 : Mem := stI (stI μ11 86 0 0 r14) 86 0 1 (mI (stI μ11 86 0 0 r14) 67 0 (cl (((nI 6) * (mI (stI μ11 86 0 0 r14) 55 0 18)) + x1))); have fr19 : Fr (T_m_viewsField) μ μ18 := Fr.stI (Fr.stI fr15 (iT 0 rfl inA_nn)) (iT 0 rfl inA_nn); have h20 := mb_o h17; (have h22 := fgv h20; (let μ23 : Mem := stI μ18 86 0 3 (mI μ18 89 0 (cl ((nI 12) + x1))); have fr24 : Fr (T_m_viewsField) μ μ23 := Fr.stI fr19 (iT 0 rfl inA_nn); have h25 := mb_o h22; (have h27 := fgv h25; (let μ28 : Mem := stI μ23 86 0 6 (mI μ23 89 0 (cl ((nI 6) + x1))); have fr29 : Fr (T_m_viewsField) μ μ28 := Fr.stI fr24 (iT 0 rfl inA_nn); have h30 := mb_o h27; fr_ret h30 fr29)))))))))
def T_m_needsOf : List At := [(55, none, some 49), (87, none, none), (86, none, none)]
theorem f_m_needsOf {μ : Mem} {x1 : Int32}  {z : Int32 × Mem} (h : m_needsOf x1 μ = some z) : Fr (T_m_needsOf) μ z.2 := by
  unfold m_needsOf at h
  exact fo h (fun _ μ1 e18 h3 => have fr5 : Fr (T_m_needsOf) μ μ1 := Fr.tr (Fr.mono (f_m_viewsField  e18) (sbc (sa_m 2 rfl) sbn)) (Fr.rf (T_m_needsOf) μ); fo h3 (fun r9 μ6 e17 h8 => have fr10 : Fr (T_m_needsOf) μ μ6 := Fr.tr (Fr.mono (f_m_lawTells  e17) (sbc (sa_m 0 rfl) (sbc (sa_m 1 rfl) sbn))) fr5; fo h8 (fun r14 μ11 e16 h13 => have fr15 : Fr (T_m_needsOf) μ μ11 := Fr.tr (Fr.mono (f_m_within  e16) sbn) fr10; fr_ret h13 fr15)))
def T_m_worthOf : List At := [(55, none, some 49), (87, none, none), (86, none, none)]
theorem f_m_worthOf {μ : Mem} {x1 : Int32}  {z : Int32 × Mem} (h : m_worthOf x1 μ = some z) : Fr (T_m_worthOf) μ z.2 := by
  unfold m_worthOf at h
  exact fo h (fun _ μ1 e18 h3 => have fr5 : Fr (T_m_worthOf) μ μ1 := Fr.tr (Fr.mono (f_m_viewsField  e18) (sbc (sa_m 2 rfl) sbn)) (Fr.rf (T_m_worthOf) μ); fo h3 (fun r9 μ6 e17 h8 => have fr10 : Fr (T_m_worthOf) μ μ6 := Fr.tr (Fr.mono (f_m_lawTells  e17) (sbc (sa_m 0 rfl) (sbc (sa_m 1 rfl) sbn))) fr5; fo h8 (fun r14 μ11 e16 h13 => have fr15 : Fr (T_m_worthOf) μ μ11 := Fr.tr (Fr.mono (f_m_within  e16) sbn) fr10; fr_ret h13 fr15)))
def T_m_costsOf : List At := [(55, none, some 49), (87, none, none), (86, none, none)]
theorem f_m_costsOf {μ : Mem} {x1 : Int32}  {z : Int32 × Mem} (h : m_costsOf x1 μ = some z) : Fr (T_m_costsOf) μ z.2 := by
  unfold m_costsOf at h
  exact fo h (fun r4 μ1 e24 h3 => have fr5 : Fr (T_m_costsOf) μ μ1 := Fr.tr (Fr.mono (f_m_wideAt  e24) sbn) (Fr.rf (T_m_costsOf) μ); fo h3 (fun _ μ6 e23 h8 => have fr10 : Fr (T_m_costsOf) μ μ6 := Fr.tr (Fr.mono (f_m_views  e23) (sbc (sa_m 2 rfl) sbn)) fr5; fo h8 (fun r14 μ11 e22 h13 => have fr15 : Fr (T_m_costsOf) μ μ11 := Fr.tr (Fr.mono (f_m_lawTells  e22) (sbc (sa_m 0 rfl) (sbc (sa_m 1 rfl) sbn))) fr10; fo h13 (fun r19 μ16 e21 h18 => have fr20 : Fr (T_m_costsOf) μ μ16 := Fr.tr (Fr.mono (f_m_within  e21) sbn) fr15; fr_ret h18 fr20))))
def T_m_siltsOf : List At := [(55, none, some 49), (87, none, none), (86, none, none)]
theorem f_m_siltsOf {μ : Mem} {x1 : Int32}  {z : Int32 × Mem} (h : m_siltsOf x1 μ = some z) : Fr (T_m_siltsOf) μ z.2 := by
  unfold m_siltsOf at h
  exact fo h (fun r4 μ1 e24 h3 => have fr5 : Fr (T_m_siltsOf) μ μ1 := Fr.tr (Fr.mono (f_m_wideAt  e24) sbn) (Fr.rf (T_m_siltsOf) μ); fo h3 (fun _ μ6 e23 h8 => have fr10 : Fr (T_m_siltsOf) μ μ6 := Fr.tr (Fr.mono (f_m_views  e23) (sbc (sa_m 2 rfl) sbn)) fr5; fo h8 (fun r14 μ11 e22 h13 => have fr15 : Fr (T_m_siltsOf) μ μ11 := Fr.tr (Fr.mono (f_m_lawTells  e22) (sbc (sa_m 0 rfl) (sbc (sa_m 1 rfl) sbn))) fr10; fo h13 (fun r19 μ16 e21 h18 => have fr20 : Fr (T_m_siltsOf) μ μ16 := Fr.tr (Fr.mono (f_m_within  e21) sbn) fr15; fr_ret h18 fr20))))
def T_m_isLacking : List At := [(55, none, some 49), (87, none, none), (86, none, none)]
theorem f_m_isLacking {μ : Mem} {x1 : Int32}  {z : Int32 × Mem} (h : m_isLacking x1 μ = some z) : Fr (T_m_isLacking) μ z.2 := by
  unfold m_isLacking at h
  exact fo h (fun r4 μ1 e15 h3 => have fr5 : Fr (T_m_isLacking) μ μ1 := Fr.tr (Fr.mono (f_m_flowOf  e15) sbn) (Fr.rf (T_m_isLacking) μ); fo h3 (fun r9 μ6 e14 h8 => have fr10 : Fr (T_m_isLacking) μ μ6 := Fr.tr (Fr.mono (f_m_needsOf  e14) (sbc (sa_m 0 rfl) (sbc (sa_m 1 rfl) (sbc (sa_m 2 rfl) sbn)))) fr5; fi h8 (fun h12 => fr_ret h12 fr10) (fun h13 => fr_ret h13 fr10)))
def T_m_lackingBits_L4 : List At := [(55, none, some 49), (87, none, none), (86, none, none)]
theorem f_m_lackingBits_L4 {μ0 : Mem} {T : List At}    {x1 : Int32} {x2 : Int32} {μ : Mem} {z : Int32 × Mem} (h : m_lackingBits_L4  x1 x2 μ = some z) (fr : Fr T μ0 μ) (hT : Sb (T_m_lackingBits_L4) T)   : Fr T μ0 z.2 := by
  have key : ∀ (n : Nat), (∀ (x1 : Int32) (x2 : Int32) (μ : Mem) z, fixN (fun _ _ _ => none) (m_lackingBits_B4 ) n x1 x2 μ = some z → Fr T μ0 μ → Fr T μ0 z.2) := by
    intro n
    refine fixN_ind (fun (f : Int32 → Int32 → Mem → Option (Int32 × Mem)) => ∀ (x1 : Int32) (x2 : Int32) (μ : Mem) z, f x1 x2 μ = some z → Fr T μ0 μ → Fr T μ0 z.2) ?_ ?_ n
    · intro x1 x2 μ z h; cases h
    · intro self hself x1 x2 μ z h fr
      unfold m_lackingBits_B4 at h
      exact (have h2 := fgv h; fi h2 (fun h4 => fr_ret h4 fr) (fun h5 => fo h5 (fun r9 μ6 e14 h8 => have fr10 : Fr T μ0 μ6 := Fr.tr (Fr.mono (f_m_isLacking  e14) (sbt (sbc (sa_m 0 rfl) (sbc (sa_m 1 rfl) (sbc (sa_m 2 rfl) sbn))) hT)) fr; fi h8 (fun h12 => hself _ _ _ _ h12 fr10) (fun h13 => hself _ _ _ _ h13 fr10))))
  exact key 60000 _ _ _ _ h fr
def T_m_lackingBits : List At := [(55, none, some 49), (87, none, none), (86, none, none)]
theorem f_m_lackingBits {μ : Mem}   {z : Int32 × Mem} (h : m_lackingBits  μ = some z) : Fr (T_m_lackingBits) μ z.2 := by
  unfold m_lackingBits at h
  exact f_m_lackingBits_L4 h (Fr.rf (T_m_lackingBits) μ) (sbc (sa_m 0 rfl) (sbc (sa_m 1 rfl) (sbc (sa_m 2 rfl) sbn)))  
def T_m_canStep : List At := []
theorem f_m_canStep {μ : Mem} {x1 : Int32}  {z : Int32 × Mem} (h : m_canStep x1 μ = some z) : Fr (T_m_canStep) μ z.2 := by
  unfold m_canStep at h
  exact (have h2 := fgv h; fo h2 (fun r6 μ3 e32 h5 => have fr7 : Fr (T_m_canStep) μ μ3 := Fr.tr (Fr.mono (f_m_in  e32) sbn) (Fr.rf (T_m_canStep) μ); fi h5 (fun h9 => fr_ret h9 fr7) (fun h10 => fi h10 (fun h13 => fo h13 (fun r26 μ23 e31 h25 => have fr27 : Fr (T_m_canStep) μ μ23 := Fr.tr (Fr.mono (f_m_wideAt  e31) sbn) fr7; fi h25 (fun h29 => fr_ret h29 fr27) (fun h30 => fr_ret h30 fr27))) (fun h12 => fo h12 (fun r17 μ14 e22 h16 => have fr18 : Fr (T_m_canStep) μ μ14 := Fr.tr (Fr.mono (f_m_wideAt  e22) sbn) fr7; fi h16 (fun h20 => fr_ret h20 fr18) (fun h21 => fr_ret h21 fr18))))))
def T_m_steps : List At := [(89, none, none)]
theorem f_m_steps {μ : Mem} {x1 : Int32}  {z : Unit × Mem} (h : m_steps x1 μ = some z) : Fr (T_m_steps) μ z.2 := by
  unfold m_steps at h
  exact (have h2 := fgv h; fi h2 (fun h5 => (let μ9 : Mem := stI μ 89 0 (cl ((nI 18) + (x1 / (nI 2)))) ((mI μ 89 0 (cl ((nI 18) + (x1 / (nI 2))))) + (nI 1)); have fr10 : Fr (T_m_steps) μ μ9 := Fr.stI (Fr.rf (T_m_steps) μ) (iT 0 rfl inA_nn); have h11 := mb_o h5; fr_ret h11 fr10)) (fun h4 => (let μ6 : Mem := stI μ 89 0 (cl ((nI 18) + (x1 / (nI 2)))) ((mI μ 89 0 (cl ((nI 18) + (x1 / (nI 2))))) + (-1 : Int32)); have fr7 : Fr (T_m_steps) μ μ6 := Fr.stI (Fr.rf (T_m_steps) μ) (iT 0 rfl inA_nn); have h8 := mb_o h4; fr_ret h8 fr7)))
def T_m_canBits_L4 : List At := []
theorem f_m_canBits_L4 {μ0 : Mem} {T : List At}    {x1 : Int32} {x2 : Int32} {μ : Mem} {z : Int32 × Mem} (h : m_canBits_L4  x1 x2 μ = some z) (fr : Fr T μ0 μ) (hT : Sb (T_m_canBits_L4) T)   : Fr T μ0 z.2 := by
  have key : ∀ (n : Nat), (∀ (x1 : Int32) (x2 : Int32) (μ : Mem) z, fixN (fun _ _ _ => none) (m_canBits_B4 ) n x1 x2 μ = some z → Fr T μ0 μ → Fr T μ0 z.2) := by
    intro n
    refine fixN_ind (fun (f : Int32 → Int32 → Mem → Option (Int32 × Mem)) => ∀ (x1 : Int32) (x2 : Int32) (μ : Mem) z, f x1 x2 μ = some z → Fr T μ0 μ → Fr T μ0 z.2) ?_ ?_ n
    · intro x1 x2 μ z h; cases h
    · intro self hself x1 x2 μ z h fr
      unfold m_canBits_B4 at h
      exact fi h (fun h2 => fr_ret h2 fr) (fun h3 => fo h3 (fun r7 μ4 e12 h6 => have fr8 : Fr T μ0 μ4 := Fr.tr (Fr.mono (f_m_canStep  e12) (sbt sbn hT)) fr; fi h6 (fun h10 => hself _ _ _ _ h10 fr8) (fun h11 => hself _ _ _ _ h11 fr8)))
  exact key 60000 _ _ _ _ h fr
def T_m_canBits : List At := []
theorem f_m_canBits {μ : Mem}   {z : Int32 × Mem} (h : m_canBits  μ = some z) : Fr (T_m_canBits) μ z.2 := by
  unfold m_canBits at h
  exact f_m_canBits_L4 h (Fr.rf (T_m_canBits) μ) sbn  
def T_m_dayGoes_L4 : List At := [(94, none, none), (55, none, some 49), (87, none, none), (86, none, none)]
theorem f_m_dayGoes_L4 {μ0 : Mem} {T : List At} {x1 : Int32}  {k34 : Mem → Option (Unit × Mem)} {x2 : Int32} {μ : Mem} {z : Unit × Mem} (h : m_dayGoes_L4 x1 k34 x2 μ = some z) (fr : Fr T μ0 μ) (hT : Sb (T_m_dayGoes_L4) T)  (hk34 : ∀  (μ : Mem) z, k34  μ = some z → Fr T μ0 μ → Fr T μ0 z.2) : Fr T μ0 z.2 := by
  have key : ∀ (n : Nat), (∀ (x2 : Int32) (μ : Mem) z, fixN (fun _ _ => none) (m_dayGoes_B4 x1 k34) n x2 μ = some z → Fr T μ0 μ → Fr T μ0 z.2) := by
    intro n
    refine fixN_ind (fun (f : Int32 → Mem → Option (Unit × Mem)) => ∀ (x2 : Int32) (μ : Mem) z, f x2 μ = some z → Fr T μ0 μ → Fr T μ0 z.2) ?_ ?_ n
    · intro x2 μ z h; cases h
    · intro self hself x2 μ z h fr
      unfold m_dayGoes_B4 at h
      exact (have h2 := fgv h; fi h2 (fun h4 => hk34 _ _ h4 fr) (fun h5 => fo h5 (fun r9 μ6 e13 h8 => have fr10 : Fr T μ0 μ6 := Fr.tr (Fr.mono (f_m_worthOf  e13) (sbt (sbc (sa_m 1 rfl) (sbc (sa_m 2 rfl) (sbc (sa_m 3 rfl) sbn))) hT)) fr; (have h12 := fgv h8; hself _ _ _ h12 (Fr.stI fr10 (hT _ _ _ (iT 0 rfl inA_nn)))))))
  exact key 60000 _ _ _ h fr
def T_m_dayGoes_L36 : List At := [(55, none, some 49), (87, none, none), (86, none, none)]
theorem f_m_dayGoes_L36 {μ0 : Mem} {T : List At}   {k100 : Int32 → Mem → Option (Unit × Mem)} {x1 : Int32} {x2 : Int32} {μ : Mem} {z : Unit × Mem} (h : m_dayGoes_L36 k100 x1 x2 μ = some z) (fr : Fr T μ0 μ) (hT : Sb (T_m_dayGoes_L36) T)  (hk100 : ∀ (x1 : Int32) (μ : Mem) z, k100 x1 μ = some z → Fr T μ0 μ → Fr T μ0 z.2) : Fr T μ0 z.2 := by
  have key : ∀ (n : Nat), (∀ (x1 : Int32) (x2 : Int32) (μ : Mem) z, fixN (fun _ _ _ => none) (m_dayGoes_B36 k100) n x1 x2 μ = some z → Fr T μ0 μ → Fr T μ0 z.2) := by
    intro n
    refine fixN_ind (fun (f : Int32 → Int32 → Mem → Option (Unit × Mem)) => ∀ (x1 : Int32) (x2 : Int32) (μ : Mem) z, f x1 x2 μ = some z → Fr T μ0 μ → Fr T μ0 z.2) ?_ ?_ n
    · intro x1 x2 μ z h; cases h
    · intro self hself x1 x2 μ z h fr
      unfold m_dayGoes_B36 at h
      exact (have h19 := fgv h; fi h19 (fun h21 => hk100 _ _ _ h21 fr) (fun h22 => fi h22 (fun h25 => fo h25 (fun r29 μ26 e49 h28 => have fr30 : Fr T μ0 μ26 := Fr.tr (Fr.mono (f_m_wideAt  e49) (sbt sbn hT)) fr; fi h28 (fun h32 => hself _ _ _ _ h32 fr30) (fun h33 => fo h33 (fun r37 μ34 e48 h36 => have fr38 : Fr T μ0 μ34 := Fr.tr (Fr.mono (f_m_lotOf  e48) (sbt sbn hT)) fr30; fo h36 (fun r42 μ39 e47 h41 => have fr43 : Fr T μ0 μ39 := Fr.tr (Fr.mono (f_m_siltsOf  e47) (sbt (sbc (sa_m 0 rfl) (sbc (sa_m 1 rfl) (sbc (sa_m 2 rfl) sbn))) hT)) fr38; fi h41 (fun h45 => hself _ _ _ _ h45 fr43) (fun h46 => hself _ _ _ _ h46 fr43)))))) (fun h24 => hself _ _ _ _ h24 fr)))
  exact key 60000 _ _ _ _ h fr
def T_m_dayGoes_L102 : List At := [(89, none, none)]
theorem f_m_dayGoes_L102 {μ0 : Mem} {T : List At} {x1 : Int32}  {k153 : Mem → Option (Unit × Mem)} {x2 : Int32} {μ : Mem} {z : Unit × Mem} (h : m_dayGoes_L102 x1 k153 x2 μ = some z) (fr : Fr T μ0 μ) (hT : Sb (T_m_dayGoes_L102) T)  (hk153 : ∀  (μ : Mem) z, k153  μ = some z → Fr T μ0 μ → Fr T μ0 z.2) : Fr T μ0 z.2 := by
  have key : ∀ (n : Nat), (∀ (x2 : Int32) (μ : Mem) z, fixN (fun _ _ => none) (m_dayGoes_B102 x1 k153) n x2 μ = some z → Fr T μ0 μ → Fr T μ0 z.2) := by
    intro n
    refine fixN_ind (fun (f : Int32 → Mem → Option (Unit × Mem)) => ∀ (x2 : Int32) (μ : Mem) z, f x2 μ = some z → Fr T μ0 μ → Fr T μ0 z.2) ?_ ?_ n
    · intro x2 μ z h; cases h
    · intro self hself x2 μ z h fr
      unfold m_dayGoes_B102 at h
      exact (have h56 := fgv h; fi h56 (fun h58 => hk153 _ _ h58 fr) (fun h59 => (have h61 := fgv h59; (have h63 := fgv h61; fo h63 (fun r67 μ64 e69 h66 => have fr68 : Fr T μ0 μ64 := Fr.tr (Fr.mono (f_m_within  e69) (sbt sbn hT)) fr; hself _ _ _ h66 (Fr.stI fr68 (hT _ _ _ (iT 0 rfl inA_nn))))))))
  exact key 60000 _ _ _ h fr
def T_m_dayGoes_L155 : List At := [(89, none, none)]
theorem f_m_dayGoes_L155 {μ0 : Mem} {T : List At} {x1 : Int32}  {k191 : Mem → Option (Unit × Mem)} {x2 : Int32} {μ : Mem} {z : Unit × Mem} (h : m_dayGoes_L155 x1 k191 x2 μ = some z) (fr : Fr T μ0 μ) (hT : Sb (T_m_dayGoes_L155) T)  (hk191 : ∀  (μ : Mem) z, k191  μ = some z → Fr T μ0 μ → Fr T μ0 z.2) : Fr T μ0 z.2 := by
  have key : ∀ (n : Nat), (∀ (x2 : Int32) (μ : Mem) z, fixN (fun _ _ => none) (m_dayGoes_B155 x1 k191) n x2 μ = some z → Fr T μ0 μ → Fr T μ0 z.2) := by
    intro n
    refine fixN_ind (fun (f : Int32 → Mem → Option (Unit × Mem)) => ∀ (x2 : Int32) (μ : Mem) z, f x2 μ = some z → Fr T μ0 μ → Fr T μ0 z.2) ?_ ?_ n
    · intro x2 μ z h; cases h
    · intro self hself x2 μ z h fr
      unfold m_dayGoes_B155 at h
      exact (have h75 := fgv h; fi h75 (fun h77 => hk191 _ _ h77 fr) (fun h78 => (have h80 := fgv h78; (let μ81 : Mem := stI μ 89 0 (cl ((nI 18) + x2)) ((mI μ 89 0 (cl ((nI 18) + x2))) - ((x1 >>> (x2 &&& 31)) &&& (nI 1))); have fr82 : Fr T μ0 μ81 := Fr.stI fr (hT _ _ _ (iT 0 rfl inA_nn)); have h83 := mb_o h80; hself _ _ _ h83 fr82))))
  exact key 60000 _ _ _ h fr
def T_m_dayGoes : List At := [(89, none, none), (55, none, some 56), (55, none, some 57), (92, none, none), (93, none, none), (90, none, none), (91, none, none), (55, none, some 49), (87, none, none), (86, none, none), (94, none, none)]
theorem f_m_dayGoes {μ : Mem}   {z : Unit × Mem} (h : m_dayGoes  μ = some z) : Fr (T_m_dayGoes) μ z.2 := by
  unfold m_dayGoes at h
  exact f_m_dayGoes_L4 h (Fr.rf (T_m_dayGoes) μ) (sbc (sa_m 10 rfl) (sbc (sa_m 7 rfl) (sbc (sa_m 8 rfl) (sbc (sa_m 9 rfl) sbn))))  (fun  μ14 _ h16 fr17 => f_m_dayGoes_L36 h16 fr17 (sbc (sa_m 7 rfl) (sbc (sa_m 8 rfl) (sbc (sa_m 9 rfl) sbn)))  (fun x50 μ51 _ h53 fr54 => f_m_dayGoes_L102 h53 fr54 (sbc (sa_m 0 rfl) sbn)  (fun  μ70 _ h72 fr73 => f_m_dayGoes_L155 h72 fr73 (sbc (sa_m 0 rfl) sbn)  (fun  μ84 _ h86 fr87 => (let μ88 : Mem := stI μ84 89 0 31 ((mI μ84 89 0 31) + (nI 1)); have fr89 : Fr (T_m_dayGoes) μ μ88 := Fr.stI fr87 (iT 0 rfl inA_nn); have h90 := mb_o h86; fi h90 (fun h92 => fr_ret h92 fr89) (fun h93 => fo h93 (fun _ μ94 e99 h96 => have fr98 : Fr (T_m_dayGoes) μ μ94 := Fr.tr (Fr.mono (f_m_parts  e99) (sbc (sa_m 1 rfl) (sbc (sa_m 2 rfl) (sbc (sa_m 3 rfl) (sbc (sa_m 4 rfl) (sbc (sa_m 5 rfl) (sbc (sa_m 6 rfl) sbn))))))) fr89; fr_ret h96 fr98)))))))
def T_m_goes_L2 : List At := [(89, none, none), (55, none, some 56), (55, none, some 57), (92, none, none), (93, none, none), (90, none, none), (91, none, none), (55, none, some 49), (87, none, none), (86, none, none), (94, none, none)]
theorem f_m_goes_L2 {μ0 : Mem} {T : List At} {x1 : Int32}   {x2 : Int32} {μ : Mem} {z : Unit × Mem} (h : m_goes_L2 x1 x2 μ = some z) (fr : Fr T μ0 μ) (hT : Sb (T_m_goes_L2) T)   : Fr T μ0 z.2 := by
  have key : ∀ (n : Nat), (∀ (x2 : Int32) (μ : Mem) z, fixN (fun _ _ => none) (m_goes_B2 x1) n x2 μ = some z → Fr T μ0 μ → Fr T μ0 z.2) := by
    intro n
    refine fixN_ind (fun (f : Int32 → Mem → Option (Unit × Mem)) => ∀ (x2 : Int32) (μ : Mem) z, f x2 μ = some z → Fr T μ0 μ → Fr T μ0 z.2) ?_ ?_ n
    · intro x2 μ z h; cases h
    · intro self hself x2 μ z h fr
      unfold m_goes_B2 at h
      exact fi h (fun h2 => fr_ret h2 fr) (fun h3 => fo h3 (fun _ μ4 e9 h6 => have fr8 : Fr T μ0 μ4 := Fr.tr (Fr.mono (f_m_dayGoes  e9) (sbt (sbc (sa_m 0 rfl) (sbc (sa_m 1 rfl) (sbc (sa_m 2 rfl) (sbc (sa_m 3 rfl) (sbc (sa_m 4 rfl) (sbc (sa_m 5 rfl) (sbc (sa_m 6 rfl) (sbc (sa_m 7 rfl) (sbc (sa_m 8 rfl) (sbc (sa_m 9 rfl) (sbc (sa_m 10 rfl) sbn))))))))))) hT)) fr; hself _ _ _ h6 fr8))
  exact key 60000 _ _ _ h fr
def T_m_goes : List At := [(89, none, none), (55, none, some 56), (55, none, some 57), (92, none, none), (93, none, none), (90, none, none), (91, none, none), (55, none, some 49), (87, none, none), (86, none, none), (94, none, none)]
theorem f_m_goes {μ : Mem} {x1 : Int32}  {z : Unit × Mem} (h : m_goes x1 μ = some z) : Fr (T_m_goes) μ z.2 := by
  unfold m_goes at h
  exact f_m_goes_L2 h (Fr.rf (T_m_goes) μ) (sbc (sa_m 0 rfl) (sbc (sa_m 1 rfl) (sbc (sa_m 2 rfl) (sbc (sa_m 3 rfl) (sbc (sa_m 4 rfl) (sbc (sa_m 5 rfl) (sbc (sa_m 6 rfl) (sbc (sa_m 7 rfl) (sbc (sa_m 8 rfl) (sbc (sa_m 9 rfl) (sbc (sa_m 10 rfl) sbn)))))))))))  
def T_m_log_L84 : List At := []
theorem f_m_log_L84 {μ0 : Mem} {T : List At} {x1 : Int32}   {x3 : Int32} {x4 : Int32} {μ : Mem} {z : Int32 × Mem} (h : m_log_L84 x1 x3 x4 μ = some z) (fr : Fr T μ0 μ) (hT : Sb (T_m_log_L84) T)   : Fr T μ0 z.2 := by
  have key : ∀ (n : Nat), (∀ (x3 : Int32) (x4 : Int32) (μ : Mem) z, fixN (fun _ _ _ => none) (m_log_B84 x1) n x3 x4 μ = some z → Fr T μ0 μ → Fr T μ0 z.2) := by
    intro n
    refine fixN_ind (fun (f : Int32 → Int32 → Mem → Option (Int32 × Mem)) => ∀ (x3 : Int32) (x4 : Int32) (μ : Mem) z, f x3 x4 μ = some z → Fr T μ0 μ → Fr T μ0 z.2) ?_ ?_ n
    · intro x3 x4 μ z h; cases h
    · intro self hself x3 x4 μ z h fr
      unfold m_log_B84 at h
      exact (have h51 := fgv h; fi h51 (fun h53 => fr_ret h53 fr) (fun h54 => fo h54 (fun r58 μ55 e63 h57 => have fr59 : Fr T μ0 μ55 := Fr.tr (Fr.mono (f_m_fromLog  e63) (sbt sbn hT)) fr; fi h57 (fun h62 => hself _ _ _ _ h62 fr59) (fun h61 => hself _ _ _ _ h61 fr59))))
  exact key 60000 _ _ _ _ h fr
def T_m_log : List At := [(90, none, none), (91, none, none), (55, none, some 52), (55, none, some 53), (55, none, some 56), (55, none, some 57), (92, none, none), (93, none, none), (89, none, none)]
theorem f_m_log {μ : Mem} {x1 : Int32} {x2 : Int32}  {z : Int32 × Mem} (h : m_log x1 x2 μ = some z) : Fr (T_m_log) μ z.2 := by
  unfold m_log at h
  exact fo h (fun r4 μ1 e67 h3 => have fr5 : Fr (T_m_log) μ μ1 := Fr.tr (Fr.mono (f_m_isLog  e67) sbn) (Fr.rf (T_m_log) μ); fi h3 (fun h8 => fr_ret h8 fr5) (fun h7 => fo h7 (fun _ μ9 e66 h11 => have fr13 : Fr (T_m_log) μ μ9 := Fr.tr (Fr.mono (f_m_copies  e66) (sbc (sa_m 2 rfl) (sbc (sa_m 3 rfl) (sbc (sa_m 4 rfl) (sbc (sa_m 5 rfl) (sbc (sa_m 6 rfl) (sbc (sa_m 7 rfl) (sbc (sa_m 0 rfl) (sbc (sa_m 1 rfl) (sbc (sa_m 8 rfl) sbn)))))))))) fr5; fo h11 (fun _ μ14 e65 h16 => have fr18 : Fr (T_m_log) μ μ14 := Fr.tr (Fr.mono (f_m_fillsLeads  e65) (sbc (sa_m 0 rfl) (sbc (sa_m 1 rfl) sbn))) fr13; (fi h16 (fun h20 => fo h20 (fun r24 μ21 e32 h23 => have fr25 : Fr (T_m_log) μ μ21 := Fr.tr (Fr.mono (f_m_logOver  e32) sbn) fr18; fo h23 (fun r29 μ26 e31 h28 => have fr30 : Fr (T_m_log) μ μ26 := Fr.tr (Fr.mono (f_m_termOfTwo  e31) sbn) fr25; fr_ret h28 fr30))) (fun h_ => (fi h_ (fun h33 => fo h33 (fun r37 μ34 e45 h36 => have fr38 : Fr (T_m_log) μ μ34 := Fr.tr (Fr.mono (f_m_logOver  e45) sbn) fr18; fo h36 (fun r42 μ39 e44 h41 => have fr43 : Fr (T_m_log) μ μ39 := Fr.tr (Fr.mono (f_m_termOfTwo  e44) sbn) fr38; fr_ret h41 fr43))) (fun h_ => (fi h_ (fun h46 => (have h48 := fgv h46; fr_ret h48 fr18)) (fun h_ => (fi h_ (fun h49 => f_m_log_L84 h49 fr18 sbn  ) (fun h64 => fr_ret h64 fr18))))))))))))
def T_m_field : List At := [(55, none, some 49), (87, none, none), (86, none, none), (55, none, some 52), (55, none, some 53), (55, none, some 56), (55, none, some 57), (92, none, none), (93, none, none), (90, none, none), (91, none, none), (89, none, none)]
theorem f_m_field {μ : Mem} {x1 : Int32} {x2 : Int32}  {z : Int32 × Mem} (h : m_field x1 x2 μ = some z) : Fr (T_m_field) μ z.2 := by
  unfold m_field at h
  exact fo h (fun r4 μ1 e83 h3 => have fr5 : Fr (T_m_field) μ μ1 := Fr.tr (Fr.mono (f_m_isField  e83) sbn) (Fr.rf (T_m_field) μ); fi h3 (fun h8 => fr_ret h8 fr5) (fun h7 => fo h7 (fun _ μ9 e82 h11 => have fr13 : Fr (T_m_field) μ μ9 := Fr.tr (Fr.mono (f_m_copies  e82) (sbc (sa_m 3 rfl) (sbc (sa_m 4 rfl) (sbc (sa_m 5 rfl) (sbc (sa_m 6 rfl) (sbc (sa_m 7 rfl) (sbc (sa_m 8 rfl) (sbc (sa_m 9 rfl) (sbc (sa_m 10 rfl) (sbc (sa_m 11 rfl) sbn)))))))))) fr5; (fi h11 (fun h15 => fo h15 (fun r19 μ16 e27 h18 => have fr20 : Fr (T_m_field) μ μ16 := Fr.tr (Fr.mono (f_m_fieldOver  e27) sbn) fr13; fo h18 (fun r24 μ21 e26 h23 => have fr25 : Fr (T_m_field) μ μ21 := Fr.tr (Fr.mono (f_m_termOfTwo  e26) sbn) fr20; fr_ret h23 fr25))) (fun h_ => (fi h_ (fun h28 => fo h28 (fun r32 μ29 e40 h31 => have fr33 : Fr (T_m_field) μ μ29 := Fr.tr (Fr.mono (f_m_fieldOver  e40) sbn) fr13; fo h31 (fun r37 μ34 e39 h36 => have fr38 : Fr (T_m_field) μ μ34 := Fr.tr (Fr.mono (f_m_termOfTwo  e39) sbn) fr33; fr_ret h36 fr38))) (fun h_ => (fi h_ (fun h41 => fo h41 (fun r45 μ42 e47 h44 => have fr46 : Fr (T_m_field) μ μ42 := Fr.tr (Fr.mono (f_m_flowOf  e47) sbn) fr13; fr_ret h44 fr46)) (fun h_ => (fi h_ (fun h48 => (have h50 := fgv h48; fr_ret h50 fr13)) (fun h_ => (fi h_ (fun h51 => fo h51 (fun r55 μ52 e57 h54 => have fr56 : Fr (T_m_field) μ μ52 := Fr.tr (Fr.mono (f_m_needsOf  e57) (sbc (sa_m 0 rfl) (sbc (sa_m 1 rfl) (sbc (sa_m 2 rfl) sbn)))) fr13; fr_ret h54 fr56)) (fun h_ => (fi h_ (fun h58 => fo h58 (fun r62 μ59 e64 h61 => have fr63 : Fr (T_m_field) μ μ59 := Fr.tr (Fr.mono (f_m_worthOf  e64) (sbc (sa_m 0 rfl) (sbc (sa_m 1 rfl) (sbc (sa_m 2 rfl) sbn)))) fr13; fr_ret h61 fr63)) (fun h_ => (fi h_ (fun h65 => (have h67 := fgv h65; fr_ret h67 fr13)) (fun h_ => (fi h_ (fun h68 => (have h70 := fgv h68; fr_ret h70 fr13)) (fun h_ => (fi h_ (fun h71 => (have h73 := fgv h71; fr_ret h73 fr13)) (fun h_ => (fi h_ (fun h74 => fo h74 (fun r78 μ75 e80 h77 => have fr79 : Fr (T_m_field) μ μ75 := Fr.tr (Fr.mono (f_m_widthsTo  e80) sbn) fr13; fr_ret h77 fr79)) (fun h81 => fr_ret h81 fr13)))))))))))))))))))))))
def T_m_notch : List At := [(55, none, some 49), (87, none, none), (86, none, none), (55, none, some 52), (55, none, some 53), (55, none, some 56), (55, none, some 57), (92, none, none), (93, none, none), (90, none, none), (91, none, none), (89, none, none)]
theorem f_m_notch {μ : Mem} {x1 : Int32} {x2 : Int32}  {z : Int32 × Mem} (h : m_notch x1 x2 μ = some z) : Fr (T_m_notch) μ z.2 := by
  unfold m_notch at h
  exact fo h (fun r4 μ1 e52 h3 => have fr5 : Fr (T_m_notch) μ μ1 := Fr.tr (Fr.mono (f_m_isNotch  e52) sbn) (Fr.rf (T_m_notch) μ); fi h3 (fun h8 => fr_ret h8 fr5) (fun h7 => fo h7 (fun _ μ9 e51 h11 => have fr13 : Fr (T_m_notch) μ μ9 := Fr.tr (Fr.mono (f_m_copies  e51) (sbc (sa_m 3 rfl) (sbc (sa_m 4 rfl) (sbc (sa_m 5 rfl) (sbc (sa_m 6 rfl) (sbc (sa_m 7 rfl) (sbc (sa_m 8 rfl) (sbc (sa_m 9 rfl) (sbc (sa_m 10 rfl) (sbc (sa_m 11 rfl) sbn)))))))))) fr5; (fi h11 (fun h15 => fo h15 (fun r19 μ16 e21 h18 => have fr20 : Fr (T_m_notch) μ μ16 := Fr.tr (Fr.mono (f_m_fromLog  e21) sbn) fr13; fr_ret h18 fr20)) (fun h_ => (fi h_ (fun h22 => fo h22 (fun r26 μ23 e28 h25 => have fr27 : Fr (T_m_notch) μ μ23 := Fr.tr (Fr.mono (f_m_toWhere  e28) sbn) fr13; fr_ret h25 fr27)) (fun h_ => (fi h_ (fun h29 => fo h29 (fun r33 μ30 e35 h32 => have fr34 : Fr (T_m_notch) μ μ30 := Fr.tr (Fr.mono (f_m_wideAt  e35) sbn) fr13; fr_ret h32 fr34)) (fun h_ => (fi h_ (fun h36 => fo h36 (fun r40 μ37 e42 h39 => have fr41 : Fr (T_m_notch) μ μ37 := Fr.tr (Fr.mono (f_m_costsOf  e42) (sbc (sa_m 0 rfl) (sbc (sa_m 1 rfl) (sbc (sa_m 2 rfl) sbn)))) fr13; fr_ret h39 fr41)) (fun h_ => (fi h_ (fun h43 => fo h43 (fun r47 μ44 e49 h46 => have fr48 : Fr (T_m_notch) μ μ44 := Fr.tr (Fr.mono (f_m_siltsOf  e49) (sbc (sa_m 0 rfl) (sbc (sa_m 1 rfl) (sbc (sa_m 2 rfl) sbn)))) fr13; fr_ret h46 fr48)) (fun h50 => fr_ret h50 fr13)))))))))))))
def T_m_records_L51 : List At := [(95, none, none)]
theorem f_m_records_L51 {μ0 : Mem} {T : List At}   {k83 : Mem → Option (Unit × Mem)} {x1 : Int32} {μ : Mem} {z : Unit × Mem} (h : m_records_L51 k83 x1 μ = some z) (fr : Fr T μ0 μ) (hT : Sb (T_m_records_L51) T)  (hk83 : ∀  (μ : Mem) z, k83  μ = some z → Fr T μ0 μ → Fr T μ0 z.2) : Fr T μ0 z.2 := by
  have key : ∀ (n : Nat), (∀ (x1 : Int32) (μ : Mem) z, fixN (fun _ _ => none) (m_records_B51 k83) n x1 μ = some z → Fr T μ0 μ → Fr T μ0 z.2) := by
    intro n
    refine fixN_ind (fun (f : Int32 → Mem → Option (Unit × Mem)) => ∀ (x1 : Int32) (μ : Mem) z, f x1 μ = some z → Fr T μ0 μ → Fr T μ0 z.2) ?_ ?_ n
    · intro x1 μ z h; cases h
    · intro self hself x1 μ z h fr
      unfold m_records_B51 at h
      exact fi h (fun h5 => hk83 _ _ h5 fr) (fun h6 => (have h8 := fgv h6; (have h10 := fgv h8; (let μ11 : Mem := stI μ 95 0 (cl (((nI 33) * (mI μ 55 0 61)) + x1)) (mI μ 88 0 (cl x1)); have fr12 : Fr T μ0 μ11 := Fr.stI fr (hT _ _ _ (iT 0 rfl inA_nn)); have h13 := mb_o h10; hself _ _ _ h13 fr12))))
  exact key 60000 _ _ _ h fr
def T_m_records_L11 : List At := [(95, none, none)]
theorem f_m_records_L11 {μ0 : Mem} {T : List At}   {k39 : Mem → Option (Unit × Mem)} {x1 : Int32} {μ : Mem} {z : Unit × Mem} (h : m_records_L11 k39 x1 μ = some z) (fr : Fr T μ0 μ) (hT : Sb (T_m_records_L11) T)  (hk39 : ∀  (μ : Mem) z, k39  μ = some z → Fr T μ0 μ → Fr T μ0 z.2) : Fr T μ0 z.2 := by
  have key : ∀ (n : Nat), (∀ (x1 : Int32) (μ : Mem) z, fixN (fun _ _ => none) (m_records_B11 k39) n x1 μ = some z → Fr T μ0 μ → Fr T μ0 z.2) := by
    intro n
    refine fixN_ind (fun (f : Int32 → Mem → Option (Unit × Mem)) => ∀ (x1 : Int32) (μ : Mem) z, f x1 μ = some z → Fr T μ0 μ → Fr T μ0 z.2) ?_ ?_ n
    · intro x1 μ z h; cases h
    · intro self hself x1 μ z h fr
      unfold m_records_B11 at h
      exact fi h (fun h28 => hk39 _ _ h28 fr) (fun h29 => (have h31 := fgv h29; (have h33 := fgv h31; (let μ34 : Mem := stI μ 95 0 (cl x1) (mI μ 95 0 (cl (x1 + (nI 33)))); have fr35 : Fr T μ0 μ34 := Fr.stI fr (hT _ _ _ (iT 0 rfl inA_nn)); have h36 := mb_o h33; hself _ _ _ h36 fr35))))
  exact key 60000 _ _ _ h fr
def T_m_records : List At := [(55, none, some 61), (88, none, none), (95, none, none)]
theorem f_m_records {μ : Mem}   {z : Unit × Mem} (h : m_records  μ = some z) : Fr (T_m_records) μ z.2 := by
  unfold m_records at h
  exact fi h (fun h3 => f_m_records_L11 h3 (Fr.rf (T_m_records) μ) (sbc (sa_m 2 rfl) sbn)  (fun  μ37 _ h39 fr40 => (let μ41 : Mem := stI μ37 55 0 61 ((mI μ37 55 0 61) - (nI 1)); have fr42 : Fr (T_m_records) μ μ41 := Fr.stI fr40 (iT 0 rfl inA_ns); have h43 := mb_o h39; f_m_records_L51 h43 fr42 (sbc (sa_m 2 rfl) sbn)  (fun  μ44 _ h46 fr47 => (let μ48 : Mem := stI μ44 55 0 61 ((mI μ44 55 0 61) + (nI 1)); have fr49 : Fr (T_m_records) μ μ48 := Fr.stI fr47 (iT 0 rfl inA_ns); have h50 := mb_o h46; fo h50 (fun _ μ51 e56 h53 => have fr55 : Fr (T_m_records) μ μ51 := Fr.tr (Fr.mono (f_m_keepsRow  e56) (sbc (sa_m 1 rfl) sbn)) fr49; fr_ret h53 fr55)))))) (fun h2 => f_m_records_L51 h2 (Fr.rf (T_m_records) μ) (sbc (sa_m 2 rfl) sbn)  (fun  μ14 _ h16 fr17 => (let μ18 : Mem := stI μ14 55 0 61 ((mI μ14 55 0 61) + (nI 1)); have fr19 : Fr (T_m_records) μ μ18 := Fr.stI fr17 (iT 0 rfl inA_ns); have h20 := mb_o h16; fo h20 (fun _ μ21 e26 h23 => have fr25 : Fr (T_m_records) μ μ21 := Fr.tr (Fr.mono (f_m_keepsRow  e26) (sbc (sa_m 1 rfl) sbn)) fr19; fr_ret h23 fr25))))
def T_m_stepOf : List At := []
theorem f_m_stepOf {μ : Mem} {x0 : Int32} {x1 : Int32}  {z : Int32 × Mem} (h : m_stepOf x0 x1 μ = some z) : Fr (T_m_stepOf) μ z.2 := by
  unfold m_stepOf at h
  exact fi h (fun h2 => fr_ret h2 (Fr.rf (T_m_stepOf) μ)) (fun h3 => fr_ret h3 (Fr.rf (T_m_stepOf) μ))
def T_m_step : List At := [(89, none, none), (55, none, some 61), (88, none, none), (95, none, none), (55, none, some 49), (87, none, none), (86, none, none), (55, none, some 52), (55, none, some 53), (55, none, some 56), (55, none, some 57), (92, none, none), (93, none, none), (90, none, none), (91, none, none)]
theorem f_m_step {μ : Mem} {x1 : Int32} {x2 : Int32}  {z : Int32 × Mem} (h : m_step x1 x2 μ = some z) : Fr (T_m_step) μ z.2 := by
  unfold m_step at h
  exact fo h (fun _ μ1 e57 h3 => have fr5 : Fr (T_m_step) μ μ1 := Fr.tr (Fr.mono (f_m_copies  e57) (sbc (sa_m 7 rfl) (sbc (sa_m 8 rfl) (sbc (sa_m 9 rfl) (sbc (sa_m 10 rfl) (sbc (sa_m 11 rfl) (sbc (sa_m 12 rfl) (sbc (sa_m 13 rfl) (sbc (sa_m 14 rfl) (sbc (sa_m 0 rfl) sbn)))))))))) (Fr.rf (T_m_step) μ); fo h3 (fun r9 μ6 e56 h8 => have fr10 : Fr (T_m_step) μ μ6 := Fr.tr (Fr.mono (f_m_isNotch  e56) sbn) fr5; fi h8 (fun h12 => fr_ret h12 fr10) (fun h13 => fo h13 (fun r17 μ14 e55 h16 => have fr18 : Fr (T_m_step) μ μ14 := Fr.tr (Fr.mono (f_m_stepOf  e55) sbn) fr10; fo h16 (fun r22 μ19 e54 h21 => have fr23 : Fr (T_m_step) μ μ19 := Fr.tr (Fr.mono (f_m_canStep  e54) sbn) fr18; fi h21 (fun h26 => fr_ret h26 fr23) (fun h25 => fo h25 (fun r30 μ27 e53 h29 => have fr31 : Fr (T_m_step) μ μ27 := Fr.tr (Fr.mono (f_m_costsOf  e53) (sbc (sa_m 4 rfl) (sbc (sa_m 5 rfl) (sbc (sa_m 6 rfl) sbn)))) fr23; fo h29 (fun r35 μ32 e52 h34 => have fr36 : Fr (T_m_step) μ μ32 := Fr.tr (Fr.mono (f_m_stepOf  e52) sbn) fr31; fo h34 (fun _ μ37 e51 h39 => have fr41 : Fr (T_m_step) μ μ37 := Fr.tr (Fr.mono (f_m_steps  e51) (sbc (sa_m 0 rfl) sbn)) fr36; (let μ42 : Mem := stI μ37 89 0 32 ((mI μ37 89 0 32) + r30); have fr43 : Fr (T_m_step) μ μ42 := Fr.stI fr41 (iT 0 rfl inA_nn); have h44 := mb_o h39; fo h44 (fun _ μ45 e50 h47 => have fr49 : Fr (T_m_step) μ μ45 := Fr.tr (Fr.mono (f_m_records  e50) (sbc (sa_m 1 rfl) (sbc (sa_m 2 rfl) (sbc (sa_m 3 rfl) sbn)))) fr43; fr_ret h47 fr49)))))))))))
def T_m_drain : List At := [(89, none, none), (55, none, some 61), (88, none, none), (95, none, none), (55, none, some 52), (55, none, some 53), (55, none, some 56), (55, none, some 57), (92, none, none), (93, none, none), (90, none, none), (91, none, none)]
theorem f_m_drain {μ : Mem} {x1 : Int32} {x2 : Int32} {x3 : Int32}  {z : Int32 × Mem} (h : m_drain x1 x2 x3 μ = some z) : Fr (T_m_drain) μ z.2 := by
  unfold m_drain at h
  exact fo h (fun r4 μ1 e69 h3 => have fr5 : Fr (T_m_drain) μ μ1 := Fr.tr (Fr.mono (f_m_isField  e69) sbn) (Fr.rf (T_m_drain) μ); fi h3 (fun h7 => fr_ret h7 fr5) (fun h8 => fo h8 (fun r12 μ9 e68 h11 => have fr13 : Fr (T_m_drain) μ μ9 := Fr.tr (Fr.mono (f_m_isLog  e68) sbn) fr5; fi h11 (fun h15 => fr_ret h15 fr13) (fun h16 => fo h16 (fun r20 μ17 e67 h19 => have fr21 : Fr (T_m_drain) μ μ17 := Fr.tr (Fr.mono (f_m_in  e67) sbn) fr13; fi h19 (fun h23 => fr_ret h23 fr21) (fun h24 => (have h26 := fgv h24; fi h26 (fun h29 => (have h48 := fgv h29; fi h48 (fun h51 => fr_ret h51 fr21) (fun h50 => fo h50 (fun _ μ52 e66 h54 => have fr56 : Fr (T_m_drain) μ μ52 := Fr.tr (Fr.mono (f_m_copies  e66) (sbc (sa_m 4 rfl) (sbc (sa_m 5 rfl) (sbc (sa_m 6 rfl) (sbc (sa_m 7 rfl) (sbc (sa_m 8 rfl) (sbc (sa_m 9 rfl) (sbc (sa_m 10 rfl) (sbc (sa_m 11 rfl) (sbc (sa_m 0 rfl) sbn)))))))))) fr21; (let μ57 : Mem := stI (stI μ52 89 0 (cl x1) x2) 89 0 (cl ((nI 6) + x1)) x3; have fr58 : Fr (T_m_drain) μ μ57 := Fr.stI (Fr.stI fr56 (iT 0 rfl inA_nn)) (iT 0 rfl inA_nn); have h59 := mb_o h54; fo h59 (fun _ μ60 e65 h62 => have fr64 : Fr (T_m_drain) μ μ60 := Fr.tr (Fr.mono (f_m_records  e65) (sbc (sa_m 1 rfl) (sbc (sa_m 2 rfl) (sbc (sa_m 3 rfl) sbn)))) fr58; fr_ret h62 fr64)))))) (fun h28 => fo h28 (fun _ μ30 e46 h32 => have fr34 : Fr (T_m_drain) μ μ30 := Fr.tr (Fr.mono (f_m_copies  e46) (sbc (sa_m 4 rfl) (sbc (sa_m 5 rfl) (sbc (sa_m 6 rfl) (sbc (sa_m 7 rfl) (sbc (sa_m 8 rfl) (sbc (sa_m 9 rfl) (sbc (sa_m 10 rfl) (sbc (sa_m 11 rfl) (sbc (sa_m 0 rfl) sbn)))))))))) fr21; (have h36 := fgv h32; (let μ37 : Mem := stI (stI μ30 89 0 (cl x1) x2) 89 0 (cl ((nI 6) + x1)) x3; have fr38 : Fr (T_m_drain) μ μ37 := Fr.stI (Fr.stI fr34 (iT 0 rfl inA_nn)) (iT 0 rfl inA_nn); have h39 := mb_o h36; fo h39 (fun _ μ40 e45 h42 => have fr44 : Fr (T_m_drain) μ μ40 := Fr.tr (Fr.mono (f_m_records  e45) (sbc (sa_m 1 rfl) (sbc (sa_m 2 rfl) (sbc (sa_m 3 rfl) sbn)))) fr38; fr_ret h42 fr44))))))))))))
def T_m_spring : List At := [(89, none, none), (55, none, some 61), (88, none, none), (95, none, none), (55, none, some 52), (55, none, some 53), (55, none, some 56), (55, none, some 57), (92, none, none), (93, none, none), (90, none, none), (91, none, none)]
theorem f_m_spring {μ : Mem} {x1 : Int32}  {z : Int32 × Mem} (h : m_spring x1 μ = some z) : Fr (T_m_spring) μ z.2 := by
  unfold m_spring at h
  exact fo h (fun r4 μ1 e24 h3 => have fr5 : Fr (T_m_spring) μ μ1 := Fr.tr (Fr.mono (f_m_in  e24) sbn) (Fr.rf (T_m_spring) μ); fi h3 (fun h7 => fr_ret h7 fr5) (fun h8 => fi h8 (fun h11 => fr_ret h11 fr5) (fun h10 => fo h10 (fun _ μ12 e23 h14 => have fr16 : Fr (T_m_spring) μ μ12 := Fr.tr (Fr.mono (f_m_copies  e23) (sbc (sa_m 4 rfl) (sbc (sa_m 5 rfl) (sbc (sa_m 6 rfl) (sbc (sa_m 7 rfl) (sbc (sa_m 8 rfl) (sbc (sa_m 9 rfl) (sbc (sa_m 10 rfl) (sbc (sa_m 11 rfl) (sbc (sa_m 0 rfl) sbn)))))))))) fr5; fo h14 (fun _ μ17 e22 h19 => have fr21 : Fr (T_m_spring) μ μ17 := Fr.tr (Fr.mono (f_m_records  e22) (sbc (sa_m 1 rfl) (sbc (sa_m 2 rfl) (sbc (sa_m 3 rfl) sbn)))) (Fr.stI fr16 (iT 0 rfl inA_nn)); fr_ret h19 fr21)))))
def T_m_isLong : List At := []
theorem f_m_isLong {μ : Mem} {x0 : Int32}  {z : Int32 × Mem} (h : m_isLong x0 μ = some z) : Fr (T_m_isLong) μ z.2 := by
  unfold m_isLong at h
  exact fo h (fun r4 μ1 e8 h3 => have fr5 : Fr (T_m_isLong) μ μ1 := Fr.tr (Fr.mono (f_m_in  e8) sbn) (Fr.rf (T_m_isLong) μ); (have h7 := fgv h3; fr_ret h7 fr5))
def T_m_days : List At := [(55, none, some 61), (88, none, none), (95, none, none), (89, none, none), (55, none, some 56), (55, none, some 57), (92, none, none), (93, none, none), (90, none, none), (91, none, none), (55, none, some 49), (87, none, none), (86, none, none), (94, none, none), (55, none, some 52), (55, none, some 53)]
theorem f_m_days {μ : Mem} {x1 : Int32}  {z : Int32 × Mem} (h : m_days x1 μ = some z) : Fr (T_m_days) μ z.2 := by
  unfold m_days at h
  exact fo h (fun r4 μ1 e30 h3 => have fr5 : Fr (T_m_days) μ μ1 := Fr.tr (Fr.mono (f_m_isLong  e30) sbn) (Fr.rf (T_m_days) μ); fi h3 (fun h8 => fr_ret h8 fr5) (fun h7 => fi h7 (fun h11 => fr_ret h11 fr5) (fun h10 => fo h10 (fun _ μ12 e29 h14 => have fr16 : Fr (T_m_days) μ μ12 := Fr.tr (Fr.mono (f_m_copies  e29) (sbc (sa_m 14 rfl) (sbc (sa_m 15 rfl) (sbc (sa_m 4 rfl) (sbc (sa_m 5 rfl) (sbc (sa_m 6 rfl) (sbc (sa_m 7 rfl) (sbc (sa_m 8 rfl) (sbc (sa_m 9 rfl) (sbc (sa_m 3 rfl) sbn)))))))))) fr5; fo h14 (fun _ μ17 e28 h19 => have fr21 : Fr (T_m_days) μ μ17 := Fr.tr (Fr.mono (f_m_goes  e28) (sbc (sa_m 3 rfl) (sbc (sa_m 4 rfl) (sbc (sa_m 5 rfl) (sbc (sa_m 6 rfl) (sbc (sa_m 7 rfl) (sbc (sa_m 8 rfl) (sbc (sa_m 9 rfl) (sbc (sa_m 10 rfl) (sbc (sa_m 11 rfl) (sbc (sa_m 12 rfl) (sbc (sa_m 13 rfl) sbn)))))))))))) fr16; fo h19 (fun _ μ22 e27 h24 => have fr26 : Fr (T_m_days) μ μ22 := Fr.tr (Fr.mono (f_m_records  e27) (sbc (sa_m 0 rfl) (sbc (sa_m 1 rfl) (sbc (sa_m 2 rfl) sbn)))) fr21; fr_ret h24 fr26))))))
def T_m_undo_L21 : List At := [(88, none, none)]
theorem f_m_undo_L21 {μ0 : Mem} {T : List At}    {x1 : Int32} {μ : Mem} {z : Int32 × Mem} (h : m_undo_L21  x1 μ = some z) (fr : Fr T μ0 μ) (hT : Sb (T_m_undo_L21) T)   : Fr T μ0 z.2 := by
  have key : ∀ (n : Nat), (∀ (x1 : Int32) (μ : Mem) z, fixN (fun _ _ => none) (m_undo_B21 ) n x1 μ = some z → Fr T μ0 μ → Fr T μ0 z.2) := by
    intro n
    refine fixN_ind (fun (f : Int32 → Mem → Option (Int32 × Mem)) => ∀ (x1 : Int32) (μ : Mem) z, f x1 μ = some z → Fr T μ0 μ → Fr T μ0 z.2) ?_ ?_ n
    · intro x1 μ z h; cases h
    · intro self hself x1 μ z h fr
      unfold m_undo_B21 at h
      exact fi h (fun h5 => fr_ret h5 fr) (fun h6 => (have h8 := fgv h6; (have h10 := fgv h8; (let μ11 : Mem := stI μ 88 0 (cl x1) (mI μ 95 0 (cl (((nI 33) * (mI μ 55 0 61)) + x1))); have fr12 : Fr T μ0 μ11 := Fr.stI fr (hT _ _ _ (iT 0 rfl inA_nn)); have h13 := mb_o h10; hself _ _ _ h13 fr12))))
  exact key 60000 _ _ _ h fr
def T_m_undo : List At := [(55, none, some 61), (88, none, none)]
theorem f_m_undo {μ : Mem}   {z : Int32 × Mem} (h : m_undo  μ = some z) : Fr (T_m_undo) μ z.2 := by
  unfold m_undo at h
  exact fi h (fun h3 => fr_ret h3 (Fr.rf (T_m_undo) μ)) (fun h2 => f_m_undo_L21 h2 (Fr.stI (Fr.rf (T_m_undo) μ) (iT 0 rfl inA_ns)) (sbc (sa_m 1 rfl) sbn)  )
def T_m_riverOver_L4 : List At := []
theorem f_m_riverOver_L4 {μ0 : Mem} {T : List At}   {k40 : Int64 → Mem → Option (Int64 × Mem)} {x1 : Int64} {x3 : Int32} {μ : Mem} {z : Int64 × Mem} (h : m_riverOver_L4 k40 x1 x3 μ = some z) (fr : Fr T μ0 μ) (hT : Sb (T_m_riverOver_L4) T)  (hk40 : ∀ (x1 : Int64) (μ : Mem) z, k40 x1 μ = some z → Fr T μ0 μ → Fr T μ0 z.2) : Fr T μ0 z.2 := by
  have key : ∀ (n : Nat), (∀ (x1 : Int64) (x3 : Int32) (μ : Mem) z, fixN (fun _ _ _ => none) (m_riverOver_B4 k40) n x1 x3 μ = some z → Fr T μ0 μ → Fr T μ0 z.2) := by
    intro n
    refine fixN_ind (fun (f : Int64 → Int32 → Mem → Option (Int64 × Mem)) => ∀ (x1 : Int64) (x3 : Int32) (μ : Mem) z, f x1 x3 μ = some z → Fr T μ0 μ → Fr T μ0 z.2) ?_ ?_ n
    · intro x1 x3 μ z h; cases h
    · intro self hself x1 x3 μ z h fr
      unfold m_riverOver_B4 at h
      exact (have h2 := fgv h; fi h2 (fun h4 => hk40 _ _ _ h4 fr) (fun h5 => (have h7 := fgv h5; fi h7 (fun h10 => fo h10 (fun r14 μ11 e16 h13 => have fr15 : Fr T μ0 μ11 := Fr.tr (Fr.mono (f_m_logOver  e16) (sbt sbn hT)) fr; hself _ _ _ _ h13 fr15)) (fun h9 => hself _ _ _ _ h9 fr))))
  exact key 60000 _ _ _ _ h fr
def T_m_riverOver_L42 : List At := []
theorem f_m_riverOver_L42 {μ0 : Mem} {T : List At}   {k93 : Int64 → Mem → Option (Int64 × Mem)} {x1 : Int64} {x3 : Int32} {μ : Mem} {z : Int64 × Mem} (h : m_riverOver_L42 k93 x1 x3 μ = some z) (fr : Fr T μ0 μ) (hT : Sb (T_m_riverOver_L42) T)  (hk93 : ∀ (x1 : Int64) (μ : Mem) z, k93 x1 μ = some z → Fr T μ0 μ → Fr T μ0 z.2) : Fr T μ0 z.2 := by
  have key : ∀ (n : Nat), (∀ (x1 : Int64) (x3 : Int32) (μ : Mem) z, fixN (fun _ _ _ => none) (m_riverOver_B42 k93) n x1 x3 μ = some z → Fr T μ0 μ → Fr T μ0 z.2) := by
    intro n
    refine fixN_ind (fun (f : Int64 → Int32 → Mem → Option (Int64 × Mem)) => ∀ (x1 : Int64) (x3 : Int32) (μ : Mem) z, f x1 x3 μ = some z → Fr T μ0 μ → Fr T μ0 z.2) ?_ ?_ n
    · intro x1 x3 μ z h; cases h
    · intro self hself x1 x3 μ z h fr
      unfold m_riverOver_B42 at h
      exact (have h23 := fgv h; fi h23 (fun h25 => hk93 _ _ _ h25 fr) (fun h26 => fo h26 (fun r30 μ27 e51 h29 => have fr31 : Fr T μ0 μ27 := Fr.tr (Fr.mono (f_m_toWhere  e51) (sbt sbn hT)) fr; fi h29 (fun h34 => fo h34 (fun r38 μ35 e50 h37 => have fr39 : Fr T μ0 μ35 := Fr.tr (Fr.mono (f_m_wideAt  e50) (sbt sbn hT)) fr31; fo h37 (fun r43 μ40 e49 h42 => have fr44 : Fr T μ0 μ40 := Fr.tr (Fr.mono (f_m_fromLog  e49) (sbt sbn hT)) fr39; (have h46 := fgv h42; (let v47 : Int64 := (x1 + ((Int32.toInt64 ((nI 4) * r38)) * (mL μ40 92 0 (cl r43)))); have h48 := vb_o h46; (hself _ _ _ _ h48 fr44)))))) (fun h33 => hself _ _ _ _ h33 fr31))))
  exact key 60000 _ _ _ _ h fr
def T_m_riverOver : List At := []
theorem f_m_riverOver {μ : Mem}   {z : Int64 × Mem} (h : m_riverOver  μ = some z) : Fr (T_m_riverOver) μ z.2 := by
  unfold m_riverOver at h
  exact f_m_riverOver_L4 h (Fr.rf (T_m_riverOver) μ) sbn  (fun y17 μ18 _ h20 fr21 => f_m_riverOver_L42 h20 fr21 sbn  (fun y52 μ53 _ h55 fr56 => (have h58 := fgv h55; fi h58 (fun h61 => fr_ret h61 fr56) (fun h60 => fr_ret h60 fr56))))
def T_m_quartersOver_L5 : List At := []
theorem f_m_quartersOver_L5 {μ0 : Mem} {T : List At} {x1 : Int32}   {x2 : Int64} {x4 : Int32} {μ : Mem} {z : Int64 × Mem} (h : m_quartersOver_L5 x1 x2 x4 μ = some z) (fr : Fr T μ0 μ) (hT : Sb (T_m_quartersOver_L5) T)   : Fr T μ0 z.2 := by
  have key : ∀ (n : Nat), (∀ (x2 : Int64) (x4 : Int32) (μ : Mem) z, fixN (fun _ _ _ => none) (m_quartersOver_B5 x1) n x2 x4 μ = some z → Fr T μ0 μ → Fr T μ0 z.2) := by
    intro n
    refine fixN_ind (fun (f : Int64 → Int32 → Mem → Option (Int64 × Mem)) => ∀ (x2 : Int64) (x4 : Int32) (μ : Mem) z, f x2 x4 μ = some z → Fr T μ0 μ → Fr T μ0 z.2) ?_ ?_ n
    · intro x2 x4 μ z h; cases h
    · intro self hself x2 x4 μ z h fr
      unfold m_quartersOver_B5 at h
      exact (have h2 := fgv h; fi h2 (fun h4 => fr_ret h4 fr) (fun h5 => fo h5 (fun r9 μ6 e22 h8 => have fr10 : Fr T μ0 μ6 := Fr.tr (Fr.mono (f_m_fieldOver  e22) (sbt sbn hT)) fr; fi h8 (fun h13 => (have h19 := fgv h13; (let v20 : Int64 := (x2 + ((r9 / (4 : Int64)) * (Int32.toInt64 (mI μ6 89 0 (cl ((nI 6) + x4)))))); have h21 := vb_o h19; (hself _ _ _ _ h21 fr10)))) (fun h12 => (have h15 := fgv h12; (let v16 : Int64 := (x2 + ((r9 / (4 : Int64)) * (Int32.toInt64 (x1 - (mI μ6 89 0 (cl ((nI 6) + x4))))))); have h17 := vb_o h15; (hself _ _ _ _ h17 fr10)))))))
  exact key 60000 _ _ _ _ h fr
def T_m_quartersOver : List At := []
theorem f_m_quartersOver {μ : Mem} {x1 : Int32}  {z : Int64 × Mem} (h : m_quartersOver x1 μ = some z) : Fr (T_m_quartersOver) μ z.2 := by
  unfold m_quartersOver at h
  exact f_m_quartersOver_L5 h (Fr.rf (T_m_quartersOver) μ) sbn  
def T_m_river : List At := [(55, none, some 52), (55, none, some 53), (55, none, some 56), (55, none, some 57), (92, none, none), (93, none, none), (90, none, none), (91, none, none), (89, none, none)]
theorem f_m_river {μ : Mem} {x1 : Int32}  {z : Int32 × Mem} (h : m_river x1 μ = some z) : Fr (T_m_river) μ z.2 := by
  unfold m_river at h
  exact fo h (fun r4 μ1 e42 h3 => have fr5 : Fr (T_m_river) μ μ1 := Fr.tr (Fr.mono (f_m_in  e42) sbn) (Fr.rf (T_m_river) μ); fi h3 (fun h8 => fr_ret h8 fr5) (fun h7 => fo h7 (fun _ μ9 e41 h11 => have fr13 : Fr (T_m_river) μ μ9 := Fr.tr (Fr.mono (f_m_copies  e41) (sbc (sa_m 0 rfl) (sbc (sa_m 1 rfl) (sbc (sa_m 2 rfl) (sbc (sa_m 3 rfl) (sbc (sa_m 4 rfl) (sbc (sa_m 5 rfl) (sbc (sa_m 6 rfl) (sbc (sa_m 7 rfl) (sbc (sa_m 8 rfl) sbn)))))))))) fr5; fi h11 (fun h15 => fo h15 (fun r20 μ17 e28 h19 => have fr21 : Fr (T_m_river) μ μ17 := Fr.tr (Fr.mono (f_m_quartersOver  e28) sbn) fr13; fo h19 (fun r25 μ22 e27 h24 => have fr26 : Fr (T_m_river) μ μ22 := Fr.tr (Fr.mono (f_m_termOfTwo  e27) sbn) fr21; fr_ret h24 fr26))) (fun h16 => fo h16 (fun r32 μ29 e40 h31 => have fr33 : Fr (T_m_river) μ μ29 := Fr.tr (Fr.mono (f_m_riverOver  e40) sbn) fr13; fo h31 (fun r37 μ34 e39 h36 => have fr38 : Fr (T_m_river) μ μ34 := Fr.tr (Fr.mono (f_m_termOfTwo  e39) sbn) fr33; fr_ret h36 fr38))))))
def T_m_round : List At := [(55, none, some 52), (55, none, some 53), (55, none, some 56), (55, none, some 57), (92, none, none), (93, none, none), (90, none, none), (91, none, none), (89, none, none)]
theorem f_m_round {μ : Mem}   {z : Int32 × Mem} (h : m_round  μ = some z) : Fr (T_m_round) μ z.2 := by
  unfold m_round at h
  exact fo h (fun _ μ1 e17 h3 => have fr5 : Fr (T_m_round) μ μ1 := Fr.tr (Fr.mono (f_m_copies  e17) (sbc (sa_m 0 rfl) (sbc (sa_m 1 rfl) (sbc (sa_m 2 rfl) (sbc (sa_m 3 rfl) (sbc (sa_m 4 rfl) (sbc (sa_m 5 rfl) (sbc (sa_m 6 rfl) (sbc (sa_m 7 rfl) (sbc (sa_m 8 rfl) sbn)))))))))) (Fr.rf (T_m_round) μ); fi h3 (fun h7 => fo h7 (fun r12 μ9 e16 h11 => have fr13 : Fr (T_m_round) μ μ9 := Fr.tr (Fr.mono (f_m_quartersOver  e16) sbn) fr5; (have h15 := fgv h11; fr_ret h15 fr13))) (fun h8 => fr_ret h8 fr5))
def T_m_lacking : List At := [(55, none, some 49), (87, none, none), (86, none, none), (55, none, some 52), (55, none, some 53), (55, none, some 56), (55, none, some 57), (92, none, none), (93, none, none), (90, none, none), (91, none, none), (89, none, none)]
theorem f_m_lacking {μ : Mem}   {z : Int32 × Mem} (h : m_lacking  μ = some z) : Fr (T_m_lacking) μ z.2 := by
  unfold m_lacking at h
  exact fo h (fun _ μ1 e12 h3 => have fr5 : Fr (T_m_lacking) μ μ1 := Fr.tr (Fr.mono (f_m_copies  e12) (sbc (sa_m 3 rfl) (sbc (sa_m 4 rfl) (sbc (sa_m 5 rfl) (sbc (sa_m 6 rfl) (sbc (sa_m 7 rfl) (sbc (sa_m 8 rfl) (sbc (sa_m 9 rfl) (sbc (sa_m 10 rfl) (sbc (sa_m 11 rfl) sbn)))))))))) (Fr.rf (T_m_lacking) μ); fo h3 (fun r9 μ6 e11 h8 => have fr10 : Fr (T_m_lacking) μ μ6 := Fr.tr (Fr.mono (f_m_lackingBits  e11) (sbc (sa_m 0 rfl) (sbc (sa_m 1 rfl) (sbc (sa_m 2 rfl) sbn)))) fr5; fr_ret h8 fr10))
def T_m_dry_L8 : List At := []
theorem f_m_dry_L8 {μ0 : Mem} {T : List At}    {x1 : Int32} {x2 : Int32} {μ : Mem} {z : Int32 × Mem} (h : m_dry_L8  x1 x2 μ = some z) (fr : Fr T μ0 μ) (hT : Sb (T_m_dry_L8) T)   : Fr T μ0 z.2 := by
  have key : ∀ (n : Nat), (∀ (x1 : Int32) (x2 : Int32) (μ : Mem) z, fixN (fun _ _ _ => none) (m_dry_B8 ) n x1 x2 μ = some z → Fr T μ0 μ → Fr T μ0 z.2) := by
    intro n
    refine fixN_ind (fun (f : Int32 → Int32 → Mem → Option (Int32 × Mem)) => ∀ (x1 : Int32) (x2 : Int32) (μ : Mem) z, f x1 x2 μ = some z → Fr T μ0 μ → Fr T μ0 z.2) ?_ ?_ n
    · intro x1 x2 μ z h; cases h
    · intro self hself x1 x2 μ z h fr
      unfold m_dry_B8 at h
      exact (have h7 := fgv h; fi h7 (fun h9 => fr_ret h9 fr) (fun h10 => fi h10 (fun h13 => fo h13 (fun r17 μ14 e22 h16 => have fr18 : Fr T μ0 μ14 := Fr.tr (Fr.mono (f_m_fieldOver  e22) (sbt sbn hT)) fr; fi h16 (fun h21 => hself _ _ _ _ h21 fr18) (fun h20 => hself _ _ _ _ h20 fr18))) (fun h12 => fr_ret h12 fr)))
  exact key 60000 _ _ _ _ h fr
def T_m_dry : List At := [(55, none, some 52), (55, none, some 53), (55, none, some 56), (55, none, some 57), (92, none, none), (93, none, none), (90, none, none), (91, none, none), (89, none, none)]
theorem f_m_dry {μ : Mem}   {z : Int32 × Mem} (h : m_dry  μ = some z) : Fr (T_m_dry) μ z.2 := by
  unfold m_dry at h
  exact fo h (fun _ μ1 e23 h3 => have fr5 : Fr (T_m_dry) μ μ1 := Fr.tr (Fr.mono (f_m_copies  e23) (sbc (sa_m 0 rfl) (sbc (sa_m 1 rfl) (sbc (sa_m 2 rfl) (sbc (sa_m 3 rfl) (sbc (sa_m 4 rfl) (sbc (sa_m 5 rfl) (sbc (sa_m 6 rfl) (sbc (sa_m 7 rfl) (sbc (sa_m 8 rfl) sbn)))))))))) (Fr.rf (T_m_dry) μ); f_m_dry_L8 h3 fr5 sbn  )
def T_m_spread_L12 : List At := []
theorem f_m_spread_L12 {μ0 : Mem} {T : List At}   {k56 : Int32 → Int32 → Mem → Option (Int32 × Mem)} {x1 : Int32} {x2 : Int32} {x3 : Int32} {μ : Mem} {z : Int32 × Mem} (h : m_spread_L12 k56 x1 x2 x3 μ = some z) (fr : Fr T μ0 μ) (hT : Sb (T_m_spread_L12) T)  (hk56 : ∀ (x1 : Int32) (x2 : Int32) (μ : Mem) z, k56 x1 x2 μ = some z → Fr T μ0 μ → Fr T μ0 z.2) : Fr T μ0 z.2 := by
  have key : ∀ (n : Nat), (∀ (x1 : Int32) (x2 : Int32) (x3 : Int32) (μ : Mem) z, fixN (fun _ _ _ _ => none) (m_spread_B12 k56) n x1 x2 x3 μ = some z → Fr T μ0 μ → Fr T μ0 z.2) := by
    intro n
    refine fixN_ind (fun (f : Int32 → Int32 → Int32 → Mem → Option (Int32 × Mem)) => ∀ (x1 : Int32) (x2 : Int32) (x3 : Int32) (μ : Mem) z, f x1 x2 x3 μ = some z → Fr T μ0 μ → Fr T μ0 z.2) ?_ ?_ n
    · intro x1 x2 x3 μ z h; cases h
    · intro self hself x1 x2 x3 μ z h fr
      unfold m_spread_B12 at h
      exact (have h7 := fgv h; fi h7 (fun h9 => hk56 _ _ _ _ h9 fr) (fun h10 => fo h10 (fun r14 μ11 e25 h13 => have fr15 : Fr T μ0 μ11 := Fr.tr (Fr.mono (f_m_flowOf  e25) (sbt sbn hT)) fr; fi h13 (fun h17 => fi h17 (fun h20 => hself _ _ _ _ _ h20 fr15) (fun h21 => hself _ _ _ _ _ h21 fr15)) (fun h18 => fi h18 (fun h23 => hself _ _ _ _ _ h23 fr15) (fun h24 => hself _ _ _ _ _ h24 fr15)))))
  exact key 60000 _ _ _ _ _ h fr
def T_m_spread : List At := [(55, none, some 52), (55, none, some 53), (55, none, some 56), (55, none, some 57), (92, none, none), (93, none, none), (90, none, none), (91, none, none), (89, none, none)]
theorem f_m_spread {μ : Mem}   {z : Int32 × Mem} (h : m_spread  μ = some z) : Fr (T_m_spread) μ z.2 := by
  unfold m_spread at h
  exact fo h (fun _ μ1 e37 h3 => have fr5 : Fr (T_m_spread) μ μ1 := Fr.tr (Fr.mono (f_m_copies  e37) (sbc (sa_m 0 rfl) (sbc (sa_m 1 rfl) (sbc (sa_m 2 rfl) (sbc (sa_m 3 rfl) (sbc (sa_m 4 rfl) (sbc (sa_m 5 rfl) (sbc (sa_m 6 rfl) (sbc (sa_m 7 rfl) (sbc (sa_m 8 rfl) sbn)))))))))) (Fr.rf (T_m_spread) μ); f_m_spread_L12 h3 fr5 sbn  (fun x26 x27 μ28 _ h30 fr31 => (have h33 := fgv h30; fi h33 (fun h36 => fr_ret h36 fr31) (fun h35 => fr_ret h35 fr31))))
def T_m_richest_L9 : List At := []
theorem f_m_richest_L9 {μ0 : Mem} {T : List At}    {x1 : Int32} {x2 : Int32} {μ : Mem} {z : Int32 × Mem} (h : m_richest_L9  x1 x2 μ = some z) (fr : Fr T μ0 μ) (hT : Sb (T_m_richest_L9) T)   : Fr T μ0 z.2 := by
  have key : ∀ (n : Nat), (∀ (x1 : Int32) (x2 : Int32) (μ : Mem) z, fixN (fun _ _ _ => none) (m_richest_B9 ) n x1 x2 μ = some z → Fr T μ0 μ → Fr T μ0 z.2) := by
    intro n
    refine fixN_ind (fun (f : Int32 → Int32 → Mem → Option (Int32 × Mem)) => ∀ (x1 : Int32) (x2 : Int32) (μ : Mem) z, f x1 x2 μ = some z → Fr T μ0 μ → Fr T μ0 z.2) ?_ ?_ n
    · intro x1 x2 μ z h; cases h
    · intro self hself x1 x2 μ z h fr
      unfold m_richest_B9 at h
      exact (have h7 := fgv h; fi h7 (fun h9 => fr_ret h9 fr) (fun h10 => fi h10 (fun h13 => fi h13 (fun h15 => hself _ _ _ _ h15 fr) (fun h16 => fo h16 (fun r20 μ17 e31 h19 => have fr21 : Fr T μ0 μ17 := Fr.tr (Fr.mono (f_m_fieldOver  e31) (sbt sbn hT)) fr; fo h19 (fun r25 μ22 e30 h24 => have fr26 : Fr T μ0 μ22 := Fr.tr (Fr.mono (f_m_fieldOver  e30) (sbt sbn hT)) fr21; fi h24 (fun h28 => hself _ _ _ _ h28 fr26) (fun h29 => hself _ _ _ _ h29 fr26))))) (fun h12 => fr_ret h12 fr)))
  exact key 60000 _ _ _ _ h fr
def T_m_richest : List At := [(55, none, some 52), (55, none, some 53), (55, none, some 56), (55, none, some 57), (92, none, none), (93, none, none), (90, none, none), (91, none, none), (89, none, none)]
theorem f_m_richest {μ : Mem}   {z : Int32 × Mem} (h : m_richest  μ = some z) : Fr (T_m_richest) μ z.2 := by
  unfold m_richest at h
  exact fo h (fun _ μ1 e32 h3 => have fr5 : Fr (T_m_richest) μ μ1 := Fr.tr (Fr.mono (f_m_copies  e32) (sbc (sa_m 0 rfl) (sbc (sa_m 1 rfl) (sbc (sa_m 2 rfl) (sbc (sa_m 3 rfl) (sbc (sa_m 4 rfl) (sbc (sa_m 5 rfl) (sbc (sa_m 6 rfl) (sbc (sa_m 7 rfl) (sbc (sa_m 8 rfl) sbn)))))))))) (Fr.rf (T_m_richest) μ); f_m_richest_L9 h3 fr5 sbn  )
def T_m_keepsOvers_L18 : List At := [(96, none, none)]
theorem f_m_keepsOvers_L18 {μ0 : Mem} {T : List At}    {x1 : Int32} {μ : Mem} {z : Unit × Mem} (h : m_keepsOvers_L18  x1 μ = some z) (fr : Fr T μ0 μ) (hT : Sb (T_m_keepsOvers_L18) T)   : Fr T μ0 z.2 := by
  have key : ∀ (n : Nat), (∀ (x1 : Int32) (μ : Mem) z, fixN (fun _ _ => none) (m_keepsOvers_B18 ) n x1 μ = some z → Fr T μ0 μ → Fr T μ0 z.2) := by
    intro n
    refine fixN_ind (fun (f : Int32 → Mem → Option (Unit × Mem)) => ∀ (x1 : Int32) (μ : Mem) z, f x1 μ = some z → Fr T μ0 μ → Fr T μ0 z.2) ?_ ?_ n
    · intro x1 μ z h; cases h
    · intro self hself x1 μ z h fr
      unfold m_keepsOvers_B18 at h
      exact (have h7 := fgv h; fi h7 (fun h9 => fr_ret h9 fr) (fun h10 => fo h10 (fun r14 μ11 e18 h13 => have fr15 : Fr T μ0 μ11 := Fr.tr (Fr.mono (f_m_fieldOver  e18) (sbt sbn hT)) fr; (have h17 := fgv h13; hself _ _ _ h17 (Fr.stL fr15 (hT _ _ _ (iT 0 rfl inA_nn)))))))
  exact key 60000 _ _ _ h fr
def T_m_keepsOvers : List At := [(55, none, some 65), (55, none, some 64), (96, none, none)]
theorem f_m_keepsOvers {μ : Mem}   {z : Unit × Mem} (h : m_keepsOvers  μ = some z) : Fr (T_m_keepsOvers) μ z.2 := by
  unfold m_keepsOvers at h
  exact (have h2 := fgv h; (let μ3 : Mem := stL (stI μ 55 0 65 (mI μ 55 0 56)) 55 0 64 (mL (stI μ 55 0 65 (mI μ 55 0 56)) 55 0 57); have fr4 : Fr (T_m_keepsOvers) μ μ3 := Fr.stL (Fr.stI (Fr.rf (T_m_keepsOvers) μ) (iT 0 rfl inA_ns)) (iT 1 rfl inA_ns); have h5 := mb_o h2; f_m_keepsOvers_L18 h5 fr4 (sbc (sa_m 2 rfl) sbn)  ))
def T_m_tries : List At := [(55, none, some 56), (55, none, some 57), (92, none, none), (93, none, none), (90, none, none), (91, none, none), (89, none, none)]
theorem f_m_tries {μ : Mem} {x1 : Int32}  {z : Unit × Mem} (h : m_tries x1 μ = some z) : Fr (T_m_tries) μ z.2 := by
  unfold m_tries at h
  exact fo h (fun _ μ1 e12 h3 => have fr5 : Fr (T_m_tries) μ μ1 := Fr.tr (Fr.mono (f_m_steps  e12) (sbc (sa_m 6 rfl) sbn)) (Fr.rf (T_m_tries) μ); fo h3 (fun _ μ6 e11 h8 => have fr10 : Fr (T_m_tries) μ μ6 := Fr.tr (Fr.mono (f_m_parts  e11) (sbc (sa_m 0 rfl) (sbc (sa_m 1 rfl) (sbc (sa_m 2 rfl) (sbc (sa_m 3 rfl) (sbc (sa_m 4 rfl) (sbc (sa_m 5 rfl) sbn))))))) fr5; fr_ret h8 fr10))
def T_m_triesFromNow : List At := [(55, none, some 56), (55, none, some 57), (92, none, none), (93, none, none), (90, none, none), (91, none, none), (89, none, none), (55, none, some 65), (55, none, some 64), (96, none, none), (55, none, some 52), (55, none, some 53)]
theorem f_m_triesFromNow {μ : Mem} {x1 : Int32}  {z : Unit × Mem} (h : m_triesFromNow x1 μ = some z) : Fr (T_m_triesFromNow) μ z.2 := by
  unfold m_triesFromNow at h
  exact fo h (fun _ μ1 e18 h3 => have fr5 : Fr (T_m_triesFromNow) μ μ1 := Fr.tr (Fr.mono (f_m_copies  e18) (sbc (sa_m 10 rfl) (sbc (sa_m 11 rfl) (sbc (sa_m 0 rfl) (sbc (sa_m 1 rfl) (sbc (sa_m 2 rfl) (sbc (sa_m 3 rfl) (sbc (sa_m 4 rfl) (sbc (sa_m 5 rfl) (sbc (sa_m 6 rfl) sbn)))))))))) (Fr.rf (T_m_triesFromNow) μ); fo h3 (fun _ μ6 e17 h8 => have fr10 : Fr (T_m_triesFromNow) μ μ6 := Fr.tr (Fr.mono (f_m_keepsOvers  e17) (sbc (sa_m 7 rfl) (sbc (sa_m 8 rfl) (sbc (sa_m 9 rfl) sbn)))) fr5; fo h8 (fun _ μ11 e16 h13 => have fr15 : Fr (T_m_triesFromNow) μ μ11 := Fr.tr (Fr.mono (f_m_tries  e16) (sbc (sa_m 0 rfl) (sbc (sa_m 1 rfl) (sbc (sa_m 2 rfl) (sbc (sa_m 3 rfl) (sbc (sa_m 4 rfl) (sbc (sa_m 5 rfl) (sbc (sa_m 6 rfl) sbn)))))))) fr10; fr_ret h13 fr15)))
def T_m_feelsOf : List At := []
theorem f_m_feelsOf {μ : Mem} {x1 : Int32}  {z : Int32 × Mem} (h : m_feelsOf x1 μ = some z) : Fr (T_m_feelsOf) μ z.2 := by
  unfold m_feelsOf at h
  exact fi h (fun h3 => fi h3 (fun h5 => fo h5 (fun r10 μ7 e22 h9 => have fr11 : Fr (T_m_feelsOf) μ μ7 := Fr.tr (Fr.mono (f_m_fieldOver  e22) sbn) (Fr.rf (T_m_feelsOf) μ); (have h13 := fgv h9; (let v14 : Int64 := ((mL μ7 96 0 (cl x1)) * (mL μ7 55 0 57)); have h15 := vb_o h13; (fi h15 (fun h17 => fi h17 (fun h20 => fr_ret h20 fr11) (fun h21 => fr_ret h21 fr11)) (fun h18 => fr_ret h18 fr11)))))) (fun h6 => fr_ret h6 (Fr.rf (T_m_feelsOf) μ))) (fun h2 => fr_ret h2 (Fr.rf (T_m_feelsOf) μ))
def T_m_feels : List At := [(55, none, some 56), (55, none, some 57), (92, none, none), (93, none, none), (90, none, none), (91, none, none), (89, none, none), (55, none, some 65), (55, none, some 64), (96, none, none), (55, none, some 52), (55, none, some 53)]
theorem f_m_feels {μ : Mem} {x1 : Int32} {x2 : Int32} {x3 : Int32}  {z : Int32 × Mem} (h : m_feels x1 x2 x3 μ = some z) : Fr (T_m_feels) μ z.2 := by
  unfold m_feels at h
  exact fo h (fun _ μ1 e57 h3 => have fr5 : Fr (T_m_feels) μ μ1 := Fr.tr (Fr.mono (f_m_copies  e57) (sbc (sa_m 10 rfl) (sbc (sa_m 11 rfl) (sbc (sa_m 0 rfl) (sbc (sa_m 1 rfl) (sbc (sa_m 2 rfl) (sbc (sa_m 3 rfl) (sbc (sa_m 4 rfl) (sbc (sa_m 5 rfl) (sbc (sa_m 6 rfl) sbn)))))))))) (Fr.rf (T_m_feels) μ); fo h3 (fun r9 μ6 e56 h8 => have fr10 : Fr (T_m_feels) μ μ6 := Fr.tr (Fr.mono (f_m_isNotch  e56) sbn) fr5; fi h8 (fun h12 => fr_ret h12 fr10) (fun h13 => fo h13 (fun r17 μ14 e55 h16 => have fr18 : Fr (T_m_feels) μ μ14 := Fr.tr (Fr.mono (f_m_isField  e55) sbn) fr10; fi h16 (fun h20 => fr_ret h20 fr18) (fun h21 => fo h21 (fun r25 μ22 e54 h24 => have fr26 : Fr (T_m_feels) μ μ22 := Fr.tr (Fr.mono (f_m_stepOf  e54) sbn) fr18; fo h24 (fun r30 μ27 e53 h29 => have fr31 : Fr (T_m_feels) μ μ27 := Fr.tr (Fr.mono (f_m_canStep  e53) sbn) fr26; fi h29 (fun h34 => fr_ret h34 fr31) (fun h33 => fo h33 (fun r38 μ35 e52 h37 => have fr39 : Fr (T_m_feels) μ μ35 := Fr.tr (Fr.mono (f_m_stepOf  e52) sbn) fr31; fo h37 (fun _ μ40 e51 h42 => have fr44 : Fr (T_m_feels) μ μ40 := Fr.tr (Fr.mono (f_m_triesFromNow  e51) (sbc (sa_m 0 rfl) (sbc (sa_m 1 rfl) (sbc (sa_m 2 rfl) (sbc (sa_m 3 rfl) (sbc (sa_m 4 rfl) (sbc (sa_m 5 rfl) (sbc (sa_m 6 rfl) (sbc (sa_m 7 rfl) (sbc (sa_m 8 rfl) (sbc (sa_m 9 rfl) (sbc (sa_m 10 rfl) (sbc (sa_m 11 rfl) sbn))))))))))))) fr39; fo h42 (fun r48 μ45 e50 h47 => have fr49 : Fr (T_m_feels) μ μ45 := Fr.tr (Fr.mono (f_m_feelsOf  e50) sbn) fr44; fr_ret h47 fr49)))))))))))
def T_m_isFelt_L2 : List At := []
theorem f_m_isFelt_L2 {μ0 : Mem} {T : List At}    {x1 : Int32} {μ : Mem} {z : Int32 × Mem} (h : m_isFelt_L2  x1 μ = some z) (fr : Fr T μ0 μ) (hT : Sb (T_m_isFelt_L2) T)   : Fr T μ0 z.2 := by
  have key : ∀ (n : Nat), (∀ (x1 : Int32) (μ : Mem) z, fixN (fun _ _ => none) (m_isFelt_B2 ) n x1 μ = some z → Fr T μ0 μ → Fr T μ0 z.2) := by
    intro n
    refine fixN_ind (fun (f : Int32 → Mem → Option (Int32 × Mem)) => ∀ (x1 : Int32) (μ : Mem) z, f x1 μ = some z → Fr T μ0 μ → Fr T μ0 z.2) ?_ ?_ n
    · intro x1 μ z h; cases h
    · intro self hself x1 μ z h fr
      unfold m_isFelt_B2 at h
      exact (have h2 := fgv h; fi h2 (fun h4 => fr_ret h4 fr) (fun h5 => fo h5 (fun r9 μ6 e14 h8 => have fr10 : Fr T μ0 μ6 := Fr.tr (Fr.mono (f_m_feelsOf  e14) (sbt sbn hT)) fr; fi h8 (fun h12 => hself _ _ _ h12 fr10) (fun h13 => fr_ret h13 fr10))))
  exact key 60000 _ _ _ h fr
def T_m_isFelt : List At := []
theorem f_m_isFelt {μ : Mem}   {z : Int32 × Mem} (h : m_isFelt  μ = some z) : Fr (T_m_isFelt) μ z.2 := by
  unfold m_isFelt at h
  exact f_m_isFelt_L2 h (Fr.rf (T_m_isFelt) μ) sbn  
def T_m_unfelt_L13 : List At := [(55, none, some 56), (55, none, some 57), (92, none, none), (93, none, none), (90, none, none), (91, none, none), (89, none, none), (55, none, some 65), (55, none, some 64), (96, none, none), (55, none, some 52), (55, none, some 53)]
theorem f_m_unfelt_L13 {μ0 : Mem} {T : List At} {x1 : Int32}   {x2 : Int32} {x3 : Int32} {μ : Mem} {z : Int32 × Mem} (h : m_unfelt_L13 x1 x2 x3 μ = some z) (fr : Fr T μ0 μ) (hT : Sb (T_m_unfelt_L13) T)   : Fr T μ0 z.2 := by
  have key : ∀ (n : Nat), (∀ (x2 : Int32) (x3 : Int32) (μ : Mem) z, fixN (fun _ _ _ => none) (m_unfelt_B13 x1) n x2 x3 μ = some z → Fr T μ0 μ → Fr T μ0 z.2) := by
    intro n
    refine fixN_ind (fun (f : Int32 → Int32 → Mem → Option (Int32 × Mem)) => ∀ (x2 : Int32) (x3 : Int32) (μ : Mem) z, f x2 x3 μ = some z → Fr T μ0 μ → Fr T μ0 z.2) ?_ ?_ n
    · intro x2 x3 μ z h; cases h
    · intro self hself x2 x3 μ z h fr
      unfold m_unfelt_B13 at h
      exact fi h (fun h12 => fr_ret h12 fr) (fun h13 => fi h13 (fun h16 => hself _ _ _ _ h16 fr) (fun h15 => fo h15 (fun _ μ17 e31 h19 => have fr21 : Fr T μ0 μ17 := Fr.tr (Fr.mono (f_m_triesFromNow  e31) (sbt (sbc (sa_m 0 rfl) (sbc (sa_m 1 rfl) (sbc (sa_m 2 rfl) (sbc (sa_m 3 rfl) (sbc (sa_m 4 rfl) (sbc (sa_m 5 rfl) (sbc (sa_m 6 rfl) (sbc (sa_m 7 rfl) (sbc (sa_m 8 rfl) (sbc (sa_m 9 rfl) (sbc (sa_m 10 rfl) (sbc (sa_m 11 rfl) sbn)))))))))))) hT)) fr; fo h19 (fun r25 μ22 e30 h24 => have fr26 : Fr T μ0 μ22 := Fr.tr (Fr.mono (f_m_isFelt  e30) (sbt sbn hT)) fr21; fi h24 (fun h29 => hself _ _ _ _ h29 fr26) (fun h28 => hself _ _ _ _ h28 fr26)))))
  exact key 60000 _ _ _ _ h fr
def T_m_unfelt : List At := [(55, none, some 56), (55, none, some 57), (92, none, none), (93, none, none), (90, none, none), (91, none, none), (89, none, none), (55, none, some 65), (55, none, some 64), (96, none, none), (55, none, some 52), (55, none, some 53)]
theorem f_m_unfelt {μ : Mem}   {z : Int32 × Mem} (h : m_unfelt  μ = some z) : Fr (T_m_unfelt) μ z.2 := by
  unfold m_unfelt at h
  exact fo h (fun _ μ1 e33 h3 => have fr5 : Fr (T_m_unfelt) μ μ1 := Fr.tr (Fr.mono (f_m_copies  e33) (sbc (sa_m 10 rfl) (sbc (sa_m 11 rfl) (sbc (sa_m 0 rfl) (sbc (sa_m 1 rfl) (sbc (sa_m 2 rfl) (sbc (sa_m 3 rfl) (sbc (sa_m 4 rfl) (sbc (sa_m 5 rfl) (sbc (sa_m 6 rfl) sbn)))))))))) (Fr.rf (T_m_unfelt) μ); fo h3 (fun r9 μ6 e32 h8 => have fr10 : Fr (T_m_unfelt) μ μ6 := Fr.tr (Fr.mono (f_m_canBits  e32) sbn) fr5; f_m_unfelt_L13 h8 fr10 (sbc (sa_m 0 rfl) (sbc (sa_m 1 rfl) (sbc (sa_m 2 rfl) (sbc (sa_m 3 rfl) (sbc (sa_m 4 rfl) (sbc (sa_m 5 rfl) (sbc (sa_m 6 rfl) (sbc (sa_m 7 rfl) (sbc (sa_m 8 rfl) (sbc (sa_m 9 rfl) (sbc (sa_m 10 rfl) (sbc (sa_m 11 rfl) sbn))))))))))))  ))
def T_m_best_L45 : List At := [(55, none, some 56), (55, none, some 57), (92, none, none), (93, none, none), (90, none, none), (91, none, none), (89, none, none), (55, none, some 65), (55, none, some 64), (96, none, none), (55, none, some 52), (55, none, some 53)]
theorem f_m_best_L45 {μ0 : Mem} {T : List At} {x1 : Int32} {x2 : Int32} {x3 : Int32}  {k136 : Int32 → Int32 → Mem → Option (Int32 × Mem)} {x4 : Int32} {x5 : Int32} {x6 : Int64} {x8 : Int64} {x10 : Int32} {μ : Mem} {z : Int32 × Mem} (h : m_best_L45 x1 x2 x3 k136 x4 x5 x6 x8 x10 μ = some z) (fr : Fr T μ0 μ) (hT : Sb (T_m_best_L45) T)  (hk136 : ∀ (x4 : Int32) (x5 : Int32) (μ : Mem) z, k136 x4 x5 μ = some z → Fr T μ0 μ → Fr T μ0 z.2) : Fr T μ0 z.2 := by
  have key : ∀ (n : Nat), (∀ (x4 : Int32) (x5 : Int32) (x6 : Int64) (x8 : Int64) (x10 : Int32) (μ : Mem) z, fixN (fun _ _ _ _ _ _ => none) (m_best_B45 x1 x2 x3 k136) n x4 x5 x6 x8 x10 μ = some z → Fr T μ0 μ → Fr T μ0 z.2) := by
    intro n
    refine fixN_ind (fun (f : Int32 → Int32 → Int64 → Int64 → Int32 → Mem → Option (Int32 × Mem)) => ∀ (x4 : Int32) (x5 : Int32) (x6 : Int64) (x8 : Int64) (x10 : Int32) (μ : Mem) z, f x4 x5 x6 x8 x10 μ = some z → Fr T μ0 μ → Fr T μ0 z.2) ?_ ?_ n
    · intro x4 x5 x6 x8 x10 μ z h; cases h
    · intro self hself x4 x5 x6 x8 x10 μ z h fr
      unfold m_best_B45 at h
      exact fi h (fun h28 => hk136 _ _ _ _ h28 fr) (fun h29 => fi h29 (fun h32 => hself _ _ _ _ _ _ _ h32 fr) (fun h31 => fo h31 (fun _ μ33 e83 h35 => have fr37 : Fr T μ0 μ33 := Fr.tr (Fr.mono (f_m_triesFromNow  e83) (sbt (sbc (sa_m 0 rfl) (sbc (sa_m 1 rfl) (sbc (sa_m 2 rfl) (sbc (sa_m 3 rfl) (sbc (sa_m 4 rfl) (sbc (sa_m 5 rfl) (sbc (sa_m 6 rfl) (sbc (sa_m 7 rfl) (sbc (sa_m 8 rfl) (sbc (sa_m 9 rfl) (sbc (sa_m 10 rfl) (sbc (sa_m 11 rfl) sbn)))))))))))) hT)) fr; fo h35 (fun r41 μ38 e82 h40 => have fr42 : Fr T μ0 μ38 := Fr.tr (Fr.mono (f_m_feelsOf  e82) (sbt sbn hT)) fr37; fi h40 (fun h45 => fi h45 (fun h47 => fo h47 (fun r52 μ49 e60 h51 => have fr53 : Fr T μ0 μ49 := Fr.tr (Fr.mono (f_m_flowOf  e60) (sbt sbn hT)) fr42; fo h51 (fun r57 μ54 e59 h56 => have fr58 : Fr T μ0 μ54 := Fr.tr (Fr.mono (f_m_fieldOver  e59) (sbt sbn hT)) fr53; hself _ _ _ _ _ _ _ h56 fr58))) (fun h48 => fo h48 (fun r64 μ61 e81 h63 => have fr65 : Fr T μ0 μ61 := Fr.tr (Fr.mono (f_m_fieldOver  e81) (sbt sbn hT)) fr42; fi h63 (fun h67 => fo h67 (fun r72 μ69 e80 h71 => have fr73 : Fr T μ0 μ69 := Fr.tr (Fr.mono (f_m_flowOf  e80) (sbt sbn hT)) fr65; fo h71 (fun r77 μ74 e79 h76 => have fr78 : Fr T μ0 μ74 := Fr.tr (Fr.mono (f_m_fieldOver  e79) (sbt sbn hT)) fr73; hself _ _ _ _ _ _ _ h76 fr78))) (fun h68 => hself _ _ _ _ _ _ _ h68 fr65)))) (fun h44 => hself _ _ _ _ _ _ _ h44 fr42)))))
  exact key 60000 _ _ _ _ _ _ _ h fr
def T_m_best : List At := [(55, none, some 56), (55, none, some 57), (92, none, none), (93, none, none), (90, none, none), (91, none, none), (89, none, none), (55, none, some 65), (55, none, some 64), (96, none, none), (55, none, some 52), (55, none, some 53)]
theorem f_m_best {μ : Mem} {x1 : Int32} {x2 : Int32}  {z : Int32 × Mem} (h : m_best x1 x2 μ = some z) : Fr (T_m_best) μ z.2 := by
  unfold m_best at h
  exact fo h (fun r4 μ1 e96 h3 => have fr5 : Fr (T_m_best) μ μ1 := Fr.tr (Fr.mono (f_m_isField  e96) sbn) (Fr.rf (T_m_best) μ); fi h3 (fun h7 => fr_ret h7 fr5) (fun h8 => fo h8 (fun r12 μ9 e95 h11 => have fr13 : Fr (T_m_best) μ μ9 := Fr.tr (Fr.mono (f_m_in  e95) sbn) fr5; fi h11 (fun h16 => fr_ret h16 fr13) (fun h15 => fo h15 (fun _ μ17 e94 h19 => have fr21 : Fr (T_m_best) μ μ17 := Fr.tr (Fr.mono (f_m_copies  e94) (sbc (sa_m 10 rfl) (sbc (sa_m 11 rfl) (sbc (sa_m 0 rfl) (sbc (sa_m 1 rfl) (sbc (sa_m 2 rfl) (sbc (sa_m 3 rfl) (sbc (sa_m 4 rfl) (sbc (sa_m 5 rfl) (sbc (sa_m 6 rfl) sbn)))))))))) fr13; fo h19 (fun r25 μ22 e93 h24 => have fr26 : Fr (T_m_best) μ μ22 := Fr.tr (Fr.mono (f_m_canBits  e93) sbn) fr21; f_m_best_L45 h24 fr26 (sbc (sa_m 0 rfl) (sbc (sa_m 1 rfl) (sbc (sa_m 2 rfl) (sbc (sa_m 3 rfl) (sbc (sa_m 4 rfl) (sbc (sa_m 5 rfl) (sbc (sa_m 6 rfl) (sbc (sa_m 7 rfl) (sbc (sa_m 8 rfl) (sbc (sa_m 9 rfl) (sbc (sa_m 10 rfl) (sbc (sa_m 11 rfl) sbn))))))))))))  (fun x84 x85 μ86 _ h88 fr89 => fi h88 (fun h92 => fr_ret h92 fr89) (fun h91 => fr_ret h91 fr89))))))))
def T_m_isLed_L2 : List At := []
theorem f_m_isLed_L2 {μ0 : Mem} {T : List At} {x1 : Int32} {x2 : Int32}   {x3 : Int32} {μ : Mem} {z : Int32 × Mem} (h : m_isLed_L2 x1 x2 x3 μ = some z) (fr : Fr T μ0 μ) (hT : Sb (T_m_isLed_L2) T)   : Fr T μ0 z.2 := by
  have key : ∀ (n : Nat), (∀ (x3 : Int32) (μ : Mem) z, fixN (fun _ _ => none) (m_isLed_B2 x1 x2) n x3 μ = some z → Fr T μ0 μ → Fr T μ0 z.2) := by
    intro n
    refine fixN_ind (fun (f : Int32 → Mem → Option (Int32 × Mem)) => ∀ (x3 : Int32) (μ : Mem) z, f x3 μ = some z → Fr T μ0 μ → Fr T μ0 z.2) ?_ ?_ n
    · intro x3 μ z h; cases h
    · intro self hself x3 μ z h fr
      unfold m_isLed_B2 at h
      exact (have h2 := fgv h; fi h2 (fun h4 => fr_ret h4 fr) (fun h5 => fo h5 (fun r9 μ6 e28 h8 => have fr10 : Fr T μ0 μ6 := Fr.tr (Fr.mono (f_m_fromLog  e28) (sbt sbn hT)) fr; fi h8 (fun h13 => fo h13 (fun r17 μ14 e27 h16 => have fr18 : Fr T μ0 μ14 := Fr.tr (Fr.mono (f_m_toWhere  e27) (sbt sbn hT)) fr10; fi h16 (fun h21 => (have h23 := fgv h21; fi h23 (fun h25 => hself _ _ _ h25 fr18) (fun h26 => fr_ret h26 fr18))) (fun h20 => hself _ _ _ h20 fr18))) (fun h12 => hself _ _ _ h12 fr10))))
  exact key 60000 _ _ _ h fr
def T_m_isLed : List At := []
theorem f_m_isLed {μ : Mem} {x1 : Int32} {x2 : Int32}  {z : Int32 × Mem} (h : m_isLed x1 x2 μ = some z) : Fr (T_m_isLed) μ z.2 := by
  unfold m_isLed at h
  exact f_m_isLed_L2 h (Fr.rf (T_m_isLed) μ) sbn  
def T_m_tempted_L38 : List At := []
theorem f_m_tempted_L38 {μ0 : Mem} {T : List At} {x1 : Int32} {x3 : Int32}  {k91 : Int32 → Mem → Option (Int32 × Mem)} {x2 : Int32} {x4 : Int32} {μ : Mem} {z : Int32 × Mem} (h : m_tempted_L38 x1 x3 k91 x2 x4 μ = some z) (fr : Fr T μ0 μ) (hT : Sb (T_m_tempted_L38) T)  (hk91 : ∀ (x2 : Int32) (μ : Mem) z, k91 x2 μ = some z → Fr T μ0 μ → Fr T μ0 z.2) : Fr T μ0 z.2 := by
  have key : ∀ (n : Nat), (∀ (x2 : Int32) (x4 : Int32) (μ : Mem) z, fixN (fun _ _ _ => none) (m_tempted_B38 x1 x3 k91) n x2 x4 μ = some z → Fr T μ0 μ → Fr T μ0 z.2) := by
    intro n
    refine fixN_ind (fun (f : Int32 → Int32 → Mem → Option (Int32 × Mem)) => ∀ (x2 : Int32) (x4 : Int32) (μ : Mem) z, f x2 x4 μ = some z → Fr T μ0 μ → Fr T μ0 z.2) ?_ ?_ n
    · intro x2 x4 μ z h; cases h
    · intro self hself x2 x4 μ z h fr
      unfold m_tempted_B38 at h
      exact (have h23 := fgv h; fi h23 (fun h25 => hk91 _ _ _ h25 fr) (fun h26 => fo h26 (fun r30 μ27 e50 h29 => have fr31 : Fr T μ0 μ27 := Fr.tr (Fr.mono (f_m_feelsOf  e50) (sbt sbn hT)) fr; fi h29 (fun h34 => fo h34 (fun r38 μ35 e49 h37 => have fr39 : Fr T μ0 μ35 := Fr.tr (Fr.mono (f_m_fromLog  e49) (sbt sbn hT)) fr31; fo h37 (fun r43 μ40 e48 h42 => have fr44 : Fr T μ0 μ40 := Fr.tr (Fr.mono (f_m_isLed  e48) (sbt sbn hT)) fr39; fi h42 (fun h46 => hself _ _ _ _ h46 fr44) (fun h47 => hself _ _ _ _ h47 fr44)))) (fun h33 => hself _ _ _ _ h33 fr31))))
  exact key 60000 _ _ _ _ h fr
def T_m_tempted_L13 : List At := [(55, none, some 56), (55, none, some 57), (92, none, none), (93, none, none), (90, none, none), (91, none, none), (89, none, none), (55, none, some 65), (55, none, some 64), (96, none, none), (55, none, some 52), (55, none, some 53)]
theorem f_m_tempted_L13 {μ0 : Mem} {T : List At} {x1 : Int32}   {x2 : Int32} {x3 : Int32} {μ : Mem} {z : Int32 × Mem} (h : m_tempted_L13 x1 x2 x3 μ = some z) (fr : Fr T μ0 μ) (hT : Sb (T_m_tempted_L13) T)   : Fr T μ0 z.2 := by
  have key : ∀ (n : Nat), (∀ (x2 : Int32) (x3 : Int32) (μ : Mem) z, fixN (fun _ _ _ => none) (m_tempted_B13 x1) n x2 x3 μ = some z → Fr T μ0 μ → Fr T μ0 z.2) := by
    intro n
    refine fixN_ind (fun (f : Int32 → Int32 → Mem → Option (Int32 × Mem)) => ∀ (x2 : Int32) (x3 : Int32) (μ : Mem) z, f x2 x3 μ = some z → Fr T μ0 μ → Fr T μ0 z.2) ?_ ?_ n
    · intro x2 x3 μ z h; cases h
    · intro self hself x2 x3 μ z h fr
      unfold m_tempted_B13 at h
      exact fi h (fun h12 => fr_ret h12 fr) (fun h13 => fi h13 (fun h16 => hself _ _ _ _ h16 fr) (fun h15 => fo h15 (fun _ μ17 e56 h19 => have fr21 : Fr T μ0 μ17 := Fr.tr (Fr.mono (f_m_triesFromNow  e56) (sbt (sbc (sa_m 0 rfl) (sbc (sa_m 1 rfl) (sbc (sa_m 2 rfl) (sbc (sa_m 3 rfl) (sbc (sa_m 4 rfl) (sbc (sa_m 5 rfl) (sbc (sa_m 6 rfl) (sbc (sa_m 7 rfl) (sbc (sa_m 8 rfl) (sbc (sa_m 9 rfl) (sbc (sa_m 10 rfl) (sbc (sa_m 11 rfl) sbn)))))))))))) hT)) fr; f_m_tempted_L38 h19 fr21 (sbt sbn hT)  (fun x51 μ52 _ h54 fr55 => hself _ _ _ _ h54 fr55))))
  exact key 60000 _ _ _ _ h fr
def T_m_tempted : List At := [(55, none, some 56), (55, none, some 57), (92, none, none), (93, none, none), (90, none, none), (91, none, none), (89, none, none), (55, none, some 65), (55, none, some 64), (96, none, none), (55, none, some 52), (55, none, some 53)]
theorem f_m_tempted {μ : Mem}   {z : Int32 × Mem} (h : m_tempted  μ = some z) : Fr (T_m_tempted) μ z.2 := by
  unfold m_tempted at h
  exact fo h (fun _ μ1 e58 h3 => have fr5 : Fr (T_m_tempted) μ μ1 := Fr.tr (Fr.mono (f_m_copies  e58) (sbc (sa_m 10 rfl) (sbc (sa_m 11 rfl) (sbc (sa_m 0 rfl) (sbc (sa_m 1 rfl) (sbc (sa_m 2 rfl) (sbc (sa_m 3 rfl) (sbc (sa_m 4 rfl) (sbc (sa_m 5 rfl) (sbc (sa_m 6 rfl) sbn)))))))))) (Fr.rf (T_m_tempted) μ); fo h3 (fun r9 μ6 e57 h8 => have fr10 : Fr (T_m_tempted) μ μ6 := Fr.tr (Fr.mono (f_m_canBits  e57) sbn) fr5; f_m_tempted_L13 h8 fr10 (sbc (sa_m 0 rfl) (sbc (sa_m 1 rfl) (sbc (sa_m 2 rfl) (sbc (sa_m 3 rfl) (sbc (sa_m 4 rfl) (sbc (sa_m 5 rfl) (sbc (sa_m 6 rfl) (sbc (sa_m 7 rfl) (sbc (sa_m 8 rfl) (sbc (sa_m 9 rfl) (sbc (sa_m 10 rfl) (sbc (sa_m 11 rfl) sbn))))))))))))  ))
def T_m_areDone_L6 : List At := [(89, none, none)]
theorem f_m_areDone_L6 {μ0 : Mem} {T : List At} {x1 : Int32}  {k42 : Mem → Option (Int32 × Mem)} {x2 : Int32} {μ : Mem} {z : Int32 × Mem} (h : m_areDone_L6 x1 k42 x2 μ = some z) (fr : Fr T μ0 μ) (hT : Sb (T_m_areDone_L6) T)  (hk42 : ∀  (μ : Mem) z, k42  μ = some z → Fr T μ0 μ → Fr T μ0 z.2) : Fr T μ0 z.2 := by
  have key : ∀ (n : Nat), (∀ (x2 : Int32) (μ : Mem) z, fixN (fun _ _ => none) (m_areDone_B6 x1 k42) n x2 μ = some z → Fr T μ0 μ → Fr T μ0 z.2) := by
    intro n
    refine fixN_ind (fun (f : Int32 → Mem → Option (Int32 × Mem)) => ∀ (x2 : Int32) (μ : Mem) z, f x2 μ = some z → Fr T μ0 μ → Fr T μ0 z.2) ?_ ?_ n
    · intro x2 μ z h; cases h
    · intro self hself x2 μ z h fr
      unfold m_areDone_B6 at h
      exact fi h (fun h7 => hk42 _ _ h7 fr) (fun h8 => (have h10 := fgv h8; fo h10 (fun r14 μ11 e25 h13 => have fr15 : Fr T μ0 μ11 := Fr.tr (Fr.mono (f_m_canStep  e25) (sbt sbn hT)) fr; fi h13 (fun h18 => fr_ret h18 fr15) (fun h17 => fo h17 (fun _ μ19 e24 h21 => have fr23 : Fr T μ0 μ19 := Fr.tr (Fr.mono (f_m_steps  e24) (sbt (sbc (sa_m 0 rfl) sbn) hT)) fr15; hself _ _ _ h21 fr23)))))
  exact key 60000 _ _ _ h fr
def T_m_areDone : List At := [(55, none, some 49), (87, none, none), (86, none, none), (55, none, some 56), (55, none, some 57), (92, none, none), (93, none, none), (90, none, none), (91, none, none), (89, none, none), (55, none, some 52), (55, none, some 53)]
theorem f_m_areDone {μ : Mem} {x1 : Int32}  {z : Int32 × Mem} (h : m_areDone x1 μ = some z) : Fr (T_m_areDone) μ z.2 := by
  unfold m_areDone at h
  exact fo h (fun _ μ1 e48 h3 => have fr5 : Fr (T_m_areDone) μ μ1 := Fr.tr (Fr.mono (f_m_copies  e48) (sbc (sa_m 10 rfl) (sbc (sa_m 11 rfl) (sbc (sa_m 3 rfl) (sbc (sa_m 4 rfl) (sbc (sa_m 5 rfl) (sbc (sa_m 6 rfl) (sbc (sa_m 7 rfl) (sbc (sa_m 8 rfl) (sbc (sa_m 9 rfl) sbn)))))))))) (Fr.rf (T_m_areDone) μ); f_m_areDone_L6 h3 fr5 (sbc (sa_m 9 rfl) sbn)  (fun  μ26 _ h28 fr29 => fo h28 (fun _ μ30 e47 h32 => have fr34 : Fr (T_m_areDone) μ μ30 := Fr.tr (Fr.mono (f_m_parts  e47) (sbc (sa_m 3 rfl) (sbc (sa_m 4 rfl) (sbc (sa_m 5 rfl) (sbc (sa_m 6 rfl) (sbc (sa_m 7 rfl) (sbc (sa_m 8 rfl) sbn))))))) fr29; fi h32 (fun h37 => fo h37 (fun r41 μ38 e46 h40 => have fr42 : Fr (T_m_areDone) μ μ38 := Fr.tr (Fr.mono (f_m_lackingBits  e46) (sbc (sa_m 0 rfl) (sbc (sa_m 1 rfl) (sbc (sa_m 2 rfl) sbn)))) fr34; fi h40 (fun h45 => fr_ret h45 fr42) (fun h44 => fr_ret h44 fr42))) (fun h36 => fr_ret h36 fr34))))
def T_m_goesOnTo_L4 : List At := []
theorem f_m_goesOnTo_L4 {μ0 : Mem} {T : List At} {x1 : Int32}  {k25 : Int32 → Mem → Option (Int32 × Mem)} {x2 : Int32} {μ : Mem} {z : Int32 × Mem} (h : m_goesOnTo_L4 x1 k25 x2 μ = some z) (fr : Fr T μ0 μ) (hT : Sb (T_m_goesOnTo_L4) T)  (hk25 : ∀ (x2 : Int32) (μ : Mem) z, k25 x2 μ = some z → Fr T μ0 μ → Fr T μ0 z.2) : Fr T μ0 z.2 := by
  have key : ∀ (n : Nat), (∀ (x2 : Int32) (μ : Mem) z, fixN (fun _ _ => none) (m_goesOnTo_B4 x1 k25) n x2 μ = some z → Fr T μ0 μ → Fr T μ0 z.2) := by
    intro n
    refine fixN_ind (fun (f : Int32 → Mem → Option (Int32 × Mem)) => ∀ (x2 : Int32) (μ : Mem) z, f x2 μ = some z → Fr T μ0 μ → Fr T μ0 z.2) ?_ ?_ n
    · intro x2 μ z h; cases h
    · intro self hself x2 μ z h fr
      unfold m_goesOnTo_B4 at h
      exact fi h (fun h2 => hk25 _ _ _ h2 fr) (fun h3 => (have h5 := fgv h3; fi h5 (fun h8 => hself _ _ _ h8 fr) (fun h7 => hk25 _ _ _ h7 fr)))
  exact key 60000 _ _ _ h fr
def T_m_goesOnTo_L43 : List At := [(97, none, none)]
theorem f_m_goesOnTo_L43 {μ0 : Mem} {T : List At} {x1 : Int32} {x3 : Int32}   {x4 : Int32} {μ : Mem} {z : Int32 × Mem} (h : m_goesOnTo_L43 x1 x3 x4 μ = some z) (fr : Fr T μ0 μ) (hT : Sb (T_m_goesOnTo_L43) T)   : Fr T μ0 z.2 := by
  have key : ∀ (n : Nat), (∀ (x4 : Int32) (μ : Mem) z, fixN (fun _ _ => none) (m_goesOnTo_B43 x1 x3) n x4 μ = some z → Fr T μ0 μ → Fr T μ0 z.2) := by
    intro n
    refine fixN_ind (fun (f : Int32 → Mem → Option (Int32 × Mem)) => ∀ (x4 : Int32) (μ : Mem) z, f x4 μ = some z → Fr T μ0 μ → Fr T μ0 z.2) ?_ ?_ n
    · intro x4 μ z h; cases h
    · intro self hself x4 μ z h fr
      unfold m_goesOnTo_B43 at h
      exact fi h (fun h20 => fr_ret h20 fr) (fun h21 => (have h23 := fgv h21; hself _ _ _ h23 (Fr.stI fr (hT _ _ _ (iT 0 rfl inA_nn)))))
  exact key 60000 _ _ _ h fr
def T_m_goesOnTo : List At := [(97, none, none)]
theorem f_m_goesOnTo {μ : Mem} {x1 : Int32}  {z : Int32 × Mem} (h : m_goesOnTo x1 μ = some z) : Fr (T_m_goesOnTo) μ z.2 := by
  unfold m_goesOnTo at h
  exact f_m_goesOnTo_L4 h (Fr.rf (T_m_goesOnTo) μ) sbn  (fun x9 μ10 _ h12 fr13 => fi h12 (fun h15 => (have h18 := fgv h15; f_m_goesOnTo_L43 h18 fr13 (sbc (sa_m 0 rfl) sbn)  )) (fun h16 => fr_ret h16 fr13))
def T_m_mendOf_L9 : List At := [(97, none, none)]
theorem f_m_mendOf_L9 {μ0 : Mem} {T : List At} {x1 : Int32}  {k27 : Mem → Option (Int32 × Mem)} {x2 : Int32} {μ : Mem} {z : Int32 × Mem} (h : m_mendOf_L9 x1 k27 x2 μ = some z) (fr : Fr T μ0 μ) (hT : Sb (T_m_mendOf_L9) T)  (hk27 : ∀  (μ : Mem) z, k27  μ = some z → Fr T μ0 μ → Fr T μ0 z.2) : Fr T μ0 z.2 := by
  have key : ∀ (n : Nat), (∀ (x2 : Int32) (μ : Mem) z, fixN (fun _ _ => none) (m_mendOf_B9 x1 k27) n x2 μ = some z → Fr T μ0 μ → Fr T μ0 z.2) := by
    intro n
    refine fixN_ind (fun (f : Int32 → Mem → Option (Int32 × Mem)) => ∀ (x2 : Int32) (μ : Mem) z, f x2 μ = some z → Fr T μ0 μ → Fr T μ0 z.2) ?_ ?_ n
    · intro x2 μ z h; cases h
    · intro self hself x2 μ z h fr
      unfold m_mendOf_B9 at h
      exact fi h (fun h5 => hk27 _ _ h5 fr) (fun h6 => (have h8 := fgv h6; hself _ _ _ h8 (Fr.stI fr (hT _ _ _ (iT 0 rfl inA_nn)))))
  exact key 60000 _ _ _ h fr
def T_m_mendOf_L29 : List At := [(97, none, none), (55, none, some 49), (87, none, none), (86, none, none), (55, none, some 56), (55, none, some 57), (92, none, none), (93, none, none), (90, none, none), (91, none, none), (89, none, none), (55, none, some 52), (55, none, some 53)]
theorem f_m_mendOf_L29 {μ0 : Mem} {T : List At} {x1 : Int32}  {k52 : Mem → Option (Int32 × Mem)} {x2 : Int32} {μ : Mem} {z : Int32 × Mem} (h : m_mendOf_L29 x1 k52 x2 μ = some z) (fr : Fr T μ0 μ) (hT : Sb (T_m_mendOf_L29) T)  (hk52 : ∀  (μ : Mem) z, k52  μ = some z → Fr T μ0 μ → Fr T μ0 z.2) : Fr T μ0 z.2 := by
  have key : ∀ (n : Nat), (∀ (x2 : Int32) (μ : Mem) z, fixN (fun _ _ => none) (m_mendOf_B29 x1 k52) n x2 μ = some z → Fr T μ0 μ → Fr T μ0 z.2) := by
    intro n
    refine fixN_ind (fun (f : Int32 → Mem → Option (Int32 × Mem)) => ∀ (x2 : Int32) (μ : Mem) z, f x2 μ = some z → Fr T μ0 μ → Fr T μ0 z.2) ?_ ?_ n
    · intro x2 μ z h; cases h
    · intro self hself x2 μ z h fr
      unfold m_mendOf_B29 at h
      exact fi h (fun h14 => hk52 _ _ h14 fr) (fun h15 => fo h15 (fun r19 μ16 e30 h18 => have fr20 : Fr T μ0 μ16 := Fr.tr (Fr.mono (f_m_areDone  e30) (sbt (sbc (sa_m 1 rfl) (sbc (sa_m 2 rfl) (sbc (sa_m 3 rfl) (sbc (sa_m 4 rfl) (sbc (sa_m 5 rfl) (sbc (sa_m 6 rfl) (sbc (sa_m 7 rfl) (sbc (sa_m 8 rfl) (sbc (sa_m 9 rfl) (sbc (sa_m 10 rfl) (sbc (sa_m 11 rfl) (sbc (sa_m 12 rfl) sbn)))))))))))) hT)) fr; fi h18 (fun h22 => fo h22 (fun r27 μ24 e29 h26 => have fr28 : Fr T μ0 μ24 := Fr.tr (Fr.mono (f_m_goesOnTo  e29) (sbt (sbc (sa_m 0 rfl) sbn) hT)) fr20; hself _ _ _ h26 fr28)) (fun h23 => fr_ret h23 fr20)))
  exact key 60000 _ _ _ h fr
def T_m_mendOf_L2 : List At := [(97, none, none), (55, none, some 49), (87, none, none), (86, none, none), (55, none, some 56), (55, none, some 57), (92, none, none), (93, none, none), (90, none, none), (91, none, none), (89, none, none), (55, none, some 52), (55, none, some 53)]
theorem f_m_mendOf_L2 {μ0 : Mem} {T : List At}    {x1 : Int32} {μ : Mem} {z : Int32 × Mem} (h : m_mendOf_L2  x1 μ = some z) (fr : Fr T μ0 μ) (hT : Sb (T_m_mendOf_L2) T)   : Fr T μ0 z.2 := by
  have key : ∀ (n : Nat), (∀ (x1 : Int32) (μ : Mem) z, fixN (fun _ _ => none) (m_mendOf_B2 ) n x1 μ = some z → Fr T μ0 μ → Fr T μ0 z.2) := by
    intro n
    refine fixN_ind (fun (f : Int32 → Mem → Option (Int32 × Mem)) => ∀ (x1 : Int32) (μ : Mem) z, f x1 μ = some z → Fr T μ0 μ → Fr T μ0 z.2) ?_ ?_ n
    · intro x1 μ z h; cases h
    · intro self hself x1 μ z h fr
      unfold m_mendOf_B2 at h
      exact fi h (fun h2 => fr_ret h2 fr) (fun h3 => f_m_mendOf_L9 h3 fr (sbt (sbc (sa_m 0 rfl) sbn) hT)  (fun  μ9 _ h11 fr12 => f_m_mendOf_L29 h11 fr12 (sbt (sbc (sa_m 0 rfl) (sbc (sa_m 1 rfl) (sbc (sa_m 2 rfl) (sbc (sa_m 3 rfl) (sbc (sa_m 4 rfl) (sbc (sa_m 5 rfl) (sbc (sa_m 6 rfl) (sbc (sa_m 7 rfl) (sbc (sa_m 8 rfl) (sbc (sa_m 9 rfl) (sbc (sa_m 10 rfl) (sbc (sa_m 11 rfl) (sbc (sa_m 12 rfl) sbn))))))))))))) hT)  (fun  μ31 _ h33 fr34 => hself _ _ _ h33 fr34)))
  exact key 60000 _ _ _ h fr
def T_m_mendOf : List At := [(97, none, none), (55, none, some 49), (87, none, none), (86, none, none), (55, none, some 56), (55, none, some 57), (92, none, none), (93, none, none), (90, none, none), (91, none, none), (89, none, none), (55, none, some 52), (55, none, some 53)]
theorem f_m_mendOf {μ : Mem}   {z : Int32 × Mem} (h : m_mendOf  μ = some z) : Fr (T_m_mendOf) μ z.2 := by
  unfold m_mendOf at h
  exact f_m_mendOf_L2 h (Fr.rf (T_m_mendOf) μ) (sbc (sa_m 0 rfl) (sbc (sa_m 1 rfl) (sbc (sa_m 2 rfl) (sbc (sa_m 3 rfl) (sbc (sa_m 4 rfl) (sbc (sa_m 5 rfl) (sbc (sa_m 6 rfl) (sbc (sa_m 7 rfl) (sbc (sa_m 8 rfl) (sbc (sa_m 9 rfl) (sbc (sa_m 10 rfl) (sbc (sa_m 11 rfl) (sbc (sa_m 12 rfl) sbn)))))))))))))  
def T_m_mend : List At := [(97, none, none), (55, none, some 49), (87, none, none), (86, none, none), (55, none, some 56), (55, none, some 57), (92, none, none), (93, none, none), (90, none, none), (91, none, none), (89, none, none), (55, none, some 52), (55, none, some 53)]
theorem f_m_mend {μ : Mem} {x1 : Int32}  {z : Int32 × Mem} (h : m_mend x1 μ = some z) : Fr (T_m_mend) μ z.2 := by
  unfold m_mend at h
  exact fi h (fun h2 => fo h2 (fun r7 μ4 e20 h6 => have fr8 : Fr (T_m_mend) μ μ4 := Fr.tr (Fr.mono (f_m_mendOf  e20) (sbc (sa_m 0 rfl) (sbc (sa_m 1 rfl) (sbc (sa_m 2 rfl) (sbc (sa_m 3 rfl) (sbc (sa_m 4 rfl) (sbc (sa_m 5 rfl) (sbc (sa_m 6 rfl) (sbc (sa_m 7 rfl) (sbc (sa_m 8 rfl) (sbc (sa_m 9 rfl) (sbc (sa_m 10 rfl) (sbc (sa_m 11 rfl) (sbc (sa_m 12 rfl) sbn)))))))))))))) (Fr.rf (T_m_mend) μ); fi h6 (fun h10 => fr_ret h10 fr8) (fun h11 => fi h11 (fun h14 => fr_ret h14 fr8) (fun h13 => fi h13 (fun h16 => fr_ret h16 fr8) (fun h17 => (have h19 := fgv h17; fr_ret h19 fr8)))))) (fun h3 => fr_ret h3 (Fr.rf (T_m_mend) μ))
def T_m_feeds_L59 : List At := []
theorem f_m_feeds_L59 {μ0 : Mem} {T : List At} {x2 : Int32}   {x3 : Int32} {x4 : Int32} {μ : Mem} {z : Int32 × Mem} (h : m_feeds_L59 x2 x3 x4 μ = some z) (fr : Fr T μ0 μ) (hT : Sb (T_m_feeds_L59) T)   : Fr T μ0 z.2 := by
  have key : ∀ (n : Nat), (∀ (x3 : Int32) (x4 : Int32) (μ : Mem) z, fixN (fun _ _ _ => none) (m_feeds_B59 x2) n x3 x4 μ = some z → Fr T μ0 μ → Fr T μ0 z.2) := by
    intro n
    refine fixN_ind (fun (f : Int32 → Int32 → Mem → Option (Int32 × Mem)) => ∀ (x3 : Int32) (x4 : Int32) (μ : Mem) z, f x3 x4 μ = some z → Fr T μ0 μ → Fr T μ0 z.2) ?_ ?_ n
    · intro x3 x4 μ z h; cases h
    · intro self hself x3 x4 μ z h fr
      unfold m_feeds_B59 at h
      exact (have h35 := fgv h; fi h35 (fun h37 => fr_ret h37 fr) (fun h38 => fo h38 (fun r42 μ39 e82 h41 => have fr43 : Fr T μ0 μ39 := Fr.tr (Fr.mono (f_m_fromLog  e82) (sbt sbn hT)) fr; fi h41 (fun h46 => fo h46 (fun r50 μ47 e81 h49 => have fr51 : Fr T μ0 μ47 := Fr.tr (Fr.mono (f_m_wideAt  e81) (sbt sbn hT)) fr43; fi h49 (fun h53 => hself _ _ _ _ h53 fr51) (fun h54 => fo h54 (fun r58 μ55 e80 h57 => have fr59 : Fr T μ0 μ55 := Fr.tr (Fr.mono (f_m_toWhere  e80) (sbt sbn hT)) fr51; fi h57 (fun h61 => hself _ _ _ _ h61 fr59) (fun h62 => fo h62 (fun r66 μ63 e79 h65 => have fr67 : Fr T μ0 μ63 := Fr.tr (Fr.mono (f_m_toWhere  e79) (sbt sbn hT)) fr59; fi h65 (fun h69 => hself _ _ _ _ h69 fr67) (fun h70 => fo h70 (fun r74 μ71 e78 h73 => have fr75 : Fr T μ0 μ71 := Fr.tr (Fr.mono (f_m_toWhere  e78) (sbt sbn hT)) fr67; (let v76 : Int32 := (x3 ||| ((nI 1) <<< ((r74 - (nI 10)) &&& 31))); have h77 := vb_o h73; (hself _ _ _ _ h77 fr75)))))))))) (fun h45 => hself _ _ _ _ h45 fr43))))
  exact key 60000 _ _ _ _ h fr
def T_m_feeds : List At := [(90, none, none), (91, none, none), (55, none, some 52), (55, none, some 53), (55, none, some 56), (55, none, some 57), (92, none, none), (93, none, none), (89, none, none)]
theorem f_m_feeds {μ : Mem} {x1 : Int32}  {z : Int32 × Mem} (h : m_feeds x1 μ = some z) : Fr (T_m_feeds) μ z.2 := by
  unfold m_feeds at h
  exact fo h (fun r4 μ1 e86 h3 => have fr5 : Fr (T_m_feeds) μ μ1 := Fr.tr (Fr.mono (f_m_isField  e86) sbn) (Fr.rf (T_m_feeds) μ); fi h3 (fun h8 => fr_ret h8 fr5) (fun h7 => fo h7 (fun _ μ9 e85 h11 => have fr13 : Fr (T_m_feeds) μ μ9 := Fr.tr (Fr.mono (f_m_copies  e85) (sbc (sa_m 2 rfl) (sbc (sa_m 3 rfl) (sbc (sa_m 4 rfl) (sbc (sa_m 5 rfl) (sbc (sa_m 6 rfl) (sbc (sa_m 7 rfl) (sbc (sa_m 0 rfl) (sbc (sa_m 1 rfl) (sbc (sa_m 8 rfl) sbn)))))))))) fr5; (have h15 := fgv h11; fi h15 (fun h17 => fr_ret h17 fr13) (fun h18 => (have h20 := fgv h18; fi h20 (fun h23 => fr_ret h23 fr13) (fun h22 => fo h22 (fun _ μ24 e84 h26 => have fr28 : Fr (T_m_feeds) μ μ24 := Fr.tr (Fr.mono (f_m_fillsLeads  e84) (sbc (sa_m 0 rfl) (sbc (sa_m 1 rfl) sbn))) fr13; fo h26 (fun r32 μ29 e83 h31 => have fr33 : Fr (T_m_feeds) μ μ29 := Fr.tr (Fr.mono (f_m_comesBy  e83) sbn) fr28; f_m_feeds_L59 h31 fr33 sbn  )))))))))
def T_m_hangs_L37 : List At := [(89, none, none), (55, none, some 56), (55, none, some 57), (92, none, none), (93, none, none), (90, none, none), (91, none, none), (55, none, some 52), (55, none, some 53)]
theorem f_m_hangs_L37 {μ0 : Mem} {T : List At} {x1 : Int32}   {x2 : Int32} {x3 : Int32} {μ : Mem} {z : Int32 × Mem} (h : m_hangs_L37 x1 x2 x3 μ = some z) (fr : Fr T μ0 μ) (hT : Sb (T_m_hangs_L37) T)   : Fr T μ0 z.2 := by
  have key : ∀ (n : Nat), (∀ (x2 : Int32) (x3 : Int32) (μ : Mem) z, fixN (fun _ _ _ => none) (m_hangs_B37 x1) n x2 x3 μ = some z → Fr T μ0 μ → Fr T μ0 z.2) := by
    intro n
    refine fixN_ind (fun (f : Int32 → Int32 → Mem → Option (Int32 × Mem)) => ∀ (x2 : Int32) (x3 : Int32) (μ : Mem) z, f x2 x3 μ = some z → Fr T μ0 μ → Fr T μ0 z.2) ?_ ?_ n
    · intro x2 x3 μ z h; cases h
    · intro self hself x2 x3 μ z h fr
      unfold m_hangs_B37 at h
      exact (have h26 := fgv h; fi h26 (fun h28 => fr_ret h28 fr) (fun h29 => fo h29 (fun _ μ30 e55 h32 => have fr34 : Fr T μ0 μ30 := Fr.tr (Fr.mono (f_m_copies  e55) (sbt (sbc (sa_m 7 rfl) (sbc (sa_m 8 rfl) (sbc (sa_m 1 rfl) (sbc (sa_m 2 rfl) (sbc (sa_m 3 rfl) (sbc (sa_m 4 rfl) (sbc (sa_m 5 rfl) (sbc (sa_m 6 rfl) (sbc (sa_m 0 rfl) sbn))))))))) hT)) fr; (have h36 := fgv h32; fo h36 (fun _ μ37 e54 h39 => have fr41 : Fr T μ0 μ37 := Fr.tr (Fr.mono (f_m_parts  e54) (sbt (sbc (sa_m 1 rfl) (sbc (sa_m 2 rfl) (sbc (sa_m 3 rfl) (sbc (sa_m 4 rfl) (sbc (sa_m 5 rfl) (sbc (sa_m 6 rfl) sbn)))))) hT)) (Fr.stI fr34 (hT _ _ _ (iT 0 rfl inA_nn))); fi h39 (fun h44 => fo h44 (fun r48 μ45 e53 h47 => have fr49 : Fr T μ0 μ45 := Fr.tr (Fr.mono (f_m_fieldOver  e53) (sbt sbn hT)) fr41; fi h47 (fun h52 => hself _ _ _ _ h52 fr49) (fun h51 => hself _ _ _ _ h51 fr49))) (fun h43 => hself _ _ _ _ h43 fr41))))))
  exact key 60000 _ _ _ _ h fr
def T_m_hangs : List At := [(89, none, none), (55, none, some 56), (55, none, some 57), (92, none, none), (93, none, none), (90, none, none), (91, none, none), (55, none, some 52), (55, none, some 53)]
theorem f_m_hangs {μ : Mem} {x1 : Int32}  {z : Int32 × Mem} (h : m_hangs x1 μ = some z) : Fr (T_m_hangs) μ z.2 := by
  unfold m_hangs at h
  exact fo h (fun r4 μ1 e58 h3 => have fr5 : Fr (T_m_hangs) μ μ1 := Fr.tr (Fr.mono (f_m_isField  e58) sbn) (Fr.rf (T_m_hangs) μ); fi h3 (fun h8 => fr_ret h8 fr5) (fun h7 => fo h7 (fun _ μ9 e57 h11 => have fr13 : Fr (T_m_hangs) μ μ9 := Fr.tr (Fr.mono (f_m_copies  e57) (sbc (sa_m 7 rfl) (sbc (sa_m 8 rfl) (sbc (sa_m 1 rfl) (sbc (sa_m 2 rfl) (sbc (sa_m 3 rfl) (sbc (sa_m 4 rfl) (sbc (sa_m 5 rfl) (sbc (sa_m 6 rfl) (sbc (sa_m 0 rfl) sbn)))))))))) fr5; fi h11 (fun h16 => fo h16 (fun r20 μ17 e56 h19 => have fr21 : Fr (T_m_hangs) μ μ17 := Fr.tr (Fr.mono (f_m_fieldOver  e56) sbn) fr13; fi h19 (fun h24 => fr_ret h24 fr21) (fun h23 => f_m_hangs_L37 h23 fr21 (sbc (sa_m 0 rfl) (sbc (sa_m 1 rfl) (sbc (sa_m 2 rfl) (sbc (sa_m 3 rfl) (sbc (sa_m 4 rfl) (sbc (sa_m 5 rfl) (sbc (sa_m 6 rfl) (sbc (sa_m 7 rfl) (sbc (sa_m 8 rfl) sbn)))))))))  ))) (fun h15 => fr_ret h15 fr13))))
def T_m_crop_L27 : List At := []
theorem f_m_crop_L27 {μ0 : Mem} {T : List At}    {x2 : Int32} {x3 : Int32} {μ : Mem} {z : Int32 × Mem} (h : m_crop_L27  x2 x3 μ = some z) (fr : Fr T μ0 μ) (hT : Sb (T_m_crop_L27) T)   : Fr T μ0 z.2 := by
  have key : ∀ (n : Nat), (∀ (x2 : Int32) (x3 : Int32) (μ : Mem) z, fixN (fun _ _ _ => none) (m_crop_B27 ) n x2 x3 μ = some z → Fr T μ0 μ → Fr T μ0 z.2) := by
    intro n
    refine fixN_ind (fun (f : Int32 → Int32 → Mem → Option (Int32 × Mem)) => ∀ (x2 : Int32) (x3 : Int32) (μ : Mem) z, f x2 x3 μ = some z → Fr T μ0 μ → Fr T μ0 z.2) ?_ ?_ n
    · intro x2 x3 μ z h; cases h
    · intro self hself x2 x3 μ z h fr
      unfold m_crop_B27 at h
      exact (have h20 := fgv h; fi h20 (fun h22 => fr_ret h22 fr) (fun h23 => (have h25 := fgv h23; (let v26 : Int32 := (x2 + ((mI μ 89 0 (cl ((nI 12) + x3))) - (mI μ 88 0 (cl ((nI 12) + x3))))); have h27 := vb_o h25; (hself _ _ _ _ h27 fr)))))
  exact key 60000 _ _ _ _ h fr
def T_m_crop : List At := [(55, none, some 53), (89, none, none), (55, none, some 56), (55, none, some 57), (92, none, none), (93, none, none), (90, none, none), (91, none, none), (55, none, some 49), (87, none, none), (86, none, none), (94, none, none), (55, none, some 52)]
theorem f_m_crop {μ : Mem} {x1 : Int32}  {z : Int32 × Mem} (h : m_crop x1 μ = some z) : Fr (T_m_crop) μ z.2 := by
  unfold m_crop at h
  exact fo h (fun r4 μ1 e30 h3 => have fr5 : Fr (T_m_crop) μ μ1 := Fr.tr (Fr.mono (f_m_isLong  e30) sbn) (Fr.rf (T_m_crop) μ); fi h3 (fun h8 => fr_ret h8 fr5) (fun h7 => fo h7 (fun _ μ9 e29 h11 => have fr13 : Fr (T_m_crop) μ μ9 := Fr.tr (Fr.mono (f_m_copies  e29) (sbc (sa_m 12 rfl) (sbc (sa_m 0 rfl) (sbc (sa_m 2 rfl) (sbc (sa_m 3 rfl) (sbc (sa_m 4 rfl) (sbc (sa_m 5 rfl) (sbc (sa_m 6 rfl) (sbc (sa_m 7 rfl) (sbc (sa_m 1 rfl) sbn)))))))))) fr5; fo h11 (fun _ μ14 e28 h16 => have fr18 : Fr (T_m_crop) μ μ14 := Fr.tr (Fr.mono (f_m_goes  e28) (sbc (sa_m 1 rfl) (sbc (sa_m 2 rfl) (sbc (sa_m 3 rfl) (sbc (sa_m 4 rfl) (sbc (sa_m 5 rfl) (sbc (sa_m 6 rfl) (sbc (sa_m 7 rfl) (sbc (sa_m 8 rfl) (sbc (sa_m 9 rfl) (sbc (sa_m 10 rfl) (sbc (sa_m 11 rfl) sbn)))))))))))) (Fr.stI fr13 (iT 0 rfl inA_ns)); f_m_crop_L27 h16 fr18 sbn  ))))
def T_m_again : List At := [(89, none, none), (55, none, some 56), (55, none, some 57), (92, none, none), (93, none, none), (90, none, none), (91, none, none), (55, none, some 52), (55, none, some 53)]
theorem f_m_again {μ : Mem} {x1 : Int32} {x2 : Int32}  {z : Int32 × Mem} (h : m_again x1 x2 μ = some z) : Fr (T_m_again) μ z.2 := by
  unfold m_again at h
  exact fo h (fun r4 μ1 e63 h3 => have fr5 : Fr (T_m_again) μ μ1 := Fr.tr (Fr.mono (f_m_isField  e63) sbn) (Fr.rf (T_m_again) μ); fi h3 (fun h7 => fr_ret h7 fr5) (fun h8 => fo h8 (fun r12 μ9 e62 h11 => have fr13 : Fr (T_m_again) μ μ9 := Fr.tr (Fr.mono (f_m_in  e62) sbn) fr5; fi h11 (fun h15 => fr_ret h15 fr13) (fun h16 => (have h18 := fgv h16; fi h18 (fun h21 => fr_ret h21 fr13) (fun h20 => fo h20 (fun _ μ22 e61 h24 => have fr26 : Fr (T_m_again) μ μ22 := Fr.tr (Fr.mono (f_m_copies  e61) (sbc (sa_m 7 rfl) (sbc (sa_m 8 rfl) (sbc (sa_m 1 rfl) (sbc (sa_m 2 rfl) (sbc (sa_m 3 rfl) (sbc (sa_m 4 rfl) (sbc (sa_m 5 rfl) (sbc (sa_m 6 rfl) (sbc (sa_m 0 rfl) sbn)))))))))) fr13; (have h28 := fgv h24; (have h30 := fgv h28; fi h30 (fun h32 => fo h32 (fun _ μ34 e45 h36 => have fr38 : Fr (T_m_again) μ μ34 := Fr.tr (Fr.mono (f_m_parts  e45) (sbc (sa_m 1 rfl) (sbc (sa_m 2 rfl) (sbc (sa_m 3 rfl) (sbc (sa_m 4 rfl) (sbc (sa_m 5 rfl) (sbc (sa_m 6 rfl) sbn))))))) (Fr.stI fr26 (iT 0 rfl inA_nn)); fo h36 (fun r42 μ39 e44 h41 => have fr43 : Fr (T_m_again) μ μ39 := Fr.tr (Fr.mono (f_m_flowOf  e44) sbn) fr38; fr_ret h41 fr43))) (fun h33 => (let μ46 : Mem := stI (stI μ22 89 0 (cl ((nI 6) + x1)) x2) 89 0 (cl x1) (nI 0); have fr47 : Fr (T_m_again) μ μ46 := Fr.stI (Fr.stI fr26 (iT 0 rfl inA_nn)) (iT 0 rfl inA_nn); have h48 := mb_o h33; fo h48 (fun _ μ49 e60 h51 => have fr53 : Fr (T_m_again) μ μ49 := Fr.tr (Fr.mono (f_m_parts  e60) (sbc (sa_m 1 rfl) (sbc (sa_m 2 rfl) (sbc (sa_m 3 rfl) (sbc (sa_m 4 rfl) (sbc (sa_m 5 rfl) (sbc (sa_m 6 rfl) sbn))))))) fr47; fo h51 (fun r57 μ54 e59 h56 => have fr58 : Fr (T_m_again) μ μ54 := Fr.tr (Fr.mono (f_m_flowOf  e59) sbn) fr53; fr_ret h56 fr58)))))))))))))
def T_m_swap_L35 : List At := [(89, none, none), (55, none, some 49), (87, none, none), (86, none, none), (55, none, some 56), (55, none, some 57), (92, none, none), (93, none, none), (90, none, none), (91, none, none), (55, none, some 52), (55, none, some 53)]
theorem f_m_swap_L35 {μ0 : Mem} {T : List At} {x3 : Int32}  {k131 : Int32 → Int32 → Mem → Option (Int32 × Mem)} {x1 : Int32} {x2 : Int32} {x4 : Int32} {μ : Mem} {z : Int32 × Mem} (h : m_swap_L35 x3 k131 x1 x2 x4 μ = some z) (fr : Fr T μ0 μ) (hT : Sb (T_m_swap_L35) T)  (hk131 : ∀ (x1 : Int32) (x2 : Int32) (μ : Mem) z, k131 x1 x2 μ = some z → Fr T μ0 μ → Fr T μ0 z.2) : Fr T μ0 z.2 := by
  have key : ∀ (n : Nat), (∀ (x1 : Int32) (x2 : Int32) (x4 : Int32) (μ : Mem) z, fixN (fun _ _ _ _ => none) (m_swap_B35 x3 k131) n x1 x2 x4 μ = some z → Fr T μ0 μ → Fr T μ0 z.2) := by
    intro n
    refine fixN_ind (fun (f : Int32 → Int32 → Int32 → Mem → Option (Int32 × Mem)) => ∀ (x1 : Int32) (x2 : Int32) (x4 : Int32) (μ : Mem) z, f x1 x2 x4 μ = some z → Fr T μ0 μ → Fr T μ0 z.2) ?_ ?_ n
    · intro x1 x2 x4 μ z h; cases h
    · intro self hself x1 x2 x4 μ z h fr
      unfold m_swap_B35 at h
      exact (have h22 := fgv h; fi h22 (fun h24 => hk131 _ _ _ _ h24 fr) (fun h25 => fo h25 (fun _ μ26 e74 h28 => have fr30 : Fr T μ0 μ26 := Fr.tr (Fr.mono (f_m_copies  e74) (sbt (sbc (sa_m 10 rfl) (sbc (sa_m 11 rfl) (sbc (sa_m 4 rfl) (sbc (sa_m 5 rfl) (sbc (sa_m 6 rfl) (sbc (sa_m 7 rfl) (sbc (sa_m 8 rfl) (sbc (sa_m 9 rfl) (sbc (sa_m 0 rfl) sbn))))))))) hT)) fr; (have h32 := fgv h28; (have h34 := fgv h32; (let μ35 : Mem := stI μ26 89 0 (cl ((nI 18) + x3)) (mI μ26 88 0 (cl ((nI 18) + x4))); have fr36 : Fr T μ0 μ35 := Fr.stI fr30 (hT _ _ _ (iT 0 rfl inA_nn)); have h37 := mb_o h34; (let μ38 : Mem := stI μ35 89 0 (cl ((nI 18) + x4)) (mI μ35 88 0 (cl ((nI 18) + x3))); have fr39 : Fr T μ0 μ38 := Fr.stI fr36 (hT _ _ _ (iT 0 rfl inA_nn)); have h40 := mb_o h37; fo h40 (fun _ μ41 e73 h43 => have fr45 : Fr T μ0 μ41 := Fr.tr (Fr.mono (f_m_parts  e73) (sbt (sbc (sa_m 4 rfl) (sbc (sa_m 5 rfl) (sbc (sa_m 6 rfl) (sbc (sa_m 7 rfl) (sbc (sa_m 8 rfl) (sbc (sa_m 9 rfl) sbn)))))) hT)) fr39; fo h43 (fun r49 μ46 e72 h48 => have fr50 : Fr T μ0 μ46 := Fr.tr (Fr.mono (f_m_lackingBits  e72) (sbt (sbc (sa_m 1 rfl) (sbc (sa_m 2 rfl) (sbc (sa_m 3 rfl) sbn))) hT)) fr45; fo h48 (fun r54 μ51 e71 h53 => have fr55 : Fr T μ0 μ51 := Fr.tr (Fr.mono (f_m_bits  e71) (sbt sbn hT)) fr50; fi h53 (fun h57 => fo h57 (fun r62 μ59 e70 h61 => have fr63 : Fr T μ0 μ59 := Fr.tr (Fr.mono (f_m_lackingBits  e70) (sbt (sbc (sa_m 1 rfl) (sbc (sa_m 2 rfl) (sbc (sa_m 3 rfl) sbn))) hT)) fr55; fo h61 (fun r67 μ64 e69 h66 => have fr68 : Fr T μ0 μ64 := Fr.tr (Fr.mono (f_m_bits  e69) (sbt sbn hT)) fr63; hself _ _ _ _ _ h66 fr68))) (fun h58 => hself _ _ _ _ _ h58 fr55)))))))))))
  exact key 60000 _ _ _ _ _ h fr
def T_m_swap_L17 : List At := [(89, none, none), (55, none, some 49), (87, none, none), (86, none, none), (55, none, some 56), (55, none, some 57), (92, none, none), (93, none, none), (90, none, none), (91, none, none), (55, none, some 52), (55, none, some 53)]
theorem f_m_swap_L17 {μ0 : Mem} {T : List At}    {x1 : Int32} {x2 : Int32} {x3 : Int32} {μ : Mem} {z : Int32 × Mem} (h : m_swap_L17  x1 x2 x3 μ = some z) (fr : Fr T μ0 μ) (hT : Sb (T_m_swap_L17) T)   : Fr T μ0 z.2 := by
  have key : ∀ (n : Nat), (∀ (x1 : Int32) (x2 : Int32) (x3 : Int32) (μ : Mem) z, fixN (fun _ _ _ _ => none) (m_swap_B17 ) n x1 x2 x3 μ = some z → Fr T μ0 μ → Fr T μ0 z.2) := by
    intro n
    refine fixN_ind (fun (f : Int32 → Int32 → Int32 → Mem → Option (Int32 × Mem)) => ∀ (x1 : Int32) (x2 : Int32) (x3 : Int32) (μ : Mem) z, f x1 x2 x3 μ = some z → Fr T μ0 μ → Fr T μ0 z.2) ?_ ?_ n
    · intro x1 x2 x3 μ z h; cases h
    · intro self hself x1 x2 x3 μ z h fr
      unfold m_swap_B17 at h
      exact (have h17 := fgv h; fi h17 (fun h19 => fr_ret h19 fr) (fun h20 => f_m_swap_L35 h20 fr (sbt (sbc (sa_m 0 rfl) (sbc (sa_m 1 rfl) (sbc (sa_m 2 rfl) (sbc (sa_m 3 rfl) (sbc (sa_m 4 rfl) (sbc (sa_m 5 rfl) (sbc (sa_m 6 rfl) (sbc (sa_m 7 rfl) (sbc (sa_m 8 rfl) (sbc (sa_m 9 rfl) (sbc (sa_m 10 rfl) (sbc (sa_m 11 rfl) sbn)))))))))))) hT)  (fun x75 x76 μ77 _ h79 fr80 => hself _ _ _ _ _ h79 fr80)))
  exact key 60000 _ _ _ _ _ h fr
def T_m_swap : List At := [(89, none, none), (55, none, some 49), (87, none, none), (86, none, none), (55, none, some 56), (55, none, some 57), (92, none, none), (93, none, none), (90, none, none), (91, none, none), (55, none, some 52), (55, none, some 53)]
theorem f_m_swap {μ : Mem}   {z : Int32 × Mem} (h : m_swap  μ = some z) : Fr (T_m_swap) μ z.2 := by
  unfold m_swap at h
  exact fo h (fun _ μ1 e83 h3 => have fr5 : Fr (T_m_swap) μ μ1 := Fr.tr (Fr.mono (f_m_copies  e83) (sbc (sa_m 10 rfl) (sbc (sa_m 11 rfl) (sbc (sa_m 4 rfl) (sbc (sa_m 5 rfl) (sbc (sa_m 6 rfl) (sbc (sa_m 7 rfl) (sbc (sa_m 8 rfl) (sbc (sa_m 9 rfl) (sbc (sa_m 0 rfl) sbn)))))))))) (Fr.rf (T_m_swap) μ); fo h3 (fun r9 μ6 e82 h8 => have fr10 : Fr (T_m_swap) μ μ6 := Fr.tr (Fr.mono (f_m_lackingBits  e82) (sbc (sa_m 1 rfl) (sbc (sa_m 2 rfl) (sbc (sa_m 3 rfl) sbn)))) fr5; fo h8 (fun r14 μ11 e81 h13 => have fr15 : Fr (T_m_swap) μ μ11 := Fr.tr (Fr.mono (f_m_bits  e81) sbn) fr10; f_m_swap_L17 h13 fr15 (sbc (sa_m 0 rfl) (sbc (sa_m 1 rfl) (sbc (sa_m 2 rfl) (sbc (sa_m 3 rfl) (sbc (sa_m 4 rfl) (sbc (sa_m 5 rfl) (sbc (sa_m 6 rfl) (sbc (sa_m 7 rfl) (sbc (sa_m 8 rfl) (sbc (sa_m 9 rfl) (sbc (sa_m 10 rfl) (sbc (sa_m 11 rfl) sbn))))))))))))  )))
def T_m_grownIn : List At := [(89, none, none), (55, none, some 56), (55, none, some 57), (92, none, none), (93, none, none), (90, none, none), (91, none, none), (55, none, some 49), (87, none, none), (86, none, none), (94, none, none), (55, none, some 52), (55, none, some 53)]
theorem f_m_grownIn {μ : Mem} {x1 : Int32} {x2 : Int32}  {z : Int32 × Mem} (h : m_grownIn x1 x2 μ = some z) : Fr (T_m_grownIn) μ z.2 := by
  unfold m_grownIn at h
  exact fo h (fun r4 μ1 e32 h3 => have fr5 : Fr (T_m_grownIn) μ μ1 := Fr.tr (Fr.mono (f_m_isField  e32) sbn) (Fr.rf (T_m_grownIn) μ); fi h3 (fun h7 => fr_ret h7 fr5) (fun h8 => fo h8 (fun r12 μ9 e31 h11 => have fr13 : Fr (T_m_grownIn) μ μ9 := Fr.tr (Fr.mono (f_m_isLong  e31) sbn) fr5; fi h11 (fun h16 => fr_ret h16 fr13) (fun h15 => fo h15 (fun _ μ17 e30 h19 => have fr21 : Fr (T_m_grownIn) μ μ17 := Fr.tr (Fr.mono (f_m_copies  e30) (sbc (sa_m 11 rfl) (sbc (sa_m 12 rfl) (sbc (sa_m 1 rfl) (sbc (sa_m 2 rfl) (sbc (sa_m 3 rfl) (sbc (sa_m 4 rfl) (sbc (sa_m 5 rfl) (sbc (sa_m 6 rfl) (sbc (sa_m 0 rfl) sbn)))))))))) fr13; fo h19 (fun _ μ22 e29 h24 => have fr26 : Fr (T_m_grownIn) μ μ22 := Fr.tr (Fr.mono (f_m_goes  e29) (sbc (sa_m 0 rfl) (sbc (sa_m 1 rfl) (sbc (sa_m 2 rfl) (sbc (sa_m 3 rfl) (sbc (sa_m 4 rfl) (sbc (sa_m 5 rfl) (sbc (sa_m 6 rfl) (sbc (sa_m 7 rfl) (sbc (sa_m 8 rfl) (sbc (sa_m 9 rfl) (sbc (sa_m 10 rfl) sbn)))))))))))) fr21; (have h28 := fgv h24; fr_ret h28 fr26)))))))
def T_m_wideIn : List At := [(89, none, none), (55, none, some 56), (55, none, some 57), (92, none, none), (93, none, none), (90, none, none), (91, none, none), (55, none, some 49), (87, none, none), (86, none, none), (94, none, none), (55, none, some 52), (55, none, some 53)]
theorem f_m_wideIn {μ : Mem} {x1 : Int32} {x2 : Int32}  {z : Int32 × Mem} (h : m_wideIn x1 x2 μ = some z) : Fr (T_m_wideIn) μ z.2 := by
  unfold m_wideIn at h
  exact fo h (fun r4 μ1 e36 h3 => have fr5 : Fr (T_m_wideIn) μ μ1 := Fr.tr (Fr.mono (f_m_isNotch  e36) sbn) (Fr.rf (T_m_wideIn) μ); fi h3 (fun h7 => fr_ret h7 fr5) (fun h8 => fo h8 (fun r12 μ9 e35 h11 => have fr13 : Fr (T_m_wideIn) μ μ9 := Fr.tr (Fr.mono (f_m_isLong  e35) sbn) fr5; fi h11 (fun h16 => fr_ret h16 fr13) (fun h15 => fo h15 (fun _ μ17 e34 h19 => have fr21 : Fr (T_m_wideIn) μ μ17 := Fr.tr (Fr.mono (f_m_copies  e34) (sbc (sa_m 11 rfl) (sbc (sa_m 12 rfl) (sbc (sa_m 1 rfl) (sbc (sa_m 2 rfl) (sbc (sa_m 3 rfl) (sbc (sa_m 4 rfl) (sbc (sa_m 5 rfl) (sbc (sa_m 6 rfl) (sbc (sa_m 0 rfl) sbn)))))))))) fr13; fo h19 (fun _ μ22 e33 h24 => have fr26 : Fr (T_m_wideIn) μ μ22 := Fr.tr (Fr.mono (f_m_goes  e33) (sbc (sa_m 0 rfl) (sbc (sa_m 1 rfl) (sbc (sa_m 2 rfl) (sbc (sa_m 3 rfl) (sbc (sa_m 4 rfl) (sbc (sa_m 5 rfl) (sbc (sa_m 6 rfl) (sbc (sa_m 7 rfl) (sbc (sa_m 8 rfl) (sbc (sa_m 9 rfl) (sbc (sa_m 10 rfl) sbn)))))))))))) fr21; fo h24 (fun r30 μ27 e32 h29 => have fr31 : Fr (T_m_wideIn) μ μ27 := Fr.tr (Fr.mono (f_m_wideAt  e32) sbn) fr26; fr_ret h29 fr31)))))))
def T_m_year_L33 : List At := [(55, none, some 52), (55, none, some 49), (87, none, none), (86, none, none), (89, none, none), (55, none, some 56), (55, none, some 57), (92, none, none), (93, none, none), (90, none, none), (91, none, none), (94, none, none), (55, none, some 53)]
theorem f_m_year_L33 {μ0 : Mem} {T : List At} {x1 : Int32} {x2 : Int32} {x3 : Int32}   {x4 : Int32} {x5 : Int32} {μ : Mem} {z : Int32 × Mem} (h : m_year_L33 x1 x2 x3 x4 x5 μ = some z) (fr : Fr T μ0 μ) (hT : Sb (T_m_year_L33) T)   : Fr T μ0 z.2 := by
  have key : ∀ (n : Nat), (∀ (x4 : Int32) (x5 : Int32) (μ : Mem) z, fixN (fun _ _ _ => none) (m_year_B33 x1 x2 x3) n x4 x5 μ = some z → Fr T μ0 μ → Fr T μ0 z.2) := by
    intro n
    refine fixN_ind (fun (f : Int32 → Int32 → Mem → Option (Int32 × Mem)) => ∀ (x4 : Int32) (x5 : Int32) (μ : Mem) z, f x4 x5 μ = some z → Fr T μ0 μ → Fr T μ0 z.2) ?_ ?_ n
    · intro x4 x5 μ z h; cases h
    · intro self hself x4 x5 μ z h fr
      unfold m_year_B33 at h
      exact fi h (fun h26 => fr_ret h26 fr) (fun h27 => fo h27 (fun _ μ28 e48 h30 => have fr32 : Fr T μ0 μ28 := Fr.tr (Fr.mono (f_m_copies  e48) (sbt (sbc (sa_m 0 rfl) (sbc (sa_m 12 rfl) (sbc (sa_m 5 rfl) (sbc (sa_m 6 rfl) (sbc (sa_m 7 rfl) (sbc (sa_m 8 rfl) (sbc (sa_m 9 rfl) (sbc (sa_m 10 rfl) (sbc (sa_m 4 rfl) sbn))))))))) hT)) fr; fo h30 (fun _ μ33 e47 h35 => have fr37 : Fr T μ0 μ33 := Fr.tr (Fr.mono (f_m_goes  e47) (sbt (sbc (sa_m 4 rfl) (sbc (sa_m 5 rfl) (sbc (sa_m 6 rfl) (sbc (sa_m 7 rfl) (sbc (sa_m 8 rfl) (sbc (sa_m 9 rfl) (sbc (sa_m 10 rfl) (sbc (sa_m 1 rfl) (sbc (sa_m 2 rfl) (sbc (sa_m 3 rfl) (sbc (sa_m 11 rfl) sbn))))))))))) hT)) (Fr.stI fr32 (hT _ _ _ (iT 0 rfl inA_ns))); fo h35 (fun r41 μ38 e46 h40 => have fr42 : Fr T μ0 μ38 := Fr.tr (Fr.mono (f_m_isLacking  e46) (sbt (sbc (sa_m 1 rfl) (sbc (sa_m 2 rfl) (sbc (sa_m 3 rfl) sbn))) hT)) fr37; fi h40 (fun h44 => hself _ _ _ _ h44 fr42) (fun h45 => hself _ _ _ _ h45 fr42)))))
  exact key 60000 _ _ _ _ h fr
def T_m_year : List At := [(55, none, some 52), (55, none, some 49), (87, none, none), (86, none, none), (89, none, none), (55, none, some 56), (55, none, some 57), (92, none, none), (93, none, none), (90, none, none), (91, none, none), (94, none, none), (55, none, some 53)]
theorem f_m_year {μ : Mem} {x1 : Int32} {x2 : Int32} {x3 : Int32}  {z : Int32 × Mem} (h : m_year x1 x2 x3 μ = some z) : Fr (T_m_year) μ z.2 := by
  unfold m_year at h
  exact fo h (fun r4 μ1 e51 h3 => have fr5 : Fr (T_m_year) μ μ1 := Fr.tr (Fr.mono (f_m_isField  e51) sbn) (Fr.rf (T_m_year) μ); fi h3 (fun h7 => fr_ret h7 fr5) (fun h8 => fo h8 (fun r12 μ9 e50 h11 => have fr13 : Fr (T_m_year) μ μ9 := Fr.tr (Fr.mono (f_m_isLong  e50) sbn) fr5; fi h11 (fun h15 => fr_ret h15 fr13) (fun h16 => fo h16 (fun r20 μ17 e49 h19 => have fr21 : Fr (T_m_year) μ μ17 := Fr.tr (Fr.mono (f_m_in  e49) sbn) fr13; fi h19 (fun h24 => fr_ret h24 fr21) (fun h23 => f_m_year_L33 h23 fr21 (sbc (sa_m 0 rfl) (sbc (sa_m 1 rfl) (sbc (sa_m 2 rfl) (sbc (sa_m 3 rfl) (sbc (sa_m 4 rfl) (sbc (sa_m 5 rfl) (sbc (sa_m 6 rfl) (sbc (sa_m 7 rfl) (sbc (sa_m 8 rfl) (sbc (sa_m 9 rfl) (sbc (sa_m 10 rfl) (sbc (sa_m 11 rfl) (sbc (sa_m 12 rfl) sbn)))))))))))))  ))))))
def T_m_tell : List At := [(98, none, none), (99, none, none), (100, none, none), (55, none, some 67)]
theorem f_m_tell {μ : Mem} {x1 : Int32} {x2 : Int32} {x3 : Int32}  {z : Int32 × Mem} (h : m_tell x1 x2 x3 μ = some z) : Fr (T_m_tell) μ z.2 := by
  unfold m_tell at h
  exact fi h (fun h2 => fr_ret h2 (Fr.rf (T_m_tell) μ)) (fun h3 => fo h3 (fun r7 μ4 e36 h6 => have fr8 : Fr (T_m_tell) μ μ4 := Fr.tr (Fr.mono (f_m_isField  e36) sbn) (Fr.rf (T_m_tell) μ); fi h6 (fun h10 => fr_ret h10 fr8) (fun h11 => fo h11 (fun r15 μ12 e35 h14 => have fr16 : Fr (T_m_tell) μ μ12 := Fr.tr (Fr.mono (f_m_in  e35) sbn) fr8; fi h14 (fun h19 => fr_ret h19 fr16) (fun h18 => (have h21 := fgv h18; (have h23 := fgv h21; (let μ24 : Mem := stI (stI μ12 98 0 (cl (mI μ12 55 0 67)) x1) 99 0 (cl (mI (stI μ12 98 0 (cl (mI μ12 55 0 67)) x1) 55 0 67)) x2; have fr25 : Fr (T_m_tell) μ μ24 := Fr.stI (Fr.stI fr16 (iT 0 rfl inA_nn)) (iT 1 rfl inA_nn); have h26 := mb_o h23; (have h28 := fgv h26; (let μ29 : Mem := stI μ24 100 0 (cl (mI μ24 55 0 67)) (x3 &&& 1); have fr30 : Fr (T_m_tell) μ μ29 := Fr.stI fr25 (iT 2 rfl inA_nn); have h31 := mb_o h28; (let μ32 : Mem := stI μ29 55 0 67 ((mI μ29 55 0 67) + (nI 1)); have fr33 : Fr (T_m_tell) μ μ32 := Fr.stI fr30 (iT 3 rfl inA_ns); have h34 := mb_o h31; fr_ret h34 fr33)))))))))))
def T_m_forget : List At := [(55, none, some 67)]
theorem f_m_forget {μ : Mem}   {z : Int32 × Mem} (h : m_forget  μ = some z) : Fr (T_m_forget) μ z.2 := by
  unfold m_forget at h
  exact fr_ret h (Fr.stI (Fr.rf (T_m_forget) μ) (iT 0 rfl inA_ns))
def T_m_fitBits_L42 : List At := [(101, none, none)]
theorem f_m_fitBits_L42 {μ0 : Mem} {T : List At} {x1 : Int32} {x2 : Int32} {x3 : Int32} {x4 : Int32}  {k81 : Mem → Option (Int32 × Mem)} {x5 : Int32} {μ : Mem} {z : Int32 × Mem} (h : m_fitBits_L42 x1 x2 x3 x4 k81 x5 μ = some z) (fr : Fr T μ0 μ) (hT : Sb (T_m_fitBits_L42) T)  (hk81 : ∀  (μ : Mem) z, k81  μ = some z → Fr T μ0 μ → Fr T μ0 z.2) : Fr T μ0 z.2 := by
  have key : ∀ (n : Nat), (∀ (x5 : Int32) (μ : Mem) z, fixN (fun _ _ => none) (m_fitBits_B42 x1 x2 x3 x4 k81) n x5 μ = some z → Fr T μ0 μ → Fr T μ0 z.2) := by
    intro n
    refine fixN_ind (fun (f : Int32 → Mem → Option (Int32 × Mem)) => ∀ (x5 : Int32) (μ : Mem) z, f x5 μ = some z → Fr T μ0 μ → Fr T μ0 z.2) ?_ ?_ n
    · intro x5 μ z h; cases h
    · intro self hself x5 μ z h fr
      unfold m_fitBits_B42 at h
      exact (have h23 := fgv h; fi h23 (fun h25 => hk81 _ _ h25 fr) (fun h26 => fo h26 (fun r30 μ27 e37 h29 => have fr31 : Fr T μ0 μ27 := Fr.tr (Fr.mono (f_m_feelsOf  e37) (sbt sbn hT)) fr; (have h33 := fgv h29; (let μ34 : Mem := stI μ27 101 0 (cl (((nI 6) * x4) + x5)) r30; have fr35 : Fr T μ0 μ34 := Fr.stI fr31 (hT _ _ _ (iT 0 rfl inA_nn)); have h36 := mb_o h33; hself _ _ _ h36 fr35)))))
  exact key 60000 _ _ _ h fr
def T_m_fitBits_L87 : List At := []
theorem f_m_fitBits_L87 {μ0 : Mem} {T : List At} {x1 : Int32} {x2 : Int32} {x3 : Int32} {x4 : Int32}  {k145 : Int32 → Mem → Option (Int32 × Mem)} {x5 : Int32} {x6 : Int32} {μ : Mem} {z : Int32 × Mem} (h : m_fitBits_L87 x1 x2 x3 x4 k145 x5 x6 μ = some z) (fr : Fr T μ0 μ) (hT : Sb (T_m_fitBits_L87) T)  (hk145 : ∀ (x5 : Int32) (μ : Mem) z, k145 x5 μ = some z → Fr T μ0 μ → Fr T μ0 z.2) : Fr T μ0 z.2 := by
  have key : ∀ (n : Nat), (∀ (x5 : Int32) (x6 : Int32) (μ : Mem) z, fixN (fun _ _ _ => none) (m_fitBits_B87 x1 x2 x3 x4 k145) n x5 x6 μ = some z → Fr T μ0 μ → Fr T μ0 z.2) := by
    intro n
    refine fixN_ind (fun (f : Int32 → Int32 → Mem → Option (Int32 × Mem)) => ∀ (x5 : Int32) (x6 : Int32) (μ : Mem) z, f x5 x6 μ = some z → Fr T μ0 μ → Fr T μ0 z.2) ?_ ?_ n
    · intro x5 x6 μ z h; cases h
    · intro self hself x5 x6 μ z h fr
      unfold m_fitBits_B87 at h
      exact fi h (fun h43 => hk145 _ _ _ h43 fr) (fun h44 => (have h46 := fgv h44; (have h48 := fgv h46; fi h48 (fun h51 => fi h51 (fun h56 => hself _ _ _ _ h56 fr) (fun h57 => hself _ _ _ _ h57 fr)) (fun h50 => fi h50 (fun h53 => hself _ _ _ _ h53 fr) (fun h54 => hself _ _ _ _ h54 fr)))))
  exact key 60000 _ _ _ _ h fr
def T_m_fitBits_L14 : List At := [(101, none, none), (55, none, some 56), (55, none, some 57), (92, none, none), (93, none, none), (90, none, none), (91, none, none), (89, none, none), (55, none, some 65), (55, none, some 64), (96, none, none), (55, none, some 52), (55, none, some 53)]
theorem f_m_fitBits_L14 {μ0 : Mem} {T : List At} {x1 : Int32} {x2 : Int32}   {x3 : Int32} {x4 : Int32} {μ : Mem} {z : Int32 × Mem} (h : m_fitBits_L14 x1 x2 x3 x4 μ = some z) (fr : Fr T μ0 μ) (hT : Sb (T_m_fitBits_L14) T)   : Fr T μ0 z.2 := by
  have key : ∀ (n : Nat), (∀ (x3 : Int32) (x4 : Int32) (μ : Mem) z, fixN (fun _ _ _ => none) (m_fitBits_B14 x1 x2) n x3 x4 μ = some z → Fr T μ0 μ → Fr T μ0 z.2) := by
    intro n
    refine fixN_ind (fun (f : Int32 → Int32 → Mem → Option (Int32 × Mem)) => ∀ (x3 : Int32) (x4 : Int32) (μ : Mem) z, f x3 x4 μ = some z → Fr T μ0 μ → Fr T μ0 z.2) ?_ ?_ n
    · intro x3 x4 μ z h; cases h
    · intro self hself x3 x4 μ z h fr
      unfold m_fitBits_B14 at h
      exact fi h (fun h12 => fr_ret h12 fr) (fun h13 => fi h13 (fun h16 => hself _ _ _ _ h16 fr) (fun h15 => fo h15 (fun _ μ17 e66 h19 => have fr21 : Fr T μ0 μ17 := Fr.tr (Fr.mono (f_m_triesFromNow  e66) (sbt (sbc (sa_m 1 rfl) (sbc (sa_m 2 rfl) (sbc (sa_m 3 rfl) (sbc (sa_m 4 rfl) (sbc (sa_m 5 rfl) (sbc (sa_m 6 rfl) (sbc (sa_m 7 rfl) (sbc (sa_m 8 rfl) (sbc (sa_m 9 rfl) (sbc (sa_m 10 rfl) (sbc (sa_m 11 rfl) (sbc (sa_m 12 rfl) sbn)))))))))))) hT)) fr; f_m_fitBits_L42 h19 fr21 (sbt (sbc (sa_m 0 rfl) sbn) hT)  (fun  μ38 _ h40 fr41 => f_m_fitBits_L87 h40 fr41 (sbt sbn hT)  (fun x58 μ59 _ h61 fr62 => fi h61 (fun h64 => hself _ _ _ _ h64 fr62) (fun h65 => hself _ _ _ _ h65 fr62))))))
  exact key 60000 _ _ _ _ h fr
def T_m_fitBits : List At := [(101, none, none), (55, none, some 56), (55, none, some 57), (92, none, none), (93, none, none), (90, none, none), (91, none, none), (89, none, none), (55, none, some 65), (55, none, some 64), (96, none, none), (55, none, some 52), (55, none, some 53)]
theorem f_m_fitBits {μ : Mem} {x1 : Int32}  {z : Int32 × Mem} (h : m_fitBits x1 μ = some z) : Fr (T_m_fitBits) μ z.2 := by
  unfold m_fitBits at h
  exact fo h (fun _ μ1 e68 h3 => have fr5 : Fr (T_m_fitBits) μ μ1 := Fr.tr (Fr.mono (f_m_copies  e68) (sbc (sa_m 11 rfl) (sbc (sa_m 12 rfl) (sbc (sa_m 1 rfl) (sbc (sa_m 2 rfl) (sbc (sa_m 3 rfl) (sbc (sa_m 4 rfl) (sbc (sa_m 5 rfl) (sbc (sa_m 6 rfl) (sbc (sa_m 7 rfl) sbn)))))))))) (Fr.rf (T_m_fitBits) μ); fo h3 (fun r9 μ6 e67 h8 => have fr10 : Fr (T_m_fitBits) μ μ6 := Fr.tr (Fr.mono (f_m_canBits  e67) sbn) fr5; f_m_fitBits_L14 h8 fr10 (sbc (sa_m 0 rfl) (sbc (sa_m 1 rfl) (sbc (sa_m 2 rfl) (sbc (sa_m 3 rfl) (sbc (sa_m 4 rfl) (sbc (sa_m 5 rfl) (sbc (sa_m 6 rfl) (sbc (sa_m 7 rfl) (sbc (sa_m 8 rfl) (sbc (sa_m 9 rfl) (sbc (sa_m 10 rfl) (sbc (sa_m 11 rfl) (sbc (sa_m 12 rfl) sbn)))))))))))))  ))
def T_m_fits : List At := [(101, none, none), (55, none, some 56), (55, none, some 57), (92, none, none), (93, none, none), (90, none, none), (91, none, none), (89, none, none), (55, none, some 65), (55, none, some 64), (96, none, none), (55, none, some 52), (55, none, some 53)]
theorem f_m_fits {μ : Mem} {x1 : Int32} {x2 : Int32}  {z : Int32 × Mem} (h : m_fits x1 x2 μ = some z) : Fr (T_m_fits) μ z.2 := by
  unfold m_fits at h
  exact fo h (fun r4 μ1 e33 h3 => have fr5 : Fr (T_m_fits) μ μ1 := Fr.tr (Fr.mono (f_m_in  e33) sbn) (Fr.rf (T_m_fits) μ); fi h3 (fun h7 => fr_ret h7 fr5) (fun h8 => fo h8 (fun r12 μ9 e32 h11 => have fr13 : Fr (T_m_fits) μ μ9 := Fr.tr (Fr.mono (f_m_in  e32) sbn) fr5; fi h11 (fun h16 => fr_ret h16 fr13) (fun h15 => fo h15 (fun r20 μ17 e31 h19 => have fr21 : Fr (T_m_fits) μ μ17 := Fr.tr (Fr.mono (f_m_fitBits  e31) (sbc (sa_m 0 rfl) (sbc (sa_m 1 rfl) (sbc (sa_m 2 rfl) (sbc (sa_m 3 rfl) (sbc (sa_m 4 rfl) (sbc (sa_m 5 rfl) (sbc (sa_m 6 rfl) (sbc (sa_m 7 rfl) (sbc (sa_m 8 rfl) (sbc (sa_m 9 rfl) (sbc (sa_m 10 rfl) (sbc (sa_m 11 rfl) (sbc (sa_m 12 rfl) sbn)))))))))))))) fr13; fi h19 (fun h24 => fo h24 (fun r28 μ25 e30 h27 => have fr29 : Fr (T_m_fits) μ μ25 := Fr.tr (Fr.mono (f_m_bits  e30) sbn) fr21; fr_ret h27 fr29)) (fun h23 => fr_ret h23 fr21))))))
def T_m_worstBy_L17 : List At := []
theorem f_m_worstBy_L17 {μ0 : Mem} {T : List At} {x1 : Int32} {x2 : Int32} {x3 : Int32} {x4 : Int32}  {k60 : Int32 → Mem → Option (Int32 × Mem)} {x5 : Int32} {x6 : Int32} {μ : Mem} {z : Int32 × Mem} (h : m_worstBy_L17 x1 x2 x3 x4 k60 x5 x6 μ = some z) (fr : Fr T μ0 μ) (hT : Sb (T_m_worstBy_L17) T)  (hk60 : ∀ (x5 : Int32) (μ : Mem) z, k60 x5 μ = some z → Fr T μ0 μ → Fr T μ0 z.2) : Fr T μ0 z.2 := by
  have key : ∀ (n : Nat), (∀ (x5 : Int32) (x6 : Int32) (μ : Mem) z, fixN (fun _ _ _ => none) (m_worstBy_B17 x1 x2 x3 x4 k60) n x5 x6 μ = some z → Fr T μ0 μ → Fr T μ0 z.2) := by
    intro n
    refine fixN_ind (fun (f : Int32 → Int32 → Mem → Option (Int32 × Mem)) => ∀ (x5 : Int32) (x6 : Int32) (μ : Mem) z, f x5 x6 μ = some z → Fr T μ0 μ → Fr T μ0 z.2) ?_ ?_ n
    · intro x5 x6 μ z h; cases h
    · intro self hself x5 x6 μ z h fr
      unfold m_worstBy_B17 at h
      exact fi h (fun h5 => hk60 _ _ _ h5 fr) (fun h6 => fi h6 (fun h9 => (have h11 := fgv h9; fi h11 (fun h14 => hself _ _ _ _ h14 fr) (fun h13 => hself _ _ _ _ h13 fr))) (fun h8 => hself _ _ _ _ h8 fr))
  exact key 60000 _ _ _ _ h fr
def T_m_worstBy_L5 : List At := []
theorem f_m_worstBy_L5 {μ0 : Mem} {T : List At} {x1 : Int32} {x2 : Int32}   {x3 : Int32} {x4 : Int32} {μ : Mem} {z : Int32 × Mem} (h : m_worstBy_L5 x1 x2 x3 x4 μ = some z) (fr : Fr T μ0 μ) (hT : Sb (T_m_worstBy_L5) T)   : Fr T μ0 z.2 := by
  have key : ∀ (n : Nat), (∀ (x3 : Int32) (x4 : Int32) (μ : Mem) z, fixN (fun _ _ _ => none) (m_worstBy_B5 x1 x2) n x3 x4 μ = some z → Fr T μ0 μ → Fr T μ0 z.2) := by
    intro n
    refine fixN_ind (fun (f : Int32 → Int32 → Mem → Option (Int32 × Mem)) => ∀ (x3 : Int32) (x4 : Int32) (μ : Mem) z, f x3 x4 μ = some z → Fr T μ0 μ → Fr T μ0 z.2) ?_ ?_ n
    · intro x3 x4 μ z h; cases h
    · intro self hself x3 x4 μ z h fr
      unfold m_worstBy_B5 at h
      exact fi h (fun h2 => fr_ret h2 fr) (fun h3 => f_m_worstBy_L17 h3 fr (sbt sbn hT)  (fun x15 μ16 _ h18 fr19 => fi h18 (fun h21 => hself _ _ _ _ h21 fr19) (fun h22 => hself _ _ _ _ h22 fr19)))
  exact key 60000 _ _ _ _ h fr
def T_m_worstBy : List At := []
theorem f_m_worstBy {μ : Mem} {x1 : Int32} {x2 : Int32}  {z : Int32 × Mem} (h : m_worstBy x1 x2 μ = some z) : Fr (T_m_worstBy) μ z.2 := by
  unfold m_worstBy at h
  exact f_m_worstBy_L5 h (Fr.rf (T_m_worstBy) μ) sbn  
def T_m_ask_L29 : List At := []
theorem f_m_ask_L29 {μ0 : Mem} {T : List At} {x2 : Int32}   {x3 : Int32} {x4 : Int32} {x5 : Int32} {μ : Mem} {z : Int32 × Mem} (h : m_ask_L29 x2 x3 x4 x5 μ = some z) (fr : Fr T μ0 μ) (hT : Sb (T_m_ask_L29) T)   : Fr T μ0 z.2 := by
  have key : ∀ (n : Nat), (∀ (x3 : Int32) (x4 : Int32) (x5 : Int32) (μ : Mem) z, fixN (fun _ _ _ _ => none) (m_ask_B29 x2) n x3 x4 x5 μ = some z → Fr T μ0 μ → Fr T μ0 z.2) := by
    intro n
    refine fixN_ind (fun (f : Int32 → Int32 → Int32 → Mem → Option (Int32 × Mem)) => ∀ (x3 : Int32) (x4 : Int32) (x5 : Int32) (μ : Mem) z, f x3 x4 x5 μ = some z → Fr T μ0 μ → Fr T μ0 z.2) ?_ ?_ n
    · intro x3 x4 x5 μ z h; cases h
    · intro self hself x3 x4 x5 μ z h fr
      unfold m_ask_B29 at h
      exact (have h15 := fgv h; fi h15 (fun h17 => fr_ret h17 fr) (fun h18 => fi h18 (fun h20 => fr_ret h20 fr) (fun h21 => fo h21 (fun r25 μ22 e33 h24 => have fr26 : Fr T μ0 μ22 := Fr.tr (Fr.mono (f_m_worstBy  e33) (sbt sbn hT)) fr; fi h24 (fun h28 => hself _ _ _ _ _ h28 fr26) (fun h29 => fi h29 (fun h31 => hself _ _ _ _ _ h31 fr26) (fun h32 => hself _ _ _ _ _ h32 fr26))))))
  exact key 60000 _ _ _ _ _ h fr
def T_m_ask : List At := [(101, none, none), (55, none, some 56), (55, none, some 57), (92, none, none), (93, none, none), (90, none, none), (91, none, none), (89, none, none), (55, none, some 65), (55, none, some 64), (96, none, none), (55, none, some 52), (55, none, some 53)]
theorem f_m_ask {μ : Mem} {x1 : Int32}  {z : Int32 × Mem} (h : m_ask x1 μ = some z) : Fr (T_m_ask) μ z.2 := by
  unfold m_ask at h
  exact fo h (fun r4 μ1 e35 h3 => have fr5 : Fr (T_m_ask) μ μ1 := Fr.tr (Fr.mono (f_m_in  e35) sbn) (Fr.rf (T_m_ask) μ); fi h3 (fun h8 => fr_ret h8 fr5) (fun h7 => fo h7 (fun r12 μ9 e34 h11 => have fr13 : Fr (T_m_ask) μ μ9 := Fr.tr (Fr.mono (f_m_fitBits  e34) (sbc (sa_m 0 rfl) (sbc (sa_m 1 rfl) (sbc (sa_m 2 rfl) (sbc (sa_m 3 rfl) (sbc (sa_m 4 rfl) (sbc (sa_m 5 rfl) (sbc (sa_m 6 rfl) (sbc (sa_m 7 rfl) (sbc (sa_m 8 rfl) (sbc (sa_m 9 rfl) (sbc (sa_m 10 rfl) (sbc (sa_m 11 rfl) (sbc (sa_m 12 rfl) sbn)))))))))))))) fr5; f_m_ask_L29 h11 fr13 sbn  )))
def T_m_hold_L20 : List At := [(103, none, none)]
theorem f_m_hold_L20 {μ0 : Mem} {T : List At} {x1 : Int32}   {x2 : Int32} {μ : Mem} {z : Int32 × Mem} (h : m_hold_L20 x1 x2 μ = some z) (fr : Fr T μ0 μ) (hT : Sb (T_m_hold_L20) T)   : Fr T μ0 z.2 := by
  have key : ∀ (n : Nat), (∀ (x2 : Int32) (μ : Mem) z, fixN (fun _ _ => none) (m_hold_B20 x1) n x2 μ = some z → Fr T μ0 μ → Fr T μ0 z.2) := by
    intro n
    refine fixN_ind (fun (f : Int32 → Mem → Option (Int32 × Mem)) => ∀ (x2 : Int32) (μ : Mem) z, f x2 μ = some z → Fr T μ0 μ → Fr T μ0 z.2) ?_ ?_ n
    · intro x2 μ z h; cases h
    · intro self hself x2 μ z h fr
      unfold m_hold_B20 at h
      exact fi h (fun h12 => fr_ret h12 fr) (fun h13 => (have h15 := fgv h13; (have h17 := fgv h15; (let μ18 : Mem := stI μ 103 0 (cl (((nI 33) * x1) + x2)) (mI μ 88 0 (cl x2)); have fr19 : Fr T μ0 μ18 := Fr.stI fr (hT _ _ _ (iT 0 rfl inA_nn)); have h20 := mb_o h17; hself _ _ _ h20 fr19))))
  exact key 60000 _ _ _ h fr
def T_m_hold : List At := [(102, none, none), (103, none, none)]
theorem f_m_hold {μ : Mem} {x1 : Int32}  {z : Int32 × Mem} (h : m_hold x1 μ = some z) : Fr (T_m_hold) μ z.2 := by
  unfold m_hold at h
  exact fo h (fun r4 μ1 e21 h3 => have fr5 : Fr (T_m_hold) μ μ1 := Fr.tr (Fr.mono (f_m_in  e21) sbn) (Fr.rf (T_m_hold) μ); fi h3 (fun h8 => fr_ret h8 fr5) (fun h7 => (have h10 := fgv h7; f_m_hold_L20 h10 (Fr.stI fr5 (iT 0 rfl inA_nn)) (sbc (sa_m 1 rfl) sbn)  )))
def T_m_restore_L22 : List At := [(55, none, some 61), (88, none, none)]
theorem f_m_restore_L22 {μ0 : Mem} {T : List At} {x1 : Int32}   {x2 : Int32} {μ : Mem} {z : Int32 × Mem} (h : m_restore_L22 x1 x2 μ = some z) (fr : Fr T μ0 μ) (hT : Sb (T_m_restore_L22) T)   : Fr T μ0 z.2 := by
  have key : ∀ (n : Nat), (∀ (x2 : Int32) (μ : Mem) z, fixN (fun _ _ => none) (m_restore_B22 x1) n x2 μ = some z → Fr T μ0 μ → Fr T μ0 z.2) := by
    intro n
    refine fixN_ind (fun (f : Int32 → Mem → Option (Int32 × Mem)) => ∀ (x2 : Int32) (μ : Mem) z, f x2 μ = some z → Fr T μ0 μ → Fr T μ0 z.2) ?_ ?_ n
    · intro x2 μ z h; cases h
    · intro self hself x2 μ z h fr
      unfold m_restore_B22 at h
      exact fi h (fun h15 => fr_ret h15 (Fr.stI fr (hT _ _ _ (iT 0 rfl inA_ns)))) (fun h16 => (have h18 := fgv h16; (have h20 := fgv h18; (let μ21 : Mem := stI μ 88 0 (cl x2) (mI μ 103 0 (cl (((nI 33) * x1) + x2))); have fr22 : Fr T μ0 μ21 := Fr.stI fr (hT _ _ _ (iT 1 rfl inA_nn)); have h23 := mb_o h20; hself _ _ _ h23 fr22))))
  exact key 60000 _ _ _ h fr
def T_m_restore : List At := [(55, none, some 61), (88, none, none)]
theorem f_m_restore {μ : Mem} {x1 : Int32}  {z : Int32 × Mem} (h : m_restore x1 μ = some z) : Fr (T_m_restore) μ z.2 := by
  unfold m_restore at h
  exact fo h (fun r4 μ1 e24 h3 => have fr5 : Fr (T_m_restore) μ μ1 := Fr.tr (Fr.mono (f_m_in  e24) sbn) (Fr.rf (T_m_restore) μ); fi h3 (fun h7 => fr_ret h7 fr5) (fun h8 => (have h10 := fgv h8; fi h10 (fun h13 => fr_ret h13 fr5) (fun h12 => f_m_restore_L22 h12 fr5 (sbc (sa_m 0 rfl) (sbc (sa_m 1 rfl) sbn))  ))))
def T_m_count_L145 : List At := []
theorem f_m_count_L145 {μ0 : Mem} {T : List At}    {x2 : Int32} {x3 : Int32} {μ : Mem} {z : Int32 × Mem} (h : m_count_L145  x2 x3 μ = some z) (fr : Fr T μ0 μ) (hT : Sb (T_m_count_L145) T)   : Fr T μ0 z.2 := by
  have key : ∀ (n : Nat), (∀ (x2 : Int32) (x3 : Int32) (μ : Mem) z, fixN (fun _ _ _ => none) (m_count_B145 ) n x2 x3 μ = some z → Fr T μ0 μ → Fr T μ0 z.2) := by
    intro n
    refine fixN_ind (fun (f : Int32 → Int32 → Mem → Option (Int32 × Mem)) => ∀ (x2 : Int32) (x3 : Int32) (μ : Mem) z, f x2 x3 μ = some z → Fr T μ0 μ → Fr T μ0 z.2) ?_ ?_ n
    · intro x2 x3 μ z h; cases h
    · intro self hself x2 x3 μ z h fr
      unfold m_count_B145 at h
      exact (have h25 := fgv h; fi h25 (fun h27 => fr_ret h27 fr) (fun h28 => fo h28 (fun r32 μ29 e34 h31 => have fr33 : Fr T μ0 μ29 := Fr.tr (Fr.mono (f_m_flowOf  e34) (sbt sbn hT)) fr; hself _ _ _ _ h31 fr33)))
  exact key 60000 _ _ _ _ h fr
def T_m_count_L236 : List At := []
theorem f_m_count_L236 {μ0 : Mem} {T : List At}    {x2 : Int32} {x3 : Int32} {μ : Mem} {z : Int32 × Mem} (h : m_count_L236  x2 x3 μ = some z) (fr : Fr T μ0 μ) (hT : Sb (T_m_count_L236) T)   : Fr T μ0 z.2 := by
  have key : ∀ (n : Nat), (∀ (x2 : Int32) (x3 : Int32) (μ : Mem) z, fixN (fun _ _ _ => none) (m_count_B236 ) n x2 x3 μ = some z → Fr T μ0 μ → Fr T μ0 z.2) := by
    intro n
    refine fixN_ind (fun (f : Int32 → Int32 → Mem → Option (Int32 × Mem)) => ∀ (x2 : Int32) (x3 : Int32) (μ : Mem) z, f x2 x3 μ = some z → Fr T μ0 μ → Fr T μ0 z.2) ?_ ?_ n
    · intro x2 x3 μ z h; cases h
    · intro self hself x2 x3 μ z h fr
      unfold m_count_B236 at h
      exact (have h62 := fgv h; fi h62 (fun h64 => fr_ret h64 fr) (fun h65 => (have h67 := fgv h65; hself _ _ _ _ h67 fr)))
  exact key 60000 _ _ _ _ h fr
def T_m_count : List At := [(55, none, some 52), (55, none, some 53), (55, none, some 56), (55, none, some 57), (92, none, none), (93, none, none), (90, none, none), (91, none, none), (89, none, none)]
theorem f_m_count {μ : Mem} {x1 : Int32}  {z : Int32 × Mem} (h : m_count x1 μ = some z) : Fr (T_m_count) μ z.2 := by
  unfold m_count at h
  exact fo h (fun _ μ1 e76 h3 => have fr5 : Fr (T_m_count) μ μ1 := Fr.tr (Fr.mono (f_m_copies  e76) (sbc (sa_m 0 rfl) (sbc (sa_m 1 rfl) (sbc (sa_m 2 rfl) (sbc (sa_m 3 rfl) (sbc (sa_m 4 rfl) (sbc (sa_m 5 rfl) (sbc (sa_m 6 rfl) (sbc (sa_m 7 rfl) (sbc (sa_m 8 rfl) sbn)))))))))) (Fr.rf (T_m_count) μ); (fi h3 (fun h7 => (have h9 := fgv h7; fr_ret h9 fr5)) (fun h_ => (fi h_ (fun h10 => (have h12 := fgv h10; fr_ret h12 fr5)) (fun h_ => (fi h_ (fun h13 => (have h15 := fgv h13; fr_ret h15 fr5)) (fun h_ => (fi h_ (fun h16 => fr_ret h16 fr5) (fun h_ => (fi h_ (fun h17 => fr_ret h17 fr5) (fun h_ => (fi h_ (fun h18 => fr_ret h18 fr5) (fun h_ => (fi h_ (fun h19 => fi h19 (fun h21 => fr_ret h21 fr5) (fun h22 => fr_ret h22 fr5)) (fun h_ => (fi h_ (fun h23 => f_m_count_L145 h23 fr5 sbn  ) (fun h_ => (fi h_ (fun h35 => fr_ret h35 fr5) (fun h_ => (fi h_ (fun h36 => fr_ret h36 fr5) (fun h_ => (fi h_ (fun h37 => fr_ret h37 fr5) (fun h_ => (fi h_ (fun h38 => fi h38 (fun h40 => fi h40 (fun h43 => fi h43 (fun h46 => fr_ret h46 fr5) (fun h47 => fr_ret h47 fr5)) (fun h44 => fi h44 (fun h49 => fr_ret h49 fr5) (fun h50 => fr_ret h50 fr5))) (fun h41 => fi h41 (fun h52 => fi h52 (fun h55 => fr_ret h55 fr5) (fun h56 => fr_ret h56 fr5)) (fun h53 => fi h53 (fun h58 => fr_ret h58 fr5) (fun h59 => fr_ret h59 fr5)))) (fun h_ => (fi h_ (fun h60 => f_m_count_L236 h60 fr5 sbn  ) (fun h_ => (fi h_ (fun h68 => fo h68 (fun r72 μ69 e74 h71 => have fr73 : Fr (T_m_count) μ μ69 := Fr.tr (Fr.mono (f_m_canBits  e74) sbn) fr5; fr_ret h71 fr73)) (fun h75 => fr_ret h75 fr5)))))))))))))))))))))))))))))

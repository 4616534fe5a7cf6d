/-! what holds at the law's start -/
theorem st_classes {s : State} {args : Array Value} (hts : ∀ w ∈ lwG, w.before args s = true) : ∃ D : va_G, ∀ (c : Nat) (q : vw_C), vwCl[c]? = some q → u_Kn s q.1 q.2.1 q.2.2 (D.1 c) (D.2 c) := by
  have h : ∀ c : Nat, ∃ D : ClassId × (Nat → Nat), c < 10 → u_Kn s (oNm c) (clT c) (clN c) D.1 D.2 := by
    intro c
    by_cases hc : c < 10
    · obtain ⟨cC, iS, h⟩ := u_known (C := oNm c) (T := clT c) (N := clN c) (n := clN c) hts (lay_in hc) (hts _ (in_G (ins_ok c hc).1 rfl))
      exact ⟨(cC, iS), fun _ => h⟩
    · exact ⟨(0, fun _ => 0), fun h => absurd h hc⟩
  obtain ⟨f, hf⟩ := Classical.axiomOfChoice h
  refine ⟨(fun c => (f c).1, fun c => (f c).2), fun c q hq => ?_⟩
  have hc : c < 10 := (List.getElem?_eq_some_iff.mp hq).1
  rw [vw_at c hc] at hq
  cases hq
  exact hf c hc
theorem aoW : tables_1[307]? = some (.arrayOver (ety 4)) ∧ tables_1[345]? = some (.arrayOver (ety 5)) ∧ tables_1[230]? = some (.arrayOver (ety 6)) := by decide +kernel
theorem st_arrOf {s : State} {c : ClassId} {k : Class} {comp : ClassId} {ty : FieldType} (h1 : s.vm.classes[c]? = some k) (h2 : k.kind = .array comp ty) : ArrOfT s c ty := fun n z => ⟨(fun q h => by cases h), k, h1, comp, h2⟩
theorem st_arrays {s : State} {args : Array Value} (hts : ∀ w ∈ lw_tbl, w.before args s = true) : ∃ ty : Nat → ClassId, ∀ j, j < 7 → ArrOfT s (ty j) (ety j) ∧ va_RA s (ty j) (ety j) := by
  have h : ∀ j : Nat, ∃ cA : ClassId, j < 7 → ArrOfT s cA (ety j) ∧ va_RA s cA (ety j) := by
    intro j
    by_cases h4 : j < 4
    · obtain ⟨c, k, comp, h1, h2, h3⟩ := Cond.arrayClass_spec (hts _ (List.mem_filter.mp (arrW h4)).1)
      refine ⟨c, fun _ => ⟨st_arrOf h2 h3, ?_⟩⟩
      rcases (show j = 0 ∨ j = 1 ∨ j = 2 ∨ j = 3 by omega) with rfl | rfl | rfl | rfl <;> exact h1
    · by_cases e4 : j = 4
      · subst e4
        obtain ⟨comp, c, k, h1, -, h2, h3, h5⟩ := Cond.arrayOver_spec (n := "SluiceLogs$State") (hts _ (List.mem_append_right _ (List.mem_of_getElem? aoW.1)))
        exact ⟨c, fun _ => ⟨st_arrOf h2 h3, k, comp, h2, h3, h1, h5⟩⟩
      · by_cases e5 : j = 5
        · subst e5
          obtain ⟨comp, c, k, h1, h2, h3, h5⟩ := Cond.arrayOver_specA (t := .int) (hts _ (List.mem_append_right _ (List.mem_of_getElem? aoW.2.1)))
          exact ⟨c, fun _ => ⟨st_arrOf h2 h3, h5⟩⟩
        · by_cases e6 : j = 6
          · subst e6
            obtain ⟨comp, c, k, h1, h2, h3, h5⟩ := Cond.arrayOver_specA (t := .long) (hts _ (List.mem_append_right _ (List.mem_of_getElem? aoW.2.2)))
            exact ⟨c, fun _ => ⟨st_arrOf h2 h3, h5⟩⟩
          · exact ⟨0, fun h => by omega⟩
  obtain ⟨f, hf⟩ := Classical.axiomOfChoice h
  exact ⟨f, hf⟩
theorem st_KG {s : State} {args : Array Value} (hts : ∀ w ∈ lw_tbl, w.before args s = true) : ∃ (D : va_G) (ty : Nat → ClassId), ∀ (n b : Nat) (u v : Nat → Nat), KG (n, b, D, ty, u, v) s := by
  have hg : ∀ w ∈ lwG, w.before args s = true := fun w h => hts w (List.mem_filter.mp h).1
  obtain ⟨D, hD⟩ := st_classes hg
  obtain ⟨ty, hty⟩ := st_arrays hts
  refine ⟨D, ty, fun n b u v => ⟨⟨hD, fun k q hk => ?_⟩, fun w hw => ?_, ?_, ?_, ?_⟩⟩
  · have h7 : k < 7 := by
      have := (List.getElem?_eq_some_iff.mp hk).1
      unfold tysG at this
      simpa using this
    rw [tys_at _ h7] at hk
    cases hk
    exact hty k h7
  · obtain ⟨a, i, x, y, rfl⟩ := nest_is hw
    exact va_Nw.of rfl (hts _ (List.mem_append_right _ (List.mem_filter.mp hw).1))
  · exact (hts _ (List.mem_append_right _ (List.mem_of_getElem? aoW.1)))
  · exact (hts _ (List.mem_append_right _ (List.mem_of_getElem? aoW.2.1)))
  · exact (hts _ (List.mem_append_right _ (List.mem_of_getElem? aoW.2.2)))
def flL : List Cond := flatC (Jvm.Cond.and given_1 narrow_1)
theorem fl_4 : flL[4]? = some (.eq (.static "java/lang/String" "COMPACT_STRINGS" "Z") (.int 1)) := by decide +kernel
theorem fl_5 : flL[5]? = some (.isRef (.static "jdk/internal/util/Preconditions" "SIOOBE_FORMATTER" "Ljava/util/function/BiFunction;")) := by decide +kernel
theorem fl_t0 : flL[9]? = some (.exactly (.string RX5 72) "java/lang/String") ∧ flL[10]? = some (.eq (.field (.string RX5 72) "java/lang/String" "coder" "B") (.int 0)) ∧ flL[11]? = some (.arrayOf (.field (.string RX5 72) "java/lang/String" "value" "[B") .byte) ∧ flL[12]? = some (.eq (.length (.field (.string RX5 72) "java/lang/String" "value" "[B")) (.int (Int32.ofNat 184))) := by decide +kernel
theorem fl_t1 : flL[197]? = some (.exactly (.string RX5 56) "java/lang/String") ∧ flL[198]? = some (.eq (.field (.string RX5 56) "java/lang/String" "coder" "B") (.int 0)) ∧ flL[199]? = some (.arrayOf (.field (.string RX5 56) "java/lang/String" "value" "[B") .byte) ∧ flL[200]? = some (.eq (.length (.field (.string RX5 56) "java/lang/String" "value" "[B")) (.int (Int32.ofNat 9))) := by decide +kernel
theorem fl_e0 : ∀ j, j < 184 → flL[13 + j]? = some (.eq (.elem (.field (.string RX5 72) "java/lang/String" "value" "[B") (.int (Int32.ofNat j))) (.int ((bytS.getD 0 []).getD j 0))) := by decide +kernel
theorem fl_e1 : ∀ j, j < 9 → flL[201 + j]? = some (.eq (.elem (.field (.string RX5 56) "java/lang/String" "value" "[B") (.int (Int32.ofNat j))) (.int ((bytS.getD 1 []).getD j 0))) := by decide +kernel
theorem fl_n : flL[210]? = some (.not (.eq (.string RX5 72) (.string RX5 56))) := by decide +kernel
theorem tb_s0 : tables_1[520]? = some (.stringRef RX5 72 (strT 0)) := by decide +kernel
theorem tb_s1 : tables_1[569]? = some (.stringRef RX5 56 (strT 1)) := by decide +kernel
theorem tb_st : tables_1[530]? = some (.laysStatic "java/lang/String" "COMPACT_STRINGS" "Z") ∧ tables_1[13]? = some (.initialized "java/lang/String") ∧ tables_1[546]? = some (.laysStatic "jdk/internal/util/Preconditions" "SIOOBE_FORMATTER" "Ljava/util/function/BiFunction;") ∧ tables_1[15]? = some (.initialized "jdk/internal/util/Preconditions") := by decide +kernel
theorem st_KS {s : State} {b : Nat} (hts : ∀ w ∈ lw_tbl, w.before #[Value.ref b] s = true) (hgv : (Jvm.Cond.and given_1 narrow_1).before #[Value.ref b] s = true) : ∃ adK adV : Nat → Nat, ∀ (b' : Nat) (D : va_G) (ty : Nat → ClassId), KS (s.heap.size, b', D, ty, adK, adV) s s.heap := by
  have hf : ∀ {n : Nat} {c : Cond}, flL[n]? = some c → c.before #[Value.ref b] s = true := fun h => flat_of_before _ hgv _ (List.mem_of_getElem? h)
  have ht : ∀ {n : Nat} {c : Cond}, tables_1[n]? = some c → c.before #[Value.ref b] s = true := fun h => hts _ (List.mem_append_right _ (List.mem_of_getElem? h))
  have hA : ∀ a : Nat, a < s.heap.size → ¬ s.heap.size ≤ a := fun a h => by omega
  have two : ∀ i : Nat, i < 2 → i = 0 ∨ i = 1 := fun i h => by omega
  obtain ⟨adK, adV, hS, he⟩ := vk_Sof (args := #[Value.ref b]) (s := s) (N := 2) (tm := fun i => .string RX5 (idxS i)) (len := lenS) (byt := bytS) (A := fun q => s.heap.size ≤ q)
    (fun i hi => by rcases two i hi with rfl | rfl <;> decide)
    (fun i hi => by
      rcases two i hi with rfl | rfl
      · exact hf fl_t0.1
      · exact hf fl_t1.1)
    (fun i hi => by
      rcases two i hi with rfl | rfl
      · exact hf fl_t0.2.1
      · exact hf fl_t1.2.1)
    (fun i hi => by
      rcases two i hi with rfl | rfl
      · exact hf fl_t0.2.2.1
      · exact hf fl_t1.2.2.1)
    (fun i hi => by
      rcases two i hi with rfl | rfl
      · exact hf fl_t0.2.2.2
      · exact hf fl_t1.2.2.2)
    (fun i hi j hj => by
      rcases two i hi with rfl | rfl
      · exact hf (fl_e0 j hj)
      · exact hf (fl_e1 j hj))
    (fun i j hi hj hij => by
      rcases two i hi with rfl | rfl <;> rcases two j hj with rfl | rfl
      · exact absurd rfl hij
      · exact Or.inl (hf fl_n)
      · exact Or.inr (hf fl_n)
      · exact absurd rfl hij) hA
  exact ⟨adK, adV, fun b' D ty => ⟨hS, vk_R.of (ht tb_s0) (he 0 (by omega)), vk_R.of (ht tb_s1) (he 1 (by omega)), va_Zof (ht tb_st.1) (ht tb_st.2.1) (va_eqt (hf fl_4)) hA, va_Zqof (ht tb_st.2.2.1) (ht tb_st.2.2.2) (hf fl_5) hA⟩⟩

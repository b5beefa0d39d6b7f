/-! the law's entry -/
def xs_F : List Cond := flatC (Jvm.Cond.and given_1 narrow_1)
abbrev xs_tm (i : Nat) : Term := .string "ScrawlHouse$PatternText" (x_stx.getD i (0, "")).1
theorem xs_1 : ∀ i, i < 5 → Cond.exactly (xs_tm i) "java/lang/String" ∈ xs_F := by decide +kernel
theorem xs_2 : ∀ i, i < 5 → Cond.eq (.field (xs_tm i) "java/lang/String" "coder" "B") (.int 0) ∈ xs_F := by decide +kernel
theorem xs_3 : ∀ i, i < 5 → Cond.arrayOf (.field (xs_tm i) "java/lang/String" "value" "[B") .byte ∈ xs_F := by decide +kernel
theorem xs_4 : ∀ i, i < 5 → Cond.eq (.length (.field (xs_tm i) "java/lang/String" "value" "[B")) (.int (Int32.ofNat (x_lens.getD i 0))) ∈ xs_F := by decide +kernel
theorem xs_5 : ∀ i, i < 5 → ∀ j, j < x_lens.getD i 0 → Cond.eq (.elem (.field (xs_tm i) "java/lang/String" "value" "[B") (.int (Int32.ofNat j))) (.int ((x_byts.getD i []).getD j 0)) ∈ xs_F := by decide +kernel
theorem xs_6 : ∀ i, i < 5 → ∀ j, j < 5 → i ≠ j → Cond.not (Cond.eq (xs_tm i) (xs_tm j)) ∈ xs_F ∨ Cond.not (Cond.eq (xs_tm j) (xs_tm i)) ∈ xs_F := by decide +kernel
theorem xs_7 : Cond.exactly (.string "ScrawlHouse" 195) "java/lang/String" ∈ xs_F ∧ Cond.isRef (.static "java/lang/Throwable" "UNASSIGNED_STACK" "[Ljava/lang/StackTraceElement;") ∈ xs_F ∧ Cond.isRef (.static "java/lang/Throwable" "SUPPRESSED_SENTINEL" "Ljava/util/List;") ∈ xs_F ∧ Cond.isRef (.static "jdk/internal/util/Preconditions" "SIOOBE_FORMATTER" "Ljava/util/function/BiFunction;") ∈ xs_F ∧ Cond.eq (.static "java/lang/String" "COMPACT_STRINGS" "Z") (.int 1) ∈ xs_F := by decide +kernel
theorem xs_8 : ∀ i, i < 5 → Cond.stringRef "ScrawlHouse$PatternText" (x_stx.getD i (0, "")).1 (x_stx.getD i (0, "")).2 ∈ lw_tbl := by decide +kernel
theorem xs_9 : ∀ w ∈ [Cond.stringRef "ScrawlHouse" 195 "OUT has no such byte", .laysStatic "java/lang/Throwable" "UNASSIGNED_STACK" "[Ljava/lang/StackTraceElement;", .laysStatic "java/lang/Throwable" "SUPPRESSED_SENTINEL" "Ljava/util/List;", .initialized "java/lang/Throwable", .laysStatic "jdk/internal/util/Preconditions" "SIOOBE_FORMATTER" "Ljava/util/function/BiFunction;", .initialized "jdk/internal/util/Preconditions", .laysStatic "java/lang/String" "COMPACT_STRINGS" "Z", .initialized "java/lang/String", .arrayClass .int, .arrayClass .boolean, .arrayClass .long], w ∈ lw_tbl := by decide +kernel
theorem xs_10 : ∀ r ∈ x_NL, x_nc r ∈ lw_tbl := by decide +kernel
theorem xs_11 : ∀ ci, ci < 13 → Cond.instantiable (x_C ci).1 (x_C ci).2.2 ∈ lw_tbl := by decide +kernel
theorem xs_12 : vwCl.length = 13 := by decide +kernel
theorem xs_Ex {s : State} {b L : Nat} {xs : Nat → Int32} (hts : ∀ w ∈ lw_tbl, w.before #[Value.ref b] s = true) (hX : va_X b L xs s s.heap) (hbl : b < s.heap.size) (hgv : (Jvm.Cond.and given_1 narrow_1).before #[Value.ref b] s = true) : ∃ q : xQ, q.1 = b ∧ x_Ex (L, xs) q (fun z => s.heap.size ≤ z) s := by
  have hs : ∀ w ∈ xs_F, w.before #[Value.ref b] s = true := flat_of_before _ hgv
  have hA : ∀ a : Nat, a < s.heap.size → ¬ (fun z : Nat => s.heap.size ≤ z) a := fun a h z => Nat.lt_irrefl _ (Nat.lt_of_lt_of_le h z)
  obtain ⟨adK, adV, hS, hev⟩ := vk_Sof (args := #[Value.ref b]) (s := s) (N := 5) (tm := xs_tm) (len := x_lens) (byt := x_byts) (A := fun z => s.heap.size ≤ z) (by decide) (fun i hi => hs _ (xs_1 i hi)) (fun i hi => hs _ (xs_2 i hi)) (fun i hi => hs _ (xs_3 i hi)) (fun i hi => hs _ (xs_4 i hi)) (fun i hi j hj => hs _ (xs_5 i hi j hj)) (fun i j hi hj hn => (xs_6 i hi j hj hn).imp (fun h => hs _ h) (fun h => hs _ h)) hA
  obtain ⟨sa, -, -, -, q1, -⟩ := Cond.exactly_spec (args := #[Value.ref b]) (first := s) (o := none) (s := s) (idx := []) (t := .string "ScrawlHouse" 195) (cls := "java/lang/String") (hs _ xs_7.1)
  have hw : ∀ w ∈ [Cond.stringRef "ScrawlHouse" 195 "OUT has no such byte", .laysStatic "java/lang/Throwable" "UNASSIGNED_STACK" "[Ljava/lang/StackTraceElement;", .laysStatic "java/lang/Throwable" "SUPPRESSED_SENTINEL" "Ljava/util/List;", .initialized "java/lang/Throwable", .laysStatic "jdk/internal/util/Preconditions" "SIOOBE_FORMATTER" "Ljava/util/function/BiFunction;", .initialized "jdk/internal/util/Preconditions", .laysStatic "java/lang/String" "COMPACT_STRINGS" "Z", .initialized "java/lang/String", .arrayClass .int, .arrayClass .boolean, .arrayClass .long], w.before #[Value.ref b] s = true := fun w h => hts w (xs_9 w h)
  refine ⟨(b, adK, adV, sa), rfl, ⟨hX, hbl, hA b hbl⟩, hS, fun i hi => vk_R.of (hts _ (xs_8 i hi)) (hev i hi), fun r hr => va_Nw.of rfl (hts _ (xs_10 r hr)), ?_, ?_, vk_R.of (hw _ (by simp)) q1, ?_, ?_⟩
  · exact vx_Zqof (hw _ (by simp)) (hw (.initialized "java/lang/Throwable") (by simp)) (hs _ xs_7.2.1) hA
  · exact vx_Zqof (hw _ (by simp)) (hw (.initialized "java/lang/Throwable") (by simp)) (hs _ xs_7.2.2.1) hA
  · exact va_Zof (hw _ (by simp)) (hw (.initialized "java/lang/String") (by simp)) (va_eqt (hs _ xs_7.2.2.2.2)) hA
  · exact vx_Zqof (hw _ (by simp)) (hw (.initialized "jdk/internal/util/Preconditions") (by simp)) (hs _ xs_7.2.2.2.1) hA
theorem xs_arr {s : State} {args : Array Value} {t : FieldType} (h : (Cond.arrayClass t).before args s = true) : ∃ cA, ArrOfT s cA t ∧ s.vm.findClass ("[" ++ t.toString) = some cA := by
  obtain ⟨cA, kA, comp, h1, h2, h3⟩ := Cond.arrayClass_spec h
  exact ⟨cA, fun n z => ⟨fun k h => (by cases h), kA, h2, comp, h3⟩, h1⟩
theorem xs_K {s : State} {args : Array Value} (hts : ∀ w ∈ lw_tbl, w.before args s = true) : ∃ (D : va_G) (cs : ClassId × ClassId × ClassId), va_K D vwCl (x_tys cs) s := by
  have hk : ∀ ci, ∃ q : ClassId × (Nat → Nat), ci < 13 → u_Kn s (x_C ci).1 (x_C ci).2.1 (x_C ci).2.2 q.1 q.2 := by
    intro ci
    by_cases h : ci < 13
    · obtain ⟨ty0, g1, g2, g3, -⟩ := x_clss ci h
      obtain ⟨cC, iS, hK⟩ := u_known (ws := lw_tbl) (C := (x_C ci).1) (T := (x_C ci).2.1) (N := (x_C ci).2.2) hts (fun w hw => (List.mem_filter.mp (g3 w hw)).1) (hts _ (xs_11 ci h))
      exact ⟨(cC, iS), fun _ => hK⟩
    · exact ⟨(0, fun _ => 0), fun q => absurd q h⟩
  obtain ⟨ad, had⟩ := Classical.axiomOfChoice hk
  obtain ⟨c1, a1, b1⟩ := xs_arr (hts (.arrayClass .int) (xs_9 _ (by simp)))
  obtain ⟨c2, a2, b2⟩ := xs_arr (hts (.arrayClass .boolean) (xs_9 _ (by simp)))
  obtain ⟨c3, a3, b3⟩ := xs_arr (hts (.arrayClass .long) (xs_9 _ (by simp)))
  refine ⟨(fun c => (ad c).1, fun c => (ad c).2), (c1, c2, c3), fun c q hq => ?_, fun k q hk => ?_⟩
  · have hc : c < 13 := by
      have := (List.getElem?_eq_some_iff.mp hq).1
      rw [xs_12] at this
      exact this
    obtain ⟨ty0, g1, -⟩ := x_clss c hc
    rw [g1] at hq
    cases hq
    exact had c hc
  · match k, hk with
    | 0, hk => cases hk; exact ⟨a1, b1⟩
    | 1, hk => cases hk; exact ⟨a2, b2⟩
    | 2, hk => cases hk; exact ⟨a3, b3⟩
    | k + 3, hk => exact absurd hk (by simp)

/-! X3_isOfSort: method 31, ScrawlHouse$Lore.isOfSort(II)Z -/
set_option maxRecDepth 100000 in
theorem w_X3_isOfSort_0 {E : Nat × (Nat → Int32)} {d : Nat} {v : xV} {x1 : Int32} {x2 : Int32} {Q : Int32 → xV → Prop} (h : ((x1 < (nI 0) → Q (nI 0) v) ∧ (¬ x1 < (nI 0) → (((gI v 3 7) ≤ x1 → Q (nI 0) v) ∧ (¬ (gI v 3 7) ≤ x1 → vp_in x1 80 ∧ ((¬ ((gA v 8) (x1).toNatClampNeg) = x2 → Q (nI 0) v) ∧ (((gA v 8) (x1).toNatClampNeg) = x2 → Q (nI 1) v))))))) : RI E d 31 0 [(0, .ref 3), (1, .int x1), (2, .int x2)] v Q := by
  unfold RI
  refine xr_blk (lv1 := [(0, .ref 3), (1, .int x1), (2, .int x2)]) (st1 := [.int x1]) (S1 := rt v) (pc1 := 1) [(.iload_n 1, .null, 0, 0)] [] (by decide +kernel) rfl trivial ?_
  refine xr_if_lt (tgt := 26) (off := 25) (by decide +kernel) (by decide) (fun hc => ?_) (fun hc => ?_)
  · replace h := h.1 hc
    refine xr_blk (lv1 := [(0, .ref 3), (1, .int x1), (2, .int x2)]) (st1 := [.int (nI 0)]) (S1 := rt v) (pc1 := 27) [(.iconst 0, .int (nI 0), 0, 0)] [] (by decide +kernel) rfl trivial ?_
    exact xr_zret (by decide +kernel) rfl x_in2_0 ⟨_, _, rfl, rfl, h⟩
  · replace h := h.2 hc
    refine xr_blk (lv1 := [(0, .ref 3), (1, .int x1), (2, .int x2)]) (st1 := [.int (gI v 3 7), .int x1]) (S1 := rt v) (pc1 := 9) [(.iload_n 1, .null, 0, 0), (.aload_n 0, .null, 0, 0), (.getfield 33, .null, 3, 7)] [] (by decide +kernel) rfl trivial ?_
    refine xr_ic_ge (tgt := 26) (off := 17) (by decide +kernel) (by decide) (fun hc => ?_) (fun hc => ?_)
    · replace h := h.1 hc
      refine xr_blk (lv1 := [(0, .ref 3), (1, .int x1), (2, .int x2)]) (st1 := [.int (nI 0)]) (S1 := rt v) (pc1 := 27) [(.iconst 0, .int (nI 0), 0, 0)] [] (by decide +kernel) rfl trivial ?_
      exact xr_zret (by decide +kernel) rfl x_in2_0 ⟨_, _, rfl, rfl, h⟩
    · replace h := h.2 hc
      obtain ⟨hb1, h⟩ := h
      refine xr_blk (lv1 := [(0, .ref 3), (1, .int x1), (2, .int x2)]) (st1 := [.int x2, .int ((gA v 8) (x1).toNatClampNeg)]) (S1 := rt v) (pc1 := 19) [(.aload_n 0, .null, 0, 0), (.getfield 24, .null, 3, 4), (.iload_n 1, .null, 0, 0), (.iaload, .null, 0, 0), (.iload_n 2, .null, 0, 0)] [(x1, 80)] (by decide +kernel) rfl ⟨hb1, trivial⟩ ?_
      refine xr_ic_ne (tgt := 26) (off := 7) (by decide +kernel) (by decide) (fun hc => ?_) (fun hc => ?_)
      · replace h := h.1 hc
        refine xr_blk (lv1 := [(0, .ref 3), (1, .int x1), (2, .int x2)]) (st1 := [.int (nI 0)]) (S1 := rt v) (pc1 := 27) [(.iconst 0, .int (nI 0), 0, 0)] [] (by decide +kernel) rfl trivial ?_
        exact xr_zret (by decide +kernel) rfl x_in2_0 ⟨_, _, rfl, rfl, h⟩
      · replace h := h.2 hc
        refine xr_blk (lv1 := [(0, .ref 3), (1, .int x1), (2, .int x2)]) (st1 := [.int (nI 1)]) (S1 := rt v) (pc1 := 23) [(.iconst 1, .int (nI 1), 0, 0)] [] (by decide +kernel) rfl trivial ?_
        refine xr_goto (tgt := 27) (off := 4) (by decide +kernel) (by decide) ?_
        exact xr_zret (by decide +kernel) rfl x_in2_1 ⟨_, _, rfl, rfl, h⟩
theorem ok_31 : x_mOK 31 := ⟨x_tm5 (List.mem_of_getElem? (i := 100) rfl) rfl, 103, by decide +kernel⟩
/-! X4_build: method 33, ScrawlHouse$Machine.build(LScrawlHouse$PatternText;)V -/
set_option maxRecDepth 100000 in
theorem w_X4_build_0 {E : Nat × (Nat → Int32)} {d : Nat} {v : xV} {Q : xV → Prop} (h : RV E (d + 1) 33 13 [(0, .ref 21), (1, .ref 17), (2, .long (0 : Int64)), (4, .int (nI 0))] (v_I v 21 4 (gI v 17 4)) Q) : RV E (d + 1) 33 0 [(0, .ref 21), (1, .ref 17)] v Q := by
  unfold RV
  refine xr_blk (lv1 := [(4, .int (nI 0)), (2, .long (0 : Int64)), (0, .ref 21), (1, .ref 17)]) (st1 := []) (S1 := rt (v_I v 21 4 (gI v 17 4))) (pc1 := 13) [(.aload_n 0, .null, 0, 0), (.aload_n 1, .null, 0, 0), (.getfield 36, .null, 5, 4), (.putfield 27, .null, 4, 4), (.lconst 0, .long 0, 0, 0), (.lstore_n 2, .null, 0, 0), (.iconst 0, .int (nI 0), 0, 0), (.istore 4, .null, 0, 0)] [] (by decide +kernel) rfl trivial ?_
  exact x_R.sub [2, 3, 1, 0] rfl h
set_option maxRecDepth 100000 in
theorem w_X4_build_13 {E : Nat × (Nat → Int32)} {d : Nat} {v : xV} {x2 : Int64} {x4 : Int32} {Q : xV → Prop} (h : (((gI v 21 4) ≤ x4 → KI E d 36 [.ref 21, .ref 17, .long x2] (v_I v 21 3 (nI 0)) (fun y2 v1 => RV E (d + 1) 33 56 [(0, .ref 21), (1, .ref 17), (4, .int (nI 0)), (5, .int (nI 0))] v1 Q)) ∧ (¬ (gI v 21 4) ≤ x4 → KJ E d 38 [.ref 17, .int x4, .int (nI 0)] v (fun y4 v3 => ∀ y5 : Int64, y5 = (x2 ||| y4) → RV E (d + 1) 33 13 [(0, .ref 21), (1, .ref 17), (2, .long y5), (4, .int (x4 + (nI 1)))] v3 Q)))) : RV E (d + 1) 33 13 [(0, .ref 21), (1, .ref 17), (2, .long x2), (4, .int x4)] v Q := by
  unfold RV
  refine xr_blk (lv1 := [(0, .ref 21), (1, .ref 17), (2, .long x2), (4, .int x4)]) (st1 := [.int (gI v 21 4), .int x4]) (S1 := rt v) (pc1 := 19) [(.iload 4, .null, 0, 0), (.aload_n 0, .null, 0, 0), (.getfield 27, .null, 4, 4)] [] (by decide +kernel) rfl trivial ?_
  refine xr_ic_ge (tgt := 38) (off := 19) (by decide +kernel) (by decide) (fun hc => ?_) (fun hc => ?_)
  · replace h := h.1 hc
    refine xr_blk (lv1 := [(0, .ref 21), (1, .ref 17), (2, .long x2), (4, .int x4)]) (st1 := [.long x2, .ref 17, .ref 21]) (S1 := rt (v_I v 21 3 (nI 0))) (pc1 := 46) [(.aload_n 0, .null, 0, 0), (.iconst 0, .int (nI 0), 0, 0), (.putfield 23, .null, 4, 3), (.aload_n 0, .null, 0, 0), (.aload_n 1, .null, 0, 0), (.lload_n 2, .null, 0, 0)] [] (by decide +kernel) rfl trivial ?_
    refine xk_VI (As := [.ref 17, .long x2]) (bb := 21) (rest := []) (idx := 43) (i0 := 43) (m1 := 36) (ps := [833, 835, 11]) (by decide +kernel) (by decide +kernel) (by decide) rfl ((gK_s (by decide)).trans (by decide +kernel)) (by decide) (Nat.le_of_ble_eq_true rfl) rfl h (fun y2 v1 h => ?_)
    refine xr_blk (lv1 := [(5, .int (nI 0)), (4, .int (nI 0)), (0, .ref 21), (1, .ref 17), (2, .long x2)]) (st1 := []) (S1 := rt v1) (pc1 := 56) [(.pop, .null, 0, 0), (.iconst 0, .int (nI 0), 0, 0), (.istore 4, .null, 0, 0), (.iconst 0, .int (nI 0), 0, 0), (.istore 5, .null, 0, 0)] [] (by decide +kernel) rfl trivial ?_
    exact x_R.sub [2, 3, 1, 0] rfl h
  · replace h := h.2 hc
    refine xr_blk (lv1 := [(0, .ref 21), (1, .ref 17), (2, .long x2), (4, .int x4)]) (st1 := [.int (nI 0), .int x4, .ref 17, .long x2]) (S1 := rt v) (pc1 := 27) [(.lload_n 2, .null, 0, 0), (.aload_n 1, .null, 0, 0), (.iload 4, .null, 0, 0), (.iconst 0, .int (nI 0), 0, 0)] [] (by decide +kernel) rfl trivial ?_
    refine xk_SJ (As := [.ref 17, .int x4, .int (nI 0)]) (rest := [.long x2]) (idx := 39) (i0 := 39) (m1 := 38) (ps := [827, 828]) (by decide +kernel) (by decide +kernel) (by decide) rfl (Nat.le_of_ble_eq_true rfl) rfl h (fun y4 v3 h => ?_)
    refine xr_blk (lv1 := [(0, .ref 21), (1, .ref 17), (2, .long x2), (4, .int x4)]) (st1 := [.long (x2 ||| y4)]) (S1 := rt v3) (pc1 := 31) [(.lor, .null, 0, 0)] [] (by decide +kernel) rfl trivial ?_
    refine xr_topl (fun y5 ey5 => ?_)
    replace h := h y5 ey5
    refine xr_blk (lv1 := [(4, .int (x4 + (nI 1))), (2, .long y5), (0, .ref 21), (1, .ref 17)]) (st1 := []) (S1 := rt v3) (pc1 := 35) [(.lstore_n 2, .null, 0, 0), (.iinc 4 1, .int (nI 1), 0, 0)] [] (by decide +kernel) rfl trivial ?_
    refine xr_goto (tgt := 13) (off := -22) (by decide +kernel) (by decide) ?_
    exact x_R.sub [2, 3, 1, 0] rfl h
set_option maxRecDepth 100000 in
theorem w_X4_build_56 {E : Nat × (Nat → Int32)} {d : Nat} {v : xV} {x4 : Int32} {x5 : Int32} {Q : xV → Prop} (h : (((nI 6) < x5 → Q v) ∧ (¬ (nI 6) < x5 → ∀ y1 : Int32, y1 = (gI v 21 3) → RV E (d + 1) 33 73 [(0, .ref 21), (1, .ref 17), (5, .int x5), (6, .int y1), (7, .int x4)] v Q))) : RV E (d + 1) 33 56 [(0, .ref 21), (1, .ref 17), (4, .int x4), (5, .int x5)] v Q := by
  unfold RV
  refine xr_blk (lv1 := [(0, .ref 21), (1, .ref 17), (4, .int x4), (5, .int x5)]) (st1 := [.int (nI 6), .int x5]) (S1 := rt v) (pc1 := 60) [(.iload 5, .null, 0, 0), (.bipush 6, .int (nI 6), 0, 0)] [] (by decide +kernel) rfl trivial ?_
  refine xr_ic_gt (tgt := 144) (off := 84) (by decide +kernel) (by decide) (fun hc => ?_) (fun hc => ?_)
  · replace h := h.1 hc
    exact xr_ret0 (by decide +kernel) rfl ⟨_, rfl, rfl, h⟩
  · replace h := h.2 hc
    refine xr_blk (lv1 := [(0, .ref 21), (1, .ref 17), (4, .int x4), (5, .int x5)]) (st1 := [.int (gI v 21 3)]) (S1 := rt v) (pc1 := 67) [(.aload_n 0, .null, 0, 0), (.getfield 23, .null, 4, 3)] [] (by decide +kernel) rfl trivial ?_
    refine xr_topi (fun y1 ey1 => ?_)
    replace h := h y1 ey1
    refine xr_blk (lv1 := [(7, .int x4), (6, .int y1), (0, .ref 21), (1, .ref 17), (4, .int x4), (5, .int x5)]) (st1 := []) (S1 := rt v) (pc1 := 73) [(.istore 6, .null, 0, 0), (.iload 4, .null, 0, 0), (.istore 7, .null, 0, 0)] [] (by decide +kernel) rfl trivial ?_
    exact x_R.sub [2, 3, 5, 1, 0] rfl h
set_option maxRecDepth 100000 in
theorem w_X4_build_73 {E : Nat × (Nat → Int32)} {d : Nat} {v : xV} {x5 : Int32} {x6 : Int32} {x7 : Int32} {Q : xV → Prop} (h : ((x6 ≤ x7 → RV E (d + 1) 33 56 [(0, .ref 21), (1, .ref 17), (4, .int x6), (5, .int (x5 + (nI 1)))] v Q) ∧ (¬ x6 ≤ x7 → RV E (d + 1) 33 83 [(0, .ref 21), (1, .ref 17), (5, .int x5), (6, .int x6), (7, .int x7), (8, .int (nI 0))] v Q))) : RV E (d + 1) 33 73 [(0, .ref 21), (1, .ref 17), (5, .int x5), (6, .int x6), (7, .int x7)] v Q := by
  unfold RV
  refine xr_blk (lv1 := [(0, .ref 21), (1, .ref 17), (5, .int x5), (6, .int x6), (7, .int x7)]) (st1 := [.int x6, .int x7]) (S1 := rt v) (pc1 := 77) [(.iload 7, .null, 0, 0), (.iload 6, .null, 0, 0)] [] (by decide +kernel) rfl trivial ?_
  refine xr_ic_ge (tgt := 134) (off := 57) (by decide +kernel) (by decide) (fun hc => ?_) (fun hc => ?_)
  · replace h := h.1 hc
    refine xr_blk (lv1 := [(5, .int (x5 + (nI 1))), (4, .int x6), (0, .ref 21), (1, .ref 17), (6, .int x6), (7, .int x7)]) (st1 := []) (S1 := rt v) (pc1 := 141) [(.iload 6, .null, 0, 0), (.istore 4, .null, 0, 0), (.iinc 5 1, .int (nI 1), 0, 0)] [] (by decide +kernel) rfl trivial ?_
    refine xr_goto (tgt := 56) (off := -85) (by decide +kernel) (by decide) ?_
    exact x_R.sub [2, 3, 1, 0] rfl h
  · replace h := h.2 hc
    refine xr_blk (lv1 := [(8, .int (nI 0)), (0, .ref 21), (1, .ref 17), (5, .int x5), (6, .int x6), (7, .int x7)]) (st1 := []) (S1 := rt v) (pc1 := 83) [(.iconst 0, .int (nI 0), 0, 0), (.istore 8, .null, 0, 0)] [] (by decide +kernel) rfl trivial ?_
    exact x_R.sub [1, 2, 3, 4, 5, 0] rfl h
set_option maxRecDepth 100000 in
theorem w_X4_build_83 {E : Nat × (Nat → Int32)} {d : Nat} {v : xV} {x5 : Int32} {x6 : Int32} {x7 : Int32} {x8 : Int32} {Q : xV → Prop} (h : (((nI 5) ≤ x8 → RV E (d + 1) 33 73 [(0, .ref 21), (1, .ref 17), (5, .int x5), (6, .int x6), (7, .int (x7 + (nI 1)))] v Q) ∧ (¬ (nI 5) ≤ x8 → vp_in x7 512 ∧ KJ E d 37 [.ref 21, .ref 17, .long ((gB v 22) (x7).toNatClampNeg), .int x8] v (fun y3 v2 => KI E d 35 [.ref 21, .ref 17, .long y3, .int x6] v2 (fun y5 v4 => vp_in ((x7 * (nI 5)) + x8) 2560 ∧ RV E (d + 1) 33 83 [(0, .ref 21), (1, .ref 17), (5, .int x5), (6, .int x6), (7, .int x7), (8, .int (x8 + (nI 1)))] (v_A v4 23 (upd (gA v4 23) (((x7 * (nI 5)) + x8)).toNatClampNeg y5)) Q))))) : RV E (d + 1) 33 83 [(0, .ref 21), (1, .ref 17), (5, .int x5), (6, .int x6), (7, .int x7), (8, .int x8)] v Q := by
  unfold RV
  refine xr_blk (lv1 := [(0, .ref 21), (1, .ref 17), (5, .int x5), (6, .int x6), (7, .int x7), (8, .int x8)]) (st1 := [.int (nI 5), .int x8]) (S1 := rt v) (pc1 := 86) [(.iload 8, .null, 0, 0), (.iconst 5, .int (nI 5), 0, 0)] [] (by decide +kernel) rfl trivial ?_
  refine xr_ic_ge (tgt := 128) (off := 42) (by decide +kernel) (by decide) (fun hc => ?_) (fun hc => ?_)
  · replace h := h.1 hc
    refine xr_blk (lv1 := [(7, .int (x7 + (nI 1))), (0, .ref 21), (1, .ref 17), (5, .int x5), (6, .int x6), (8, .int x8)]) (st1 := []) (S1 := rt v) (pc1 := 131) [(.iinc 7 1, .int (nI 1), 0, 0)] [] (by decide +kernel) rfl trivial ?_
    refine xr_goto (tgt := 73) (off := -58) (by decide +kernel) (by decide) ?_
    exact x_R.sub [1, 2, 3, 4, 0] rfl h
  · replace h := h.2 hc
    obtain ⟨hb1, h⟩ := h
    refine xr_blk (lv1 := [(0, .ref 21), (1, .ref 17), (5, .int x5), (6, .int x6), (7, .int x7), (8, .int x8)]) (st1 := [.int x8, .long ((gB v 22) (x7).toNatClampNeg), .ref 17, .ref 21, .ref 17, .ref 21, .int ((x7 * (nI 5)) + x8), .ref 23]) (S1 := rt v) (pc1 := 113) [(.aload_n 0, .null, 0, 0), (.getfield 15, .null, 4, 1), (.iload 7, .null, 0, 0), (.iconst 5, .int (nI 5), 0, 0), (.imul, .null, 0, 0), (.iload 8, .null, 0, 0), (.iadd, .null, 0, 0), (.aload_n 0, .null, 0, 0), (.aload_n 1, .null, 0, 0), (.aload_n 0, .null, 0, 0), (.aload_n 1, .null, 0, 0), (.aload_n 0, .null, 0, 0), (.getfield 9, .null, 4, 0), (.iload 7, .null, 0, 0), (.laload, .null, 0, 0), (.iload 8, .null, 0, 0)] [(x7, 512)] (by decide +kernel) rfl ⟨hb1, trivial⟩ ?_
    refine xk_VJ (As := [.ref 17, .long ((gB v 22) (x7).toNatClampNeg), .int x8]) (bb := 21) (rest := [.ref 17, .ref 21, .int ((x7 * (nI 5)) + x8), .ref 23]) (idx := 47) (i0 := 47) (m1 := 37) (ps := [837, 839, 12]) (by decide +kernel) (by decide +kernel) (by decide) rfl ((gK_s (by decide)).trans (by decide +kernel)) (by decide) (Nat.le_of_ble_eq_true rfl) rfl h (fun y3 v2 h => ?_)
    refine xr_blk (lv1 := [(0, .ref 21), (1, .ref 17), (5, .int x5), (6, .int x6), (7, .int x7), (8, .int x8)]) (st1 := [.int x6, .long y3, .ref 17, .ref 21, .int ((x7 * (nI 5)) + x8), .ref 23]) (S1 := rt v2) (pc1 := 118) [(.iload 6, .null, 0, 0)] [] (by decide +kernel) rfl trivial ?_
    refine xk_VI (As := [.ref 17, .long y3, .int x6]) (bb := 21) (rest := [.int ((x7 * (nI 5)) + x8), .ref 23]) (idx := 51) (i0 := 51) (m1 := 35) (ps := [841, 843, 13]) (by decide +kernel) (by decide +kernel) (by decide) rfl ((gK_s (by decide)).trans (by decide +kernel)) (by decide) (Nat.le_of_ble_eq_true rfl) rfl h (fun y5 v4 h => ?_)
    obtain ⟨hb6, h⟩ := h
    refine xr_blk (lv1 := [(8, .int (x8 + (nI 1))), (0, .ref 21), (1, .ref 17), (5, .int x5), (6, .int x6), (7, .int x7)]) (st1 := []) (S1 := rt (v_A v4 23 (upd (gA v4 23) (((x7 * (nI 5)) + x8)).toNatClampNeg y5))) (pc1 := 125) [(.iastore, .null, 0, 0), (.iinc 8 1, .int (nI 1), 0, 0)] [(((x7 * (nI 5)) + x8), 2560)] (by decide +kernel) rfl ⟨hb6, trivial⟩ ?_
    refine xr_goto (tgt := 83) (off := -42) (by decide +kernel) (by decide) ?_
    exact x_R.sub [1, 2, 3, 4, 5, 0] rfl h
theorem ok_33 : x_mOK 33 := ⟨x_tm4 (List.mem_of_getElem? (i := 6) rfl) rfl, 107, by decide +kernel⟩
/-! X4_step: method 34, ScrawlHouse$Machine.step(II)I -/
set_option maxRecDepth 100000 in
theorem w_X4_step_0 {E : Nat × (Nat → Int32)} {d : Nat} {v : xV} {x1 : Int32} {x2 : Int32} {Q : Int32 → xV → Prop} (h : vp_in ((x1 * (nI 5)) + x2) 2560 ∧ Q ((gA v 23) (((x1 * (nI 5)) + x2)).toNatClampNeg) v) : RI E d 34 0 [(0, .ref 21), (1, .int x1), (2, .int x2)] v Q := by
  unfold RI
  obtain ⟨hb1, h⟩ := h
  refine xr_blk (lv1 := [(0, .ref 21), (1, .int x1), (2, .int x2)]) (st1 := [.int ((gA v 23) (((x1 * (nI 5)) + x2)).toNatClampNeg)]) (S1 := rt v) (pc1 := 10) [(.aload_n 0, .null, 0, 0), (.getfield 15, .null, 4, 1), (.iload_n 1, .null, 0, 0), (.iconst 5, .int (nI 5), 0, 0), (.imul, .null, 0, 0), (.iload_n 2, .null, 0, 0), (.iadd, .null, 0, 0), (.iaload, .null, 0, 0)] [(((x1 * (nI 5)) + x2), 2560)] (by decide +kernel) rfl ⟨hb1, trivial⟩ ?_
  exact xr_iret (by decide +kernel) rfl ⟨_, _, rfl, rfl, h⟩
theorem ok_34 : x_mOK 34 := ⟨x_tm4 (List.mem_of_getElem? (i := 161) rfl) rfl, 107, by decide +kernel⟩
/-! X4_stateOf: method 35, ScrawlHouse$Machine.stateOf(LScrawlHouse$PatternText;JI)I -/
set_option maxRecDepth 100000 in
theorem w_X4_stateOf_0 {E : Nat × (Nat → Int32)} {d : Nat} {v : xV} {x2 : Int64} {x4 : Int32} {Q : Int32 → xV → Prop} (h : ((¬ (lg_cmp x2 (0 : Int64)) = (nI 0) → RI E (d + 1) 35 12 [(0, .ref 21), (1, .ref 17), (2, .long x2), (5, .int x4)] v Q) ∧ ((lg_cmp x2 (0 : Int64)) = (nI 0) → Q (-1 : Int32) v))) : RI E (d + 1) 35 0 [(0, .ref 21), (1, .ref 17), (2, .long x2), (4, .int x4)] v Q := by
  unfold RI
  refine xr_blk (lv1 := [(0, .ref 21), (1, .ref 17), (2, .long x2), (4, .int x4)]) (st1 := [.int (lg_cmp x2 (0 : Int64))]) (S1 := rt v) (pc1 := 3) [(.lload_n 2, .null, 0, 0), (.lconst 0, .long 0, 0, 0), (.lcmp, .null, 0, 0)] [] (by decide +kernel) rfl trivial ?_
  refine xr_if_ne (tgt := 8) (off := 5) (by decide +kernel) (by decide) (fun hc => ?_) (fun hc => ?_)
  · replace h := h.1 hc
    refine xr_blk (lv1 := [(5, .int x4), (0, .ref 21), (1, .ref 17), (2, .long x2), (4, .int x4)]) (st1 := []) (S1 := rt v) (pc1 := 12) [(.iload 4, .null, 0, 0), (.istore 5, .null, 0, 0)] [] (by decide +kernel) rfl trivial ?_
    exact x_R.sub [1, 2, 3, 0] rfl h
  · replace h := h.2 hc
    refine xr_blk (lv1 := [(0, .ref 21), (1, .ref 17), (2, .long x2), (4, .int x4)]) (st1 := [.int (-1)]) (S1 := rt v) (pc1 := 7) [(.iconst (-1), .int (-1), 0, 0)] [] (by decide +kernel) rfl trivial ?_
    exact xr_iret (by decide +kernel) rfl ⟨_, _, rfl, rfl, h⟩
set_option maxRecDepth 100000 in
theorem w_X4_stateOf_12 {E : Nat × (Nat → Int32)} {d : Nat} {v : xV} {x2 : Int64} {x5 : Int32} {Q : Int32 → xV → Prop} (h : (((gI v 21 3) ≤ x5 → KI E d 36 [.ref 21, .ref 17, .long x2] v (fun y2 v1 => Q y2 v1)) ∧ (¬ (gI v 21 3) ≤ x5 → vp_in x5 512 ∧ ((¬ (lg_cmp ((gB v 22) (x5).toNatClampNeg) x2) = (nI 0) → RI E (d + 1) 35 12 [(0, .ref 21), (1, .ref 17), (2, .long x2), (5, .int (x5 + (nI 1)))] v Q) ∧ ((lg_cmp ((gB v 22) (x5).toNatClampNeg) x2) = (nI 0) → Q x5 v))))) : RI E (d + 1) 35 12 [(0, .ref 21), (1, .ref 17), (2, .long x2), (5, .int x5)] v Q := by
  unfold RI
  refine xr_blk (lv1 := [(0, .ref 21), (1, .ref 17), (2, .long x2), (5, .int x5)]) (st1 := [.int (gI v 21 3), .int x5]) (S1 := rt v) (pc1 := 18) [(.iload 5, .null, 0, 0), (.aload_n 0, .null, 0, 0), (.getfield 23, .null, 4, 3)] [] (by decide +kernel) rfl trivial ?_
  refine xr_ic_ge (tgt := 42) (off := 24) (by decide +kernel) (by decide) (fun hc => ?_) (fun hc => ?_)
  · replace h := h.1 hc
    refine xr_blk (lv1 := [(0, .ref 21), (1, .ref 17), (2, .long x2), (5, .int x5)]) (st1 := [.long x2, .ref 17, .ref 21]) (S1 := rt v) (pc1 := 45) [(.aload_n 0, .null, 0, 0), (.aload_n 1, .null, 0, 0), (.lload_n 2, .null, 0, 0)] [] (by decide +kernel) rfl trivial ?_
    refine xk_VI (As := [.ref 17, .long x2]) (bb := 21) (rest := []) (idx := 43) (i0 := 43) (m1 := 36) (ps := [833, 835, 11]) (by decide +kernel) (by decide +kernel) (by decide) rfl ((gK_s (by decide)).trans (by decide +kernel)) (by decide) (Nat.le_of_ble_eq_true rfl) rfl h (fun y2 v1 h => ?_)
    exact xr_iret (by decide +kernel) rfl ⟨_, _, rfl, rfl, h⟩
  · replace h := h.2 hc
    obtain ⟨hb3, h⟩ := h
    refine xr_blk (lv1 := [(0, .ref 21), (1, .ref 17), (2, .long x2), (5, .int x5)]) (st1 := [.int (lg_cmp ((gB v 22) (x5).toNatClampNeg) x2)]) (S1 := rt v) (pc1 := 30) [(.aload_n 0, .null, 0, 0), (.getfield 9, .null, 4, 0), (.iload 5, .null, 0, 0), (.laload, .null, 0, 0), (.lload_n 2, .null, 0, 0), (.lcmp, .null, 0, 0)] [(x5, 512)] (by decide +kernel) rfl ⟨hb3, trivial⟩ ?_
    refine xr_if_ne (tgt := 36) (off := 6) (by decide +kernel) (by decide) (fun hc => ?_) (fun hc => ?_)
    · replace h := h.1 hc
      refine xr_blk (lv1 := [(5, .int (x5 + (nI 1))), (0, .ref 21), (1, .ref 17), (2, .long x2)]) (st1 := []) (S1 := rt v) (pc1 := 39) [(.iinc 5 1, .int (nI 1), 0, 0)] [] (by decide +kernel) rfl trivial ?_
      refine xr_goto (tgt := 12) (off := -27) (by decide +kernel) (by decide) ?_
      exact x_R.sub [1, 2, 3, 0] rfl h
    · replace h := h.2 hc
      refine xr_blk (lv1 := [(0, .ref 21), (1, .ref 17), (2, .long x2), (5, .int x5)]) (st1 := [.int x5]) (S1 := rt v) (pc1 := 35) [(.iload 5, .null, 0, 0)] [] (by decide +kernel) rfl trivial ?_
      exact xr_iret (by decide +kernel) rfl ⟨_, _, rfl, rfl, h⟩
theorem ok_35 : x_mOK 35 := ⟨x_tm4 (List.mem_of_getElem? (i := 24) rfl) rfl, 107, by decide +kernel⟩
/-! X4_addState: method 36, ScrawlHouse$Machine.addState(LScrawlHouse$PatternText;J)I -/
set_option maxRecDepth 100000 in
theorem w_X4_addState_0 {E : Nat × (Nat → Int32)} {d : Nat} {v : xV} {x2 : Int64} {Q : Int32 → xV → Prop} (h : (((gI v 21 3) < (nI 512) → RI E (d + 1) 36 18 [(0, .ref 21), (1, .ref 17), (2, .long x2), (4, .int (nI 0)), (5, .int (nI 0))] v Q) ∧ (¬ (gI v 21 3) < (nI 512) → Q (-1 : Int32) v))) : RI E (d + 1) 36 0 [(0, .ref 21), (1, .ref 17), (2, .long x2)] v Q := by
  unfold RI
  refine xr_blk (lv1 := [(0, .ref 21), (1, .ref 17), (2, .long x2)]) (st1 := [.int (nI 512), .int (gI v 21 3)]) (S1 := rt v) (pc1 := 7) [(.aload_n 0, .null, 0, 0), (.getfield 23, .null, 4, 3), (.sipush 512, .int (nI 512), 0, 0)] [] (by decide +kernel) rfl trivial ?_
  refine xr_ic_lt (tgt := 12) (off := 5) (by decide +kernel) (by decide) (fun hc => ?_) (fun hc => ?_)
  · replace h := h.1 hc
    refine xr_blk (lv1 := [(5, .int (nI 0)), (4, .int (nI 0)), (0, .ref 21), (1, .ref 17), (2, .long x2)]) (st1 := []) (S1 := rt v) (pc1 := 18) [(.iconst 0, .int (nI 0), 0, 0), (.istore 4, .null, 0, 0), (.iconst 0, .int (nI 0), 0, 0), (.istore 5, .null, 0, 0)] [] (by decide +kernel) rfl trivial ?_
    exact x_R.sub [2, 3, 4, 1, 0] rfl h
  · replace h := h.2 hc
    refine xr_blk (lv1 := [(0, .ref 21), (1, .ref 17), (2, .long x2)]) (st1 := [.int (-1)]) (S1 := rt v) (pc1 := 11) [(.iconst (-1), .int (-1), 0, 0)] [] (by decide +kernel) rfl trivial ?_
    exact xr_iret (by decide +kernel) rfl ⟨_, _, rfl, rfl, h⟩
set_option maxRecDepth 100000 in
theorem w_X4_addState_18 {E : Nat × (Nat → Int32)} {d : Nat} {v : xV} {x2 : Int64} {x4 : Int32} {x5 : Int32} {Q : Int32 → xV → Prop} (h : (((gI v 21 4) ≤ x5 → vp_in (gI v 21 3) 512 ∧ vp_in (gI v 21 3) 512 ∧ vp_in x4 2 ∧ Q (((gI v 21 3) + (nI 1)) - (nI 1)) (v_I (v_A (v_B v 22 (vp_updL (gB v 22) ((gI v 21 3)).toNatClampNeg x2)) 24 (upd (gA v 24) ((gI v 21 3)).toNatClampNeg x4)) 21 3 ((gI v 21 3) + (nI 1)))) ∧ (¬ (gI v 21 4) ≤ x5 → ((¬ x4 = (nI 0) → RI E (d + 1) 36 18 [(0, .ref 21), (1, .ref 17), (2, .long x2), (4, .int (nI 1)), (5, .int (x5 + (nI 1)))] v Q) ∧ (x4 = (nI 0) → vp_in x5 8 ∧ KJ E d 39 [.int x5, .int ((gA v 20) (x5).toNatClampNeg)] v (fun y6 v5 => (((lg_cmp (x2 &&& y6) (0 : Int64)) = (nI 0) → RI E (d + 1) 36 18 [(0, .ref 21), (1, .ref 17), (2, .long x2), (4, .int (nI 0)), (5, .int (x5 + (nI 1)))] v5 Q) ∧ (¬ (lg_cmp (x2 &&& y6) (0 : Int64)) = (nI 0) → RI E (d + 1) 36 18 [(0, .ref 21), (1, .ref 17), (2, .long x2), (4, .int (nI 1)), (5, .int (x5 + (nI 1)))] v5 Q)))))))) : RI E (d + 1) 36 18 [(0, .ref 21), (1, .ref 17), (2, .long x2), (4, .int x4), (5, .int x5)] v Q := by
  unfold RI
  refine xr_blk (lv1 := [(0, .ref 21), (1, .ref 17), (2, .long x2), (4, .int x4), (5, .int x5)]) (st1 := [.int (gI v 21 4), .int x5]) (S1 := rt v) (pc1 := 24) [(.iload 5, .null, 0, 0), (.aload_n 0, .null, 0, 0), (.getfield 27, .null, 4, 4)] [] (by decide +kernel) rfl trivial ?_
  refine xr_ic_ge (tgt := 64) (off := 40) (by decide +kernel) (by decide) (fun hc => ?_) (fun hc => ?_)
  · replace h := h.1 hc
    obtain ⟨hb1, h⟩ := h
    obtain ⟨hb2, h⟩ := h
    obtain ⟨hb3, h⟩ := h
    refine xr_blk (lv1 := [(0, .ref 21), (1, .ref 17), (2, .long x2), (4, .int x4), (5, .int x5)]) (st1 := [.int (((gI v 21 3) + (nI 1)) - (nI 1))]) (S1 := rt (v_I (v_A (v_B v 22 (vp_updL (gB v 22) ((gI v 21 3)).toNatClampNeg x2)) 24 (upd (gA v 24) ((gI v 21 3)).toNatClampNeg x4)) 21 3 ((gI v 21 3) + (nI 1)))) (pc1 := 101) [(.aload_n 0, .null, 0, 0), (.getfield 9, .null, 4, 0), (.aload_n 0, .null, 0, 0), (.getfield 23, .null, 4, 3), (.lload_n 2, .null, 0, 0), (.lastore, .null, 0, 0), (.aload_n 0, .null, 0, 0), (.getfield 19, .null, 4, 2), (.aload_n 0, .null, 0, 0), (.getfield 23, .null, 4, 3), (.iload 4, .null, 0, 0), (.bastore, .null, 0, 0), (.aload_n 0, .null, 0, 0), (.dup, .null, 0, 0), (.getfield 23, .null, 4, 3), (.iconst 1, .int (nI 1), 0, 0), (.iadd, .null, 0, 0), (.putfield 23, .null, 4, 3), (.aload_n 0, .null, 0, 0), (.getfield 23, .null, 4, 3), (.iconst 1, .int (nI 1), 0, 0), (.isub, .null, 0, 0)] [((gI v 21 3), 512), ((gI v 21 3), 512), (x4, 2)] (by decide +kernel) rfl ⟨hb1, hb2, hb3, trivial⟩ ?_
    exact xr_iret (by decide +kernel) rfl ⟨_, _, rfl, rfl, h⟩
  · replace h := h.2 hc
    refine xr_blk (lv1 := [(0, .ref 21), (1, .ref 17), (2, .long x2), (4, .int x4), (5, .int x5)]) (st1 := [.int x4]) (S1 := rt v) (pc1 := 29) [(.iload 4, .null, 0, 0)] [] (by decide +kernel) rfl trivial ?_
    refine xr_if_ne (tgt := 51) (off := 22) (by decide +kernel) (by decide) (fun hc => ?_) (fun hc => ?_)
    · replace h := h.1 hc
      refine xr_blk (lv1 := [(0, .ref 21), (1, .ref 17), (2, .long x2), (4, .int x4), (5, .int x5)]) (st1 := [.int (nI 1)]) (S1 := rt v) (pc1 := 52) [(.iconst 1, .int (nI 1), 0, 0)] [] (by decide +kernel) rfl trivial ?_
      refine xr_goto (tgt := 56) (off := 4) (by decide +kernel) (by decide) ?_
      refine xr_blk (lv1 := [(5, .int (x5 + (nI 1))), (4, .int (nI 1)), (0, .ref 21), (1, .ref 17), (2, .long x2)]) (st1 := []) (S1 := rt v) (pc1 := 61) [(.istore 4, .null, 0, 0), (.iinc 5 1, .int (nI 1), 0, 0)] [] (by decide +kernel) rfl trivial ?_
      refine xr_goto (tgt := 18) (off := -43) (by decide +kernel) (by decide) ?_
      exact x_R.sub [2, 3, 4, 1, 0] rfl h
    · replace h := h.2 hc
      obtain ⟨hb4, h⟩ := h
      refine xr_blk (lv1 := [(0, .ref 21), (1, .ref 17), (2, .long x2), (4, .int x4), (5, .int x5)]) (st1 := [.int ((gA v 20) (x5).toNatClampNeg), .int x5, .long x2]) (S1 := rt v) (pc1 := 42) [(.lload_n 2, .null, 0, 0), (.iload 5, .null, 0, 0), (.aload_n 1, .null, 0, 0), (.getfield 55, .null, 5, 3), (.iload 5, .null, 0, 0), (.iaload, .null, 0, 0)] [(x5, 8)] (by decide +kernel) rfl ⟨hb4, trivial⟩ ?_
      refine xk_SJ (As := [.int x5, .int ((gA v 20) (x5).toNatClampNeg)]) (rest := [.long x2]) (idx := 58) (i0 := 58) (m1 := 39) (ps := [830, 831]) (by decide +kernel) (by decide +kernel) (by decide) rfl (Nat.le_of_ble_eq_true rfl) rfl h (fun y6 v5 h => ?_)
      refine xr_blk (lv1 := [(0, .ref 21), (1, .ref 17), (2, .long x2), (4, .int x4), (5, .int x5)]) (st1 := [.int (lg_cmp (x2 &&& y6) (0 : Int64))]) (S1 := rt v5) (pc1 := 48) [(.land, .null, 0, 0), (.lconst 0, .long 0, 0, 0), (.lcmp, .null, 0, 0)] [] (by decide +kernel) rfl trivial ?_
      refine xr_if_eq (tgt := 55) (off := 7) (by decide +kernel) (by decide) (fun hc => ?_) (fun hc => ?_)
      · replace h := h.1 hc
        refine xr_blk (lv1 := [(5, .int (x5 + (nI 1))), (4, .int (nI 0)), (0, .ref 21), (1, .ref 17), (2, .long x2)]) (st1 := []) (S1 := rt v5) (pc1 := 61) [(.iconst 0, .int (nI 0), 0, 0), (.istore 4, .null, 0, 0), (.iinc 5 1, .int (nI 1), 0, 0)] [] (by decide +kernel) rfl trivial ?_
        refine xr_goto (tgt := 18) (off := -43) (by decide +kernel) (by decide) ?_
        exact x_R.sub [2, 3, 4, 1, 0] rfl h
      · replace h := h.2 hc
        refine xr_blk (lv1 := [(0, .ref 21), (1, .ref 17), (2, .long x2), (4, .int x4), (5, .int x5)]) (st1 := [.int (nI 1)]) (S1 := rt v5) (pc1 := 52) [(.iconst 1, .int (nI 1), 0, 0)] [] (by decide +kernel) rfl trivial ?_
        refine xr_goto (tgt := 56) (off := 4) (by decide +kernel) (by decide) ?_
        refine xr_blk (lv1 := [(5, .int (x5 + (nI 1))), (4, .int (nI 1)), (0, .ref 21), (1, .ref 17), (2, .long x2)]) (st1 := []) (S1 := rt v5) (pc1 := 61) [(.istore 4, .null, 0, 0), (.iinc 5 1, .int (nI 1), 0, 0)] [] (by decide +kernel) rfl trivial ?_
        refine xr_goto (tgt := 18) (off := -43) (by decide +kernel) (by decide) ?_
        exact x_R.sub [2, 3, 4, 1, 0] rfl h
theorem ok_36 : x_mOK 36 := ⟨x_tm4 (List.mem_of_getElem? (i := 16) rfl) rfl, 107, by decide +kernel⟩
/-! X4_moved: method 37, ScrawlHouse$Machine.moved(LScrawlHouse$PatternText;JI)J -/
set_option maxRecDepth 100000 in
theorem w_X4_moved_0 {E : Nat × (Nat → Int32)} {d : Nat} {v : xV} {x2 : Int64} {x4 : Int32} {Q : Int64 → xV → Prop} (h : RJ E (d + 1) 37 6 [(0, .ref 21), (1, .ref 17), (2, .long x2), (4, .int x4), (5, .long (0 : Int64)), (7, .int (nI 0))] v Q) : RJ E (d + 1) 37 0 [(0, .ref 21), (1, .ref 17), (2, .long x2), (4, .int x4)] v Q := by
  unfold RJ
  refine xr_blk (lv1 := [(7, .int (nI 0)), (5, .long (0 : Int64)), (0, .ref 21), (1, .ref 17), (2, .long x2), (4, .int x4)]) (st1 := []) (S1 := rt v) (pc1 := 6) [(.lconst 0, .long 0, 0, 0), (.lstore 5, .null, 0, 0), (.iconst 0, .int (nI 0), 0, 0), (.istore 7, .null, 0, 0)] [] (by decide +kernel) rfl trivial ?_
  exact x_R.sub [2, 3, 4, 5, 1, 0] rfl h
set_option maxRecDepth 100000 in
theorem w_X4_moved_6 {E : Nat × (Nat → Int32)} {d : Nat} {v : xV} {x2 : Int64} {x4 : Int32} {x5 : Int64} {x7 : Int32} {Q : Int64 → xV → Prop} (h : (((gI v 21 4) ≤ x7 → Q x5 v) ∧ (¬ (gI v 21 4) ≤ x7 → RJ E (d + 1) 37 18 [(0, .ref 21), (1, .ref 17), (2, .long x2), (4, .int x4), (5, .long x5), (7, .int x7), (8, .int (nI 0))] v Q))) : RJ E (d + 1) 37 6 [(0, .ref 21), (1, .ref 17), (2, .long x2), (4, .int x4), (5, .long x5), (7, .int x7)] v Q := by
  unfold RJ
  refine xr_blk (lv1 := [(0, .ref 21), (1, .ref 17), (2, .long x2), (4, .int x4), (5, .long x5), (7, .int x7)]) (st1 := [.int (gI v 21 4), .int x7]) (S1 := rt v) (pc1 := 12) [(.iload 7, .null, 0, 0), (.aload_n 0, .null, 0, 0), (.getfield 27, .null, 4, 4)] [] (by decide +kernel) rfl trivial ?_
  refine xr_ic_ge (tgt := 89) (off := 77) (by decide +kernel) (by decide) (fun hc => ?_) (fun hc => ?_)
  · replace h := h.1 hc
    refine xr_blk (lv1 := [(0, .ref 21), (1, .ref 17), (2, .long x2), (4, .int x4), (5, .long x5), (7, .int x7)]) (st1 := [.long x5]) (S1 := rt v) (pc1 := 91) [(.lload 5, .null, 0, 0)] [] (by decide +kernel) rfl trivial ?_
    exact xr_lret (by decide +kernel) rfl ⟨_, _, rfl, rfl, h⟩
  · replace h := h.2 hc
    refine xr_blk (lv1 := [(8, .int (nI 0)), (0, .ref 21), (1, .ref 17), (2, .long x2), (4, .int x4), (5, .long x5), (7, .int x7)]) (st1 := []) (S1 := rt v) (pc1 := 18) [(.iconst 0, .int (nI 0), 0, 0), (.istore 8, .null, 0, 0)] [] (by decide +kernel) rfl trivial ?_
    exact x_R.sub [1, 2, 3, 4, 5, 6, 0] rfl h
set_option maxRecDepth 100000 in
theorem w_X4_moved_18 {E : Nat × (Nat → Int32)} {d : Nat} {v : xV} {x2 : Int64} {x4 : Int32} {x5 : Int64} {x7 : Int32} {x8 : Int32} {Q : Int64 → xV → Prop} (h : vp_in x7 8 ∧ ((((gA v 20) (x7).toNatClampNeg) ≤ x8 → RJ E (d + 1) 37 6 [(0, .ref 21), (1, .ref 17), (2, .long x2), (4, .int x4), (5, .long x5), (7, .int (x7 + (nI 1)))] v Q) ∧ (¬ ((gA v 20) (x7).toNatClampNeg) ≤ x8 → vp_in ((x7 * (nI 6)) + x8) 48 ∧ ((¬ ((gA v 18) (((x7 * (nI 6)) + x8)).toNatClampNeg) = x4 → RJ E (d + 1) 37 18 [(0, .ref 21), (1, .ref 17), (2, .long x2), (4, .int x4), (5, .long x5), (7, .int x7), (8, .int (x8 + (nI 1)))] v Q) ∧ (((gA v 18) (((x7 * (nI 6)) + x8)).toNatClampNeg) = x4 → KJ E d 39 [.int x7, .int x8] v (fun y4 v3 => (((lg_cmp (x2 &&& y4) (0 : Int64)) = (nI 0) → RJ E (d + 1) 37 18 [(0, .ref 21), (1, .ref 17), (2, .long x2), (4, .int x4), (5, .long x5), (7, .int x7), (8, .int (x8 + (nI 1)))] v3 Q) ∧ (¬ (lg_cmp (x2 &&& y4) (0 : Int64)) = (nI 0) → KJ E d 38 [.ref 17, .int x7, .int (x8 + (nI 1))] v3 (fun y6 v5 => ∀ y7 : Int64, y7 = (x5 ||| y6) → RJ E (d + 1) 37 18 [(0, .ref 21), (1, .ref 17), (2, .long x2), (4, .int x4), (5, .long y7), (7, .int x7), (8, .int (x8 + (nI 1)))] v5 Q))))))))) : RJ E (d + 1) 37 18 [(0, .ref 21), (1, .ref 17), (2, .long x2), (4, .int x4), (5, .long x5), (7, .int x7), (8, .int x8)] v Q := by
  unfold RJ
  obtain ⟨hb1, h⟩ := h
  refine xr_blk (lv1 := [(0, .ref 21), (1, .ref 17), (2, .long x2), (4, .int x4), (5, .long x5), (7, .int x7), (8, .int x8)]) (st1 := [.int ((gA v 20) (x7).toNatClampNeg), .int x8]) (S1 := rt v) (pc1 := 27) [(.iload 8, .null, 0, 0), (.aload_n 1, .null, 0, 0), (.getfield 55, .null, 5, 3), (.iload 7, .null, 0, 0), (.iaload, .null, 0, 0)] [(x7, 8)] (by decide +kernel) rfl ⟨hb1, trivial⟩ ?_
  refine xr_ic_ge (tgt := 83) (off := 56) (by decide +kernel) (by decide) (fun hc => ?_) (fun hc => ?_)
  · replace h := h.1 hc
    refine xr_blk (lv1 := [(7, .int (x7 + (nI 1))), (0, .ref 21), (1, .ref 17), (2, .long x2), (4, .int x4), (5, .long x5), (8, .int x8)]) (st1 := []) (S1 := rt v) (pc1 := 86) [(.iinc 7 1, .int (nI 1), 0, 0)] [] (by decide +kernel) rfl trivial ?_
    refine xr_goto (tgt := 6) (off := -80) (by decide +kernel) (by decide) ?_
    exact x_R.sub [1, 2, 3, 4, 5, 0] rfl h
  · replace h := h.2 hc
    obtain ⟨hb2, h⟩ := h
    refine xr_blk (lv1 := [(0, .ref 21), (1, .ref 17), (2, .long x2), (4, .int x4), (5, .long x5), (7, .int x7), (8, .int x8)]) (st1 := [.int x4, .int ((gA v 18) (((x7 * (nI 6)) + x8)).toNatClampNeg)]) (S1 := rt v) (pc1 := 45) [(.aload_n 1, .null, 0, 0), (.getfield 62, .null, 5, 1), (.iload 7, .null, 0, 0), (.bipush 6, .int (nI 6), 0, 0), (.imul, .null, 0, 0), (.iload 8, .null, 0, 0), (.iadd, .null, 0, 0), (.iaload, .null, 0, 0), (.iload 4, .null, 0, 0)] [(((x7 * (nI 6)) + x8), 48)] (by decide +kernel) rfl ⟨hb2, trivial⟩ ?_
    refine xr_ic_ne (tgt := 77) (off := 32) (by decide +kernel) (by decide) (fun hc => ?_) (fun hc => ?_)
    · replace h := h.1 hc
      refine xr_blk (lv1 := [(8, .int (x8 + (nI 1))), (0, .ref 21), (1, .ref 17), (2, .long x2), (4, .int x4), (5, .long x5), (7, .int x7)]) (st1 := []) (S1 := rt v) (pc1 := 80) [(.iinc 8 1, .int (nI 1), 0, 0)] [] (by decide +kernel) rfl trivial ?_
      refine xr_goto (tgt := 18) (off := -62) (by decide +kernel) (by decide) ?_
      exact x_R.sub [1, 2, 3, 4, 5, 6, 0] rfl h
    · replace h := h.2 hc
      refine xr_blk (lv1 := [(0, .ref 21), (1, .ref 17), (2, .long x2), (4, .int x4), (5, .long x5), (7, .int x7), (8, .int x8)]) (st1 := [.int x8, .int x7, .long x2]) (S1 := rt v) (pc1 := 53) [(.lload_n 2, .null, 0, 0), (.iload 7, .null, 0, 0), (.iload 8, .null, 0, 0)] [] (by decide +kernel) rfl trivial ?_
      refine xk_SJ (As := [.int x7, .int x8]) (rest := [.long x2]) (idx := 58) (i0 := 58) (m1 := 39) (ps := [830, 831]) (by decide +kernel) (by decide +kernel) (by decide) rfl (Nat.le_of_ble_eq_true rfl) rfl h (fun y4 v3 h => ?_)
      refine xr_blk (lv1 := [(0, .ref 21), (1, .ref 17), (2, .long x2), (4, .int x4), (5, .long x5), (7, .int x7), (8, .int x8)]) (st1 := [.int (lg_cmp (x2 &&& y4) (0 : Int64))]) (S1 := rt v3) (pc1 := 59) [(.land, .null, 0, 0), (.lconst 0, .long 0, 0, 0), (.lcmp, .null, 0, 0)] [] (by decide +kernel) rfl trivial ?_
      refine xr_if_eq (tgt := 77) (off := 18) (by decide +kernel) (by decide) (fun hc => ?_) (fun hc => ?_)
      · replace h := h.1 hc
        refine xr_blk (lv1 := [(8, .int (x8 + (nI 1))), (0, .ref 21), (1, .ref 17), (2, .long x2), (4, .int x4), (5, .long x5), (7, .int x7)]) (st1 := []) (S1 := rt v3) (pc1 := 80) [(.iinc 8 1, .int (nI 1), 0, 0)] [] (by decide +kernel) rfl trivial ?_
        refine xr_goto (tgt := 18) (off := -62) (by decide +kernel) (by decide) ?_
        exact x_R.sub [1, 2, 3, 4, 5, 6, 0] rfl h
      · replace h := h.2 hc
        refine xr_blk (lv1 := [(0, .ref 21), (1, .ref 17), (2, .long x2), (4, .int x4), (5, .long x5), (7, .int x7), (8, .int x8)]) (st1 := [.int (x8 + (nI 1)), .int x7, .ref 17, .long x5]) (S1 := rt v3) (pc1 := 71) [(.lload 5, .null, 0, 0), (.aload_n 1, .null, 0, 0), (.iload 7, .null, 0, 0), (.iload 8, .null, 0, 0), (.iconst 1, .int (nI 1), 0, 0), (.iadd, .null, 0, 0)] [] (by decide +kernel) rfl trivial ?_
        refine xk_SJ (As := [.ref 17, .int x7, .int (x8 + (nI 1))]) (rest := [.long x5]) (idx := 39) (i0 := 39) (m1 := 38) (ps := [827, 828]) (by decide +kernel) (by decide +kernel) (by decide) rfl (Nat.le_of_ble_eq_true rfl) rfl h (fun y6 v5 h => ?_)
        refine xr_blk (lv1 := [(0, .ref 21), (1, .ref 17), (2, .long x2), (4, .int x4), (5, .long x5), (7, .int x7), (8, .int x8)]) (st1 := [.long (x5 ||| y6)]) (S1 := rt v5) (pc1 := 75) [(.lor, .null, 0, 0)] [] (by decide +kernel) rfl trivial ?_
        refine xr_topl (fun y7 ey7 => ?_)
        replace h := h y7 ey7
        refine xr_blk (lv1 := [(8, .int (x8 + (nI 1))), (5, .long y7), (0, .ref 21), (1, .ref 17), (2, .long x2), (4, .int x4), (7, .int x7)]) (st1 := []) (S1 := rt v5) (pc1 := 80) [(.lstore 5, .null, 0, 0), (.iinc 8 1, .int (nI 1), 0, 0)] [] (by decide +kernel) rfl trivial ?_
        refine xr_goto (tgt := 18) (off := -62) (by decide +kernel) (by decide) ?_
        exact x_R.sub [2, 3, 4, 5, 1, 6, 0] rfl h
theorem ok_37 : x_mOK 37 := ⟨x_tm4 (List.mem_of_getElem? (i := 20) rfl) rfl, 107, by decide +kernel⟩
/-! X4_standsFrom: method 38, ScrawlHouse$Machine.standsFrom(LScrawlHouse$PatternText;II)J -/
set_option maxRecDepth 100000 in
theorem w_X4_standsFrom_0 {E : Nat × (Nat → Int32)} {d : Nat} {v : xV} {x1 : Int32} {x2 : Int32} {Q : Int64 → xV → Prop} (h : KJ E d 39 [.int x1, .int x2] v (fun y2 v1 => RJ E (d + 1) 38 9 [(0, .ref 17), (1, .int x1), (3, .long y2), (5, .int x2)] v1 Q)) : RJ E (d + 1) 38 0 [(0, .ref 17), (1, .int x1), (2, .int x2)] v Q := by
  unfold RJ
  refine xr_blk (lv1 := [(0, .ref 17), (1, .int x1), (2, .int x2)]) (st1 := [.int x2, .int x1]) (S1 := rt v) (pc1 := 2) [(.iload_n 1, .null, 0, 0), (.iload_n 2, .null, 0, 0)] [] (by decide +kernel) rfl trivial ?_
  refine xk_SJ (As := [.int x1, .int x2]) (rest := []) (idx := 58) (i0 := 58) (m1 := 39) (ps := [830, 831]) (by decide +kernel) (by decide +kernel) (by decide) rfl (Nat.le_of_ble_eq_true rfl) rfl h (fun y2 v1 h => ?_)
  refine xr_blk (lv1 := [(5, .int x2), (3, .long y2), (0, .ref 17), (1, .int x1), (2, .int x2)]) (st1 := []) (S1 := rt v1) (pc1 := 9) [(.lstore_n 3, .null, 0, 0), (.iload_n 2, .null, 0, 0), (.istore 5, .null, 0, 0)] [] (by decide +kernel) rfl trivial ?_
  exact x_R.sub [2, 3, 1, 0] rfl h
set_option maxRecDepth 100000 in
theorem w_X4_standsFrom_9 {E : Nat × (Nat → Int32)} {d : Nat} {v : xV} {x1 : Int32} {x3 : Int64} {x5 : Int32} {Q : Int64 → xV → Prop} (h : vp_in x1 8 ∧ ((((gA v 20) (x1).toNatClampNeg) ≤ x5 → Q x3 v) ∧ (¬ ((gA v 20) (x1).toNatClampNeg) ≤ x5 → vp_in ((x1 * (nI 6)) + x5) 48 ∧ ((((gA v 19) (((x1 * (nI 6)) + x5)).toNatClampNeg) = (nI 0) → Q x3 v) ∧ (¬ ((gA v 19) (((x1 * (nI 6)) + x5)).toNatClampNeg) = (nI 0) → KJ E d 39 [.int x1, .int (x5 + (nI 1))] v (fun y4 v3 => ∀ y5 : Int64, y5 = (x3 ||| y4) → RJ E (d + 1) 38 9 [(0, .ref 17), (1, .int x1), (3, .long y5), (5, .int (x5 + (nI 1)))] v3 Q)))))) : RJ E (d + 1) 38 9 [(0, .ref 17), (1, .int x1), (3, .long x3), (5, .int x5)] v Q := by
  unfold RJ
  obtain ⟨hb1, h⟩ := h
  refine xr_blk (lv1 := [(0, .ref 17), (1, .int x1), (3, .long x3), (5, .int x5)]) (st1 := [.int ((gA v 20) (x1).toNatClampNeg), .int x5]) (S1 := rt v) (pc1 := 17) [(.iload 5, .null, 0, 0), (.aload_n 0, .null, 0, 0), (.getfield 55, .null, 5, 3), (.iload_n 1, .null, 0, 0), (.iaload, .null, 0, 0)] [(x1, 8)] (by decide +kernel) rfl ⟨hb1, trivial⟩ ?_
  refine xr_ic_ge (tgt := 52) (off := 35) (by decide +kernel) (by decide) (fun hc => ?_) (fun hc => ?_)
  · replace h := h.1 hc
    refine xr_blk (lv1 := [(0, .ref 17), (1, .int x1), (3, .long x3), (5, .int x5)]) (st1 := [.long x3]) (S1 := rt v) (pc1 := 53) [(.lload_n 3, .null, 0, 0)] [] (by decide +kernel) rfl trivial ?_
    exact xr_lret (by decide +kernel) rfl ⟨_, _, rfl, rfl, h⟩
  · replace h := h.2 hc
    obtain ⟨hb2, h⟩ := h
    refine xr_blk (lv1 := [(0, .ref 17), (1, .int x1), (3, .long x3), (5, .int x5)]) (st1 := [.int ((gA v 19) (((x1 * (nI 6)) + x5)).toNatClampNeg)]) (S1 := rt v) (pc1 := 32) [(.aload_n 0, .null, 0, 0), (.getfield 65, .null, 5, 2), (.iload_n 1, .null, 0, 0), (.bipush 6, .int (nI 6), 0, 0), (.imul, .null, 0, 0), (.iload 5, .null, 0, 0), (.iadd, .null, 0, 0), (.baload, .null, 0, 0)] [(((x1 * (nI 6)) + x5), 48)] (by decide +kernel) rfl ⟨hb2, trivial⟩ ?_
    refine xr_if_eq (tgt := 52) (off := 20) (by decide +kernel) (by decide) (fun hc => ?_) (fun hc => ?_)
    · replace h := h.1 hc
      refine xr_blk (lv1 := [(0, .ref 17), (1, .int x1), (3, .long x3), (5, .int x5)]) (st1 := [.long x3]) (S1 := rt v) (pc1 := 53) [(.lload_n 3, .null, 0, 0)] [] (by decide +kernel) rfl trivial ?_
      exact xr_lret (by decide +kernel) rfl ⟨_, _, rfl, rfl, h⟩
    · replace h := h.2 hc
      refine xr_blk (lv1 := [(0, .ref 17), (1, .int x1), (3, .long x3), (5, .int x5)]) (st1 := [.int (x5 + (nI 1)), .int x1, .long x3]) (S1 := rt v) (pc1 := 41) [(.lload_n 3, .null, 0, 0), (.iload_n 1, .null, 0, 0), (.iload 5, .null, 0, 0), (.iconst 1, .int (nI 1), 0, 0), (.iadd, .null, 0, 0)] [] (by decide +kernel) rfl trivial ?_
      refine xk_SJ (As := [.int x1, .int (x5 + (nI 1))]) (rest := [.long x3]) (idx := 58) (i0 := 58) (m1 := 39) (ps := [830, 831]) (by decide +kernel) (by decide +kernel) (by decide) rfl (Nat.le_of_ble_eq_true rfl) rfl h (fun y4 v3 h => ?_)
      refine xr_blk (lv1 := [(0, .ref 17), (1, .int x1), (3, .long x3), (5, .int x5)]) (st1 := [.long (x3 ||| y4)]) (S1 := rt v3) (pc1 := 45) [(.lor, .null, 0, 0)] [] (by decide +kernel) rfl trivial ?_
      refine xr_topl (fun y5 ey5 => ?_)
      replace h := h y5 ey5
      refine xr_blk (lv1 := [(5, .int (x5 + (nI 1))), (3, .long y5), (0, .ref 17), (1, .int x1)]) (st1 := []) (S1 := rt v3) (pc1 := 49) [(.lstore_n 3, .null, 0, 0), (.iinc 5 1, .int (nI 1), 0, 0)] [] (by decide +kernel) rfl trivial ?_
      refine xr_goto (tgt := 9) (off := -40) (by decide +kernel) (by decide) ?_
      exact x_R.sub [2, 3, 1, 0] rfl h
theorem ok_38 : x_mOK 38 := ⟨x_tm4 (List.mem_of_getElem? (i := 9) rfl) rfl, 107, by decide +kernel⟩
/-! X4_standBit: method 39, ScrawlHouse$Machine.standBit(II)J -/
set_option maxRecDepth 100000 in
theorem w_X4_standBit_0 {E : Nat × (Nat → Int32)} {d : Nat} {v : xV} {x0 : Int32} {x1 : Int32} {Q : Int64 → xV → Prop} (h : Q ((1 : Int64) <<< ((((x0 * (nI 7)) + x1)).toInt64 &&& 63)) v) : RJ E d 39 0 [(0, .int x0), (1, .int x1)] v Q := by
  unfold RJ
  refine xr_blk (lv1 := [(0, .int x0), (1, .int x1)]) (st1 := [.long ((1 : Int64) <<< ((((x0 * (nI 7)) + x1)).toInt64 &&& 63))]) (S1 := rt v) (pc1 := 8) [(.lconst 1, .long 1, 0, 0), (.iload_n 0, .null, 0, 0), (.bipush 7, .int (nI 7), 0, 0), (.imul, .null, 0, 0), (.iload_n 1, .null, 0, 0), (.iadd, .null, 0, 0), (.lshl, .null, 0, 0)] [] (by decide +kernel) rfl trivial ?_
  exact xr_lret (by decide +kernel) rfl ⟨_, _, rfl, rfl, h⟩
theorem ok_39 : x_mOK 39 := ⟨x_tm4 (List.mem_of_getElem? (i := 12) rfl) rfl, 107, by decide +kernel⟩
/-! X5_parse: method 41, ScrawlHouse$PatternText.parse()Z -/
set_option maxRecDepth 100000 in
theorem w_X5_parse_0 {E : Nat × (Nat → Int32)} {d : Nat} {v : xV} {Q : Int32 → xV → Prop} (h : KV E d 42 [.ref 17] (v_I (v_I (v_I v 17 4 (nI 0)) 17 5 (nI 0)) 17 6 (nI 0)) (fun v1 => RI E (d + 1) 41 23 [(0, .ref 17), (1, .int (nI 0)), (2, .int (nI 0))] v1 Q)) : RI E (d + 1) 41 0 [(0, .ref 17)] v Q := by
  unfold RI
  refine xr_blk (lv1 := [(0, .ref 17)]) (st1 := [.ref 17]) (S1 := rt (v_I (v_I (v_I v 17 4 (nI 0)) 17 5 (nI 0)) 17 6 (nI 0))) (pc1 := 16) [(.aload_n 0, .null, 0, 0), (.iconst 0, .int (nI 0), 0, 0), (.putfield 22, .null, 5, 4), (.aload_n 0, .null, 0, 0), (.iconst 0, .int (nI 0), 0, 0), (.putfield 26, .null, 5, 5), (.aload_n 0, .null, 0, 0), (.iconst 0, .int (nI 0), 0, 0), (.putfield 29, .null, 5, 6), (.aload_n 0, .null, 0, 0)] [] (by decide +kernel) rfl trivial ?_
  refine xk_VV (As := []) (bb := 17) (rest := []) (idx := 43) (i0 := 43) (m1 := 42) (ps := [733, 735, 3]) (by decide +kernel) (by decide +kernel) (by decide) rfl ((gK_s (by decide)).trans (by decide +kernel)) (by decide) (Nat.le_of_ble_eq_true rfl) rfl h (fun v1 h => ?_)
  refine xr_blk (lv1 := [(2, .int (nI 0)), (1, .int (nI 0)), (0, .ref 17)]) (st1 := []) (S1 := rt v1) (pc1 := 23) [(.iconst 0, .int (nI 0), 0, 0), (.istore_n 1, .null, 0, 0), (.iconst 0, .int (nI 0), 0, 0), (.istore_n 2, .null, 0, 0)] [] (by decide +kernel) rfl trivial ?_
  exact x_R.sub [2, 1, 0] rfl h
set_option maxRecDepth 100000 in
theorem w_X5_parse_23 {E : Nat × (Nat → Int32)} {d : Nat} {v : xV} {x1 : Int32} {x2 : Int32} {Q : Int32 → xV → Prop} (h : (((nI 200) ≤ x2 → RI E (d + 1) 41 67 [(0, .ref 17)] v Q) ∧ (¬ (nI 200) ≤ x2 → ((¬ (gI v 17 5) = (nI 0) → RI E (d + 1) 41 67 [(0, .ref 17)] v Q) ∧ ((gI v 17 5) = (nI 0) → (((gI v 1 1) ≤ x1 → RI E (d + 1) 41 23 [(0, .ref 17), (1, .int x1), (2, .int (x2 + (nI 1)))] v Q) ∧ (¬ (gI v 1 1) ≤ x1 → (((nI 200) ≤ x1 → RI E (d + 1) 41 23 [(0, .ref 17), (1, .int x1), (2, .int (x2 + (nI 1)))] v Q) ∧ (¬ (nI 200) ≤ x1 → KI E d 44 [.ref 17, .int x1] v (fun y2 v1 => RI E (d + 1) 41 23 [(0, .ref 17), (1, .int y2), (2, .int (x2 + (nI 1)))] v1 Q)))))))))) : RI E (d + 1) 41 23 [(0, .ref 17), (1, .int x1), (2, .int x2)] v Q := by
  unfold RI
  refine xr_blk (lv1 := [(0, .ref 17), (1, .int x1), (2, .int x2)]) (st1 := [.int (nI 200), .int x2]) (S1 := rt v) (pc1 := 27) [(.iload_n 2, .null, 0, 0), (.sipush 200, .int (nI 200), 0, 0)] [] (by decide +kernel) rfl trivial ?_
  refine xr_ic_ge (tgt := 67) (off := 40) (by decide +kernel) (by decide) (fun hc => ?_) (fun hc => ?_)
  · replace h := h.1 hc
    exact x_R.sub [0] rfl h
  · replace h := h.2 hc
    refine xr_blk (lv1 := [(0, .ref 17), (1, .int x1), (2, .int x2)]) (st1 := [.int (gI v 17 5)]) (S1 := rt v) (pc1 := 34) [(.aload_n 0, .null, 0, 0), (.getfield 26, .null, 5, 5)] [] (by decide +kernel) rfl trivial ?_
    refine xr_if_ne (tgt := 67) (off := 33) (by decide +kernel) (by decide) (fun hc => ?_) (fun hc => ?_)
    · replace h := h.1 hc
      exact x_R.sub [0] rfl h
    · replace h := h.2 hc
      refine xr_blk (lv1 := [(0, .ref 17), (1, .int x1), (2, .int x2)]) (st1 := [.int (gI v 1 1), .int x1]) (S1 := rt v) (pc1 := 45) [(.iload_n 1, .null, 0, 0), (.aload_n 0, .null, 0, 0), (.getfield 39, .null, 5, 0), (.getfield 46, .null, 8, 1)] [] (by decide +kernel) rfl trivial ?_
      refine xr_ic_ge (tgt := 61) (off := 16) (by decide +kernel) (by decide) (fun hc => ?_) (fun hc => ?_)
      · replace h := h.1 hc
        refine xr_blk (lv1 := [(2, .int (x2 + (nI 1))), (0, .ref 17), (1, .int x1)]) (st1 := []) (S1 := rt v) (pc1 := 64) [(.iinc 2 1, .int (nI 1), 0, 0)] [] (by decide +kernel) rfl trivial ?_
        refine xr_goto (tgt := 23) (off := -41) (by decide +kernel) (by decide) ?_
        exact x_R.sub [1, 2, 0] rfl h
      · replace h := h.2 hc
        refine xr_blk (lv1 := [(0, .ref 17), (1, .int x1), (2, .int x2)]) (st1 := [.int (nI 200), .int x1]) (S1 := rt v) (pc1 := 52) [(.iload_n 1, .null, 0, 0), (.sipush 200, .int (nI 200), 0, 0)] [] (by decide +kernel) rfl trivial ?_
        refine xr_ic_ge (tgt := 61) (off := 9) (by decide +kernel) (by decide) (fun hc => ?_) (fun hc => ?_)
        · replace h := h.1 hc
          refine xr_blk (lv1 := [(2, .int (x2 + (nI 1))), (0, .ref 17), (1, .int x1)]) (st1 := []) (S1 := rt v) (pc1 := 64) [(.iinc 2 1, .int (nI 1), 0, 0)] [] (by decide +kernel) rfl trivial ?_
          refine xr_goto (tgt := 23) (off := -41) (by decide +kernel) (by decide) ?_
          exact x_R.sub [1, 2, 0] rfl h
        · replace h := h.2 hc
          refine xr_blk (lv1 := [(0, .ref 17), (1, .int x1), (2, .int x2)]) (st1 := [.int x1, .ref 17]) (S1 := rt v) (pc1 := 57) [(.aload_n 0, .null, 0, 0), (.iload_n 1, .null, 0, 0)] [] (by decide +kernel) rfl trivial ?_
          refine xk_VI (As := [.int x1]) (bb := 17) (rest := []) (idx := 51) (i0 := 51) (m1 := 44) (ps := [737, 739, 4]) (by decide +kernel) (by decide +kernel) (by decide) rfl ((gK_s (by decide)).trans (by decide +kernel)) (by decide) (Nat.le_of_ble_eq_true rfl) rfl h (fun y2 v1 h => ?_)
          refine xr_blk (lv1 := [(2, .int (x2 + (nI 1))), (1, .int y2), (0, .ref 17)]) (st1 := []) (S1 := rt v1) (pc1 := 64) [(.istore_n 1, .null, 0, 0), (.iinc 2 1, .int (nI 1), 0, 0)] [] (by decide +kernel) rfl trivial ?_
          refine xr_goto (tgt := 23) (off := -41) (by decide +kernel) (by decide) ?_
          exact x_R.sub [2, 1, 0] rfl h
set_option maxRecDepth 100000 in
theorem w_X5_parse_67 {E : Nat × (Nat → Int32)} {d : Nat} {v : xV} {Q : Int32 → xV → Prop} (h : ((¬ (gI v 17 5) = (nI 0) → RI E (d + 1) 41 98 [(0, .ref 17)] v Q) ∧ ((gI v 17 5) = (nI 0) → (((gI v 1 1) ≤ (nI 200) → RI E (d + 1) 41 98 [(0, .ref 17)] v Q) ∧ (¬ (gI v 1 1) ≤ (nI 200) → KV E d 43 [.ref 17, .int (nI 1), .int (nI 200)] v (fun v1 => RI E (d + 1) 41 124 [(0, .ref 17)] v1 Q)))))) : RI E (d + 1) 41 67 [(0, .ref 17)] v Q := by
  unfold RI
  refine xr_blk (lv1 := [(0, .ref 17)]) (st1 := [.int (gI v 17 5)]) (S1 := rt v) (pc1 := 71) [(.aload_n 0, .null, 0, 0), (.getfield 26, .null, 5, 5)] [] (by decide +kernel) rfl trivial ?_
  refine xr_if_ne (tgt := 98) (off := 27) (by decide +kernel) (by decide) (fun hc => ?_) (fun hc => ?_)
  · replace h := h.1 hc
    exact x_R.sub [0] rfl h
  · replace h := h.2 hc
    refine xr_blk (lv1 := [(0, .ref 17)]) (st1 := [.int (nI 200), .int (gI v 1 1)]) (S1 := rt v) (pc1 := 84) [(.aload_n 0, .null, 0, 0), (.getfield 39, .null, 5, 0), (.getfield 46, .null, 8, 1), (.sipush 200, .int (nI 200), 0, 0)] [] (by decide +kernel) rfl trivial ?_
    refine xr_ic_le (tgt := 98) (off := 14) (by decide +kernel) (by decide) (fun hc => ?_) (fun hc => ?_)
    · replace h := h.1 hc
      exact x_R.sub [0] rfl h
    · replace h := h.2 hc
      refine xr_blk (lv1 := [(0, .ref 17)]) (st1 := [.int (nI 200), .int (nI 1), .ref 17]) (S1 := rt v) (pc1 := 92) [(.aload_n 0, .null, 0, 0), (.iconst 1, .int (nI 1), 0, 0), (.sipush 200, .int (nI 200), 0, 0)] [] (by decide +kernel) rfl trivial ?_
      refine xk_VV (As := [.int (nI 1), .int (nI 200)]) (bb := 17) (rest := []) (idx := 55) (i0 := 55) (m1 := 43) (ps := [811, 813, 8]) (by decide +kernel) (by decide +kernel) (by decide) rfl ((gK_s (by decide)).trans (by decide +kernel)) (by decide) (Nat.le_of_ble_eq_true rfl) rfl h (fun v1 h => ?_)
      refine xr_goto (tgt := 124) (off := 29) (by decide +kernel) (by decide) ?_
      exact x_R.sub [0] rfl h
set_option maxRecDepth 100000 in
theorem w_X5_parse_98 {E : Nat × (Nat → Int32)} {d : Nat} {v : xV} {Q : Int32 → xV → Prop} (h : ((¬ (gI v 17 5) = (nI 0) → RI E (d + 1) 41 124 [(0, .ref 17)] v Q) ∧ ((gI v 17 5) = (nI 0) → (((gI v 17 7) ≤ (nI 0) → RI E (d + 1) 41 124 [(0, .ref 17)] v Q) ∧ (¬ (gI v 17 7) ≤ (nI 0) → KV E d 43 [.ref 17, .int (nI 1), .int (gI v 1 1)] v (fun v1 => RI E (d + 1) 41 124 [(0, .ref 17)] v1 Q)))))) : RI E (d + 1) 41 98 [(0, .ref 17)] v Q := by
  unfold RI
  refine xr_blk (lv1 := [(0, .ref 17)]) (st1 := [.int (gI v 17 5)]) (S1 := rt v) (pc1 := 102) [(.aload_n 0, .null, 0, 0), (.getfield 26, .null, 5, 5)] [] (by decide +kernel) rfl trivial ?_
  refine xr_if_ne (tgt := 124) (off := 22) (by decide +kernel) (by decide) (fun hc => ?_) (fun hc => ?_)
  · replace h := h.1 hc
    exact x_R.sub [0] rfl h
  · replace h := h.2 hc
    refine xr_blk (lv1 := [(0, .ref 17)]) (st1 := [.int (gI v 17 7)]) (S1 := rt v) (pc1 := 109) [(.aload_n 0, .null, 0, 0), (.getfield 32, .null, 5, 7)] [] (by decide +kernel) rfl trivial ?_
    refine xr_if_le (tgt := 124) (off := 15) (by decide +kernel) (by decide) (fun hc => ?_) (fun hc => ?_)
    · replace h := h.1 hc
      exact x_R.sub [0] rfl h
    · replace h := h.2 hc
      refine xr_blk (lv1 := [(0, .ref 17)]) (st1 := [.int (gI v 1 1), .int (nI 1), .ref 17]) (S1 := rt v) (pc1 := 121) [(.aload_n 0, .null, 0, 0), (.iconst 1, .int (nI 1), 0, 0), (.aload_n 0, .null, 0, 0), (.getfield 39, .null, 5, 0), (.getfield 46, .null, 8, 1)] [] (by decide +kernel) rfl trivial ?_
      refine xk_VV (As := [.int (nI 1), .int (gI v 1 1)]) (bb := 17) (rest := []) (idx := 55) (i0 := 55) (m1 := 43) (ps := [811, 813, 8]) (by decide +kernel) (by decide +kernel) (by decide) rfl ((gK_s (by decide)).trans (by decide +kernel)) (by decide) (Nat.le_of_ble_eq_true rfl) rfl h (fun v1 h => ?_)
      exact x_R.sub [0] rfl h
set_option maxRecDepth 100000 in
theorem w_X5_parse_124 {E : Nat × (Nat → Int32)} {d : Nat} {v : xV} {Q : Int32 → xV → Prop} (h : ((¬ (gI v 17 5) = (nI 0) → Q (nI 0) v) ∧ ((gI v 17 5) = (nI 0) → Q (nI 1) v))) : RI E (d + 1) 41 124 [(0, .ref 17)] v Q := by
  unfold RI
  refine xr_blk (lv1 := [(0, .ref 17)]) (st1 := [.int (gI v 17 5)]) (S1 := rt v) (pc1 := 128) [(.aload_n 0, .null, 0, 0), (.getfield 26, .null, 5, 5)] [] (by decide +kernel) rfl trivial ?_
  refine xr_if_ne (tgt := 135) (off := 7) (by decide +kernel) (by decide) (fun hc => ?_) (fun hc => ?_)
  · replace h := h.1 hc
    refine xr_blk (lv1 := [(0, .ref 17)]) (st1 := [.int (nI 0)]) (S1 := rt v) (pc1 := 136) [(.iconst 0, .int (nI 0), 0, 0)] [] (by decide +kernel) rfl trivial ?_
    exact xr_zret (by decide +kernel) rfl x_in2_0 ⟨_, _, rfl, rfl, h⟩
  · replace h := h.2 hc
    refine xr_blk (lv1 := [(0, .ref 17)]) (st1 := [.int (nI 1)]) (S1 := rt v) (pc1 := 132) [(.iconst 1, .int (nI 1), 0, 0)] [] (by decide +kernel) rfl trivial ?_
    refine xr_goto (tgt := 136) (off := 4) (by decide +kernel) (by decide) ?_
    exact xr_zret (by decide +kernel) rfl x_in2_1 ⟨_, _, rfl, rfl, h⟩
theorem ok_41 : x_mOK 41 := ⟨x_tm3 (List.mem_of_getElem? (i := 152) rfl) rfl, 106, by decide +kernel⟩
/-! X5_startPattern: method 42, ScrawlHouse$PatternText.startPattern()V -/
set_option maxRecDepth 100000 in
theorem w_X5_startPattern_0 {E : Nat × (Nat → Int32)} {d : Nat} {v : xV} {Q : xV → Prop} (h : Q (v_I (v_I v 17 7 (nI 0)) 17 8 (nI 0))) : RV E d 42 0 [(0, .ref 17)] v Q := by
  unfold RV
  refine xr_blk (lv1 := [(0, .ref 17)]) (st1 := []) (S1 := rt (v_I (v_I v 17 7 (nI 0)) 17 8 (nI 0))) (pc1 := 10) [(.aload_n 0, .null, 0, 0), (.iconst 0, .int (nI 0), 0, 0), (.putfield 32, .null, 5, 7), (.aload_n 0, .null, 0, 0), (.iconst 0, .int (nI 0), 0, 0), (.putfield 35, .null, 5, 8)] [((nI 0), 2)] (by decide +kernel) rfl ⟨x_inl (by decide), trivial⟩ ?_
  exact xr_ret0 (by decide +kernel) rfl ⟨_, rfl, rfl, h⟩
theorem ok_42 : x_mOK 42 := ⟨x_tm3 (List.mem_of_getElem? (i := 156) rfl) rfl, 106, by decide +kernel⟩
/-! X5_refuse: method 43, ScrawlHouse$PatternText.refuse(II)V -/
set_option maxRecDepth 100000 in
theorem w_X5_refuse_0 {E : Nat × (Nat → Int32)} {d : Nat} {v : xV} {x1 : Int32} {x2 : Int32} {Q : xV → Prop} (h : Q (v_I (v_I v 17 5 x1) 17 6 x2)) : RV E d 43 0 [(0, .ref 17), (1, .int x1), (2, .int x2)] v Q := by
  unfold RV
  refine xr_blk (lv1 := [(0, .ref 17), (1, .int x1), (2, .int x2)]) (st1 := []) (S1 := rt (v_I (v_I v 17 5 x1) 17 6 x2)) (pc1 := 10) [(.aload_n 0, .null, 0, 0), (.iload_n 1, .null, 0, 0), (.putfield 26, .null, 5, 5), (.aload_n 0, .null, 0, 0), (.iload_n 2, .null, 0, 0), (.putfield 29, .null, 5, 6)] [] (by decide +kernel) rfl trivial ?_
  exact xr_ret0 (by decide +kernel) rfl ⟨_, rfl, rfl, h⟩
theorem ok_43 : x_mOK 43 := ⟨x_tm3 (List.mem_of_getElem? (i := 234) rfl) rfl, 106, by decide +kernel⟩
/-! X5_takeToken: method 44, ScrawlHouse$PatternText.takeToken(I)I -/
set_option maxRecDepth 100000 in
theorem w_X5_takeToken_0 {E : Nat × (Nat → Int32)} {d : Nat} {v : xV} {x1 : Int32} {Q : Int32 → xV → Prop} (h : KI E d 78 [.ref 1, .int x1] v (fun y2 v1 => KI E d 144 [.int y2] v1 (fun y4 v3 => ((y4 = (nI 0) → ((¬ y2 = (nI 63) → ((¬ y2 = (nI 59) → ((y2 = (nI 32) → Q (x1 + (nI 1)) v3) ∧ (¬ y2 = (nI 32) → ((y2 = (nI 10) → Q (x1 + (nI 1)) v3) ∧ (¬ y2 = (nI 10) → KV E d 43 [.ref 17, .int (nI 1), .int x1] v3 (fun v5 => Q (x1 + (nI 1)) v5)))))) ∧ (y2 = (nI 59) → KV E d 47 [.ref 17, .int x1] v3 (fun v6 => Q (x1 + (nI 1)) v6)))) ∧ (y2 = (nI 63) → KV E d 46 [.ref 17, .int x1] v3 (fun v7 => Q (x1 + (nI 1)) v7)))) ∧ (¬ y4 = (nI 0) → KI E d 45 [.ref 17, .int x1] v3 (fun y9 v8 => Q y9 v8)))))) : RI E (d + 1) 44 0 [(0, .ref 17), (1, .int x1)] v Q := by
  unfold RI
  refine xr_blk (lv1 := [(0, .ref 17), (1, .int x1)]) (st1 := [.int x1, .ref 1]) (S1 := rt v) (pc1 := 5) [(.aload_n 0, .null, 0, 0), (.getfield 39, .null, 5, 0), (.iload_n 1, .null, 0, 0)] [] (by decide +kernel) rfl trivial ?_
  refine xk_VI (As := [.int x1]) (bb := 1) (rest := []) (idx := 59) (i0 := 59) (m1 := 78) (ps := [741, 677, 678]) (by decide +kernel) (by decide +kernel) (by decide) rfl ((gK_s (by decide)).trans (by decide +kernel)) (by decide) (Nat.le_of_ble_eq_true rfl) rfl h (fun y2 v1 h => ?_)
  refine xr_blk (lv1 := [(2, .int y2), (0, .ref 17), (1, .int x1)]) (st1 := [.int y2]) (S1 := rt v1) (pc1 := 10) [(.istore_n 2, .null, 0, 0), (.iload_n 2, .null, 0, 0)] [] (by decide +kernel) rfl trivial ?_
  refine xk_NI (As := [.int y2]) (rest := []) (idx := 62) (i0 := 62) (m1 := 144) (ps := [681]) (by decide +kernel) (by decide +kernel) (by decide) rfl (Nat.le_of_ble_eq_true rfl) rfl h (fun y4 v3 h => ?_)
  refine xr_if_eq (tgt := 22) (off := 9) (by decide +kernel) (by decide) (fun hc => ?_) (fun hc => ?_)
  · replace h := h.1 hc
    refine xr_blk (lv1 := [(2, .int y2), (0, .ref 17), (1, .int x1)]) (st1 := [.int (nI 63), .int y2]) (S1 := rt v3) (pc1 := 25) [(.iload_n 2, .null, 0, 0), (.bipush 63, .int (nI 63), 0, 0)] [] (by decide +kernel) rfl trivial ?_
    refine xr_ic_ne (tgt := 36) (off := 11) (by decide +kernel) (by decide) (fun hc => ?_) (fun hc => ?_)
    · replace h := h.1 hc
      refine xr_blk (lv1 := [(2, .int y2), (0, .ref 17), (1, .int x1)]) (st1 := [.int (nI 59), .int y2]) (S1 := rt v3) (pc1 := 39) [(.iload_n 2, .null, 0, 0), (.bipush 59, .int (nI 59), 0, 0)] [] (by decide +kernel) rfl trivial ?_
      refine xr_ic_ne (tgt := 50) (off := 11) (by decide +kernel) (by decide) (fun hc => ?_) (fun hc => ?_)
      · replace h := h.1 hc
        refine xr_blk (lv1 := [(2, .int y2), (0, .ref 17), (1, .int x1)]) (st1 := [.int (nI 32), .int y2]) (S1 := rt v3) (pc1 := 53) [(.iload_n 2, .null, 0, 0), (.bipush 32, .int (nI 32), 0, 0)] [] (by decide +kernel) rfl trivial ?_
        refine xr_ic_eq (tgt := 68) (off := 15) (by decide +kernel) (by decide) (fun hc => ?_) (fun hc => ?_)
        · replace h := h.1 hc
          refine xr_blk (lv1 := [(2, .int y2), (0, .ref 17), (1, .int x1)]) (st1 := [.int (x1 + (nI 1))]) (S1 := rt v3) (pc1 := 71) [(.iload_n 1, .null, 0, 0), (.iconst 1, .int (nI 1), 0, 0), (.iadd, .null, 0, 0)] [] (by decide +kernel) rfl trivial ?_
          exact xr_iret (by decide +kernel) rfl ⟨_, _, rfl, rfl, h⟩
        · replace h := h.2 hc
          refine xr_blk (lv1 := [(2, .int y2), (0, .ref 17), (1, .int x1)]) (st1 := [.int (nI 10), .int y2]) (S1 := rt v3) (pc1 := 59) [(.iload_n 2, .null, 0, 0), (.bipush 10, .int (nI 10), 0, 0)] [] (by decide +kernel) rfl trivial ?_
          refine xr_ic_eq (tgt := 68) (off := 9) (by decide +kernel) (by decide) (fun hc => ?_) (fun hc => ?_)
          · replace h := h.1 hc
            refine xr_blk (lv1 := [(2, .int y2), (0, .ref 17), (1, .int x1)]) (st1 := [.int (x1 + (nI 1))]) (S1 := rt v3) (pc1 := 71) [(.iload_n 1, .null, 0, 0), (.iconst 1, .int (nI 1), 0, 0), (.iadd, .null, 0, 0)] [] (by decide +kernel) rfl trivial ?_
            exact xr_iret (by decide +kernel) rfl ⟨_, _, rfl, rfl, h⟩
          · replace h := h.2 hc
            refine xr_blk (lv1 := [(2, .int y2), (0, .ref 17), (1, .int x1)]) (st1 := [.int x1, .int (nI 1), .ref 17]) (S1 := rt v3) (pc1 := 65) [(.aload_n 0, .null, 0, 0), (.iconst 1, .int (nI 1), 0, 0), (.iload_n 1, .null, 0, 0)] [] (by decide +kernel) rfl trivial ?_
            refine xk_VV (As := [.int (nI 1), .int x1]) (bb := 17) (rest := []) (idx := 55) (i0 := 55) (m1 := 43) (ps := [811, 813, 8]) (by decide +kernel) (by decide +kernel) (by decide) rfl ((gK_s (by decide)).trans (by decide +kernel)) (by decide) (Nat.le_of_ble_eq_true rfl) rfl h (fun v5 h => ?_)
            refine xr_blk (lv1 := [(2, .int y2), (0, .ref 17), (1, .int x1)]) (st1 := [.int (x1 + (nI 1))]) (S1 := rt v5) (pc1 := 71) [(.iload_n 1, .null, 0, 0), (.iconst 1, .int (nI 1), 0, 0), (.iadd, .null, 0, 0)] [] (by decide +kernel) rfl trivial ?_
            exact xr_iret (by decide +kernel) rfl ⟨_, _, rfl, rfl, h⟩
      · replace h := h.2 hc
        refine xr_blk (lv1 := [(2, .int y2), (0, .ref 17), (1, .int x1)]) (st1 := [.int x1, .ref 17]) (S1 := rt v3) (pc1 := 44) [(.aload_n 0, .null, 0, 0), (.iload_n 1, .null, 0, 0)] [] (by decide +kernel) rfl trivial ?_
        refine xk_VV (As := [.int x1]) (bb := 17) (rest := []) (idx := 73) (i0 := 73) (m1 := 47) (ps := [819, 821, 10]) (by decide +kernel) (by decide +kernel) (by decide) rfl ((gK_s (by decide)).trans (by decide +kernel)) (by decide) (Nat.le_of_ble_eq_true rfl) rfl h (fun v6 h => ?_)
        refine xr_goto (tgt := 68) (off := 21) (by decide +kernel) (by decide) ?_
        refine xr_blk (lv1 := [(2, .int y2), (0, .ref 17), (1, .int x1)]) (st1 := [.int (x1 + (nI 1))]) (S1 := rt v6) (pc1 := 71) [(.iload_n 1, .null, 0, 0), (.iconst 1, .int (nI 1), 0, 0), (.iadd, .null, 0, 0)] [] (by decide +kernel) rfl trivial ?_
        exact xr_iret (by decide +kernel) rfl ⟨_, _, rfl, rfl, h⟩
    · replace h := h.2 hc
      refine xr_blk (lv1 := [(2, .int y2), (0, .ref 17), (1, .int x1)]) (st1 := [.int x1, .ref 17]) (S1 := rt v3) (pc1 := 30) [(.aload_n 0, .null, 0, 0), (.iload_n 1, .null, 0, 0)] [] (by decide +kernel) rfl trivial ?_
      refine xk_VV (As := [.int x1]) (bb := 17) (rest := []) (idx := 69) (i0 := 69) (m1 := 46) (ps := [815, 817, 9]) (by decide +kernel) (by decide +kernel) (by decide) rfl ((gK_s (by decide)).trans (by decide +kernel)) (by decide) (Nat.le_of_ble_eq_true rfl) rfl h (fun v7 h => ?_)
      refine xr_goto (tgt := 68) (off := 35) (by decide +kernel) (by decide) ?_
      refine xr_blk (lv1 := [(2, .int y2), (0, .ref 17), (1, .int x1)]) (st1 := [.int (x1 + (nI 1))]) (S1 := rt v7) (pc1 := 71) [(.iload_n 1, .null, 0, 0), (.iconst 1, .int (nI 1), 0, 0), (.iadd, .null, 0, 0)] [] (by decide +kernel) rfl trivial ?_
      exact xr_iret (by decide +kernel) rfl ⟨_, _, rfl, rfl, h⟩
  · replace h := h.2 hc
    refine xr_blk (lv1 := [(2, .int y2), (0, .ref 17), (1, .int x1)]) (st1 := [.int x1, .ref 17]) (S1 := rt v3) (pc1 := 18) [(.aload_n 0, .null, 0, 0), (.iload_n 1, .null, 0, 0)] [] (by decide +kernel) rfl trivial ?_
    refine xk_VI (As := [.int x1]) (bb := 17) (rest := []) (idx := 66) (i0 := 66) (m1 := 45) (ps := [743, 745, 5]) (by decide +kernel) (by decide +kernel) (by decide) rfl ((gK_s (by decide)).trans (by decide +kernel)) (by decide) (Nat.le_of_ble_eq_true rfl) rfl h (fun y9 v8 h => ?_)
    exact xr_iret (by decide +kernel) rfl ⟨_, _, rfl, rfl, h⟩
theorem ok_44 : x_mOK 44 := ⟨x_tm3 (List.mem_of_getElem? (i := 160) rfl) rfl, 106, by decide +kernel⟩
/-! X5_takeItem: method 45, ScrawlHouse$PatternText.takeItem(I)I -/
set_option maxRecDepth 100000 in
theorem w_X5_takeItem_0 {E : Nat × (Nat → Int32)} {d : Nat} {v : xV} {x1 : Int32} {Q : Int32 → xV → Prop} (h : RI E (d + 1) 45 4 [(0, .ref 17), (1, .int x1), (2, .int x1), (3, .int x1)] v Q) : RI E (d + 1) 45 0 [(0, .ref 17), (1, .int x1)] v Q := by
  unfold RI
  refine xr_blk (lv1 := [(3, .int x1), (2, .int x1), (0, .ref 17), (1, .int x1)]) (st1 := []) (S1 := rt v) (pc1 := 4) [(.iload_n 1, .null, 0, 0), (.istore_n 2, .null, 0, 0), (.iload_n 1, .null, 0, 0), (.istore_n 3, .null, 0, 0)] [] (by decide +kernel) rfl trivial ?_
  exact x_R.sub [2, 3, 1, 0] rfl h
set_option maxRecDepth 100000 in
theorem w_X5_takeItem_4 {E : Nat × (Nat → Int32)} {d : Nat} {v : xV} {x1 : Int32} {x2 : Int32} {x3 : Int32} {Q : Int32 → xV → Prop} (h : (((gI v 1 1) ≤ x3 → RI E (d + 1) 45 39 [(0, .ref 17), (1, .int x1), (2, .int x2)] v Q) ∧ (¬ (gI v 1 1) ≤ x3 → KI E d 78 [.ref 1, .int x3] v (fun y2 v1 => KI E d 144 [.int y2] v1 (fun y4 v3 => ((y4 = (nI 0) → RI E (d + 1) 45 39 [(0, .ref 17), (1, .int x1), (2, .int x2)] v3 Q) ∧ (¬ y4 = (nI 0) → ∀ y5 : Int32, y5 = (x3 + (nI 1)) → RI E (d + 1) 45 4 [(0, .ref 17), (1, .int x1), (2, .int y5), (3, .int (x3 + (nI 1)))] v3 Q))))))) : RI E (d + 1) 45 4 [(0, .ref 17), (1, .int x1), (2, .int x2), (3, .int x3)] v Q := by
  unfold RI
  refine xr_blk (lv1 := [(0, .ref 17), (1, .int x1), (2, .int x2), (3, .int x3)]) (st1 := [.int (gI v 1 1), .int x3]) (S1 := rt v) (pc1 := 12) [(.iload_n 3, .null, 0, 0), (.aload_n 0, .null, 0, 0), (.getfield 39, .null, 5, 0), (.getfield 46, .null, 8, 1)] [] (by decide +kernel) rfl trivial ?_
  refine xr_ic_ge (tgt := 39) (off := 27) (by decide +kernel) (by decide) (fun hc => ?_) (fun hc => ?_)
  · replace h := h.1 hc
    exact x_R.sub [0, 1, 2] rfl h
  · replace h := h.2 hc
    refine xr_blk (lv1 := [(0, .ref 17), (1, .int x1), (2, .int x2), (3, .int x3)]) (st1 := [.int x3, .ref 1]) (S1 := rt v) (pc1 := 20) [(.aload_n 0, .null, 0, 0), (.getfield 39, .null, 5, 0), (.iload_n 3, .null, 0, 0)] [] (by decide +kernel) rfl trivial ?_
    refine xk_VI (As := [.int x3]) (bb := 1) (rest := []) (idx := 59) (i0 := 59) (m1 := 78) (ps := [741, 677, 678]) (by decide +kernel) (by decide +kernel) (by decide) rfl ((gK_s (by decide)).trans (by decide +kernel)) (by decide) (Nat.le_of_ble_eq_true rfl) rfl h (fun y2 v1 h => ?_)
    refine xk_NI (As := [.int y2]) (rest := []) (idx := 62) (i0 := 62) (m1 := 144) (ps := [681]) (by decide +kernel) (by decide +kernel) (by decide) rfl (Nat.le_of_ble_eq_true rfl) rfl h (fun y4 v3 h => ?_)
    refine xr_if_eq (tgt := 39) (off := 13) (by decide +kernel) (by decide) (fun hc => ?_) (fun hc => ?_)
    · replace h := h.1 hc
      exact x_R.sub [0, 1, 2] rfl h
    · replace h := h.2 hc
      refine xr_blk (lv1 := [(0, .ref 17), (1, .int x1), (2, .int x2), (3, .int x3)]) (st1 := [.int (x3 + (nI 1))]) (S1 := rt v3) (pc1 := 32) [(.iload_n 3, .null, 0, 0), (.iconst 1, .int (nI 1), 0, 0), (.iadd, .null, 0, 0)] [] (by decide +kernel) rfl trivial ?_
      refine xr_topi (fun y5 ey5 => ?_)
      replace h := h y5 ey5
      refine xr_blk (lv1 := [(3, .int (x3 + (nI 1))), (2, .int y5), (0, .ref 17), (1, .int x1)]) (st1 := []) (S1 := rt v3) (pc1 := 36) [(.istore_n 2, .null, 0, 0), (.iinc 3 1, .int (nI 1), 0, 0)] [] (by decide +kernel) rfl trivial ?_
      refine xr_goto (tgt := 4) (off := -32) (by decide +kernel) (by decide) ?_
      exact x_R.sub [2, 3, 1, 0] rfl h
set_option maxRecDepth 100000 in
theorem w_X5_takeItem_39 {E : Nat × (Nat → Int32)} {d : Nat} {v : xV} {x1 : Int32} {x2 : Int32} {Q : Int32 → xV → Prop} (h : KI E d 48 [.ref 17, .int x1, .int x2] v (fun y2 v1 => ((¬ y2 = (-1 : Int32) → (((nI 6) ≤ (gI v1 17 7) → RI E (d + 1) 45 78 [(0, .ref 17), (1, .int x1), (2, .int x2)] v1 Q) ∧ (¬ (nI 6) ≤ (gI v1 17 7) → (((gI v1 17 4) < (nI 8) → vp_in (((gI v1 17 4) * (nI 6)) + (gI v1 17 7)) 48 ∧ vp_in (((gI v1 17 4) * (nI 6)) + (gI v1 17 7)) 48 ∧ Q x2 (v_I (v_I (v_A (v_A v1 18 (upd (gA v1 18) ((((gI v1 17 4) * (nI 6)) + (gI v1 17 7))).toNatClampNeg y2)) 19 (upd (gA v1 19) ((((gI v1 17 4) * (nI 6)) + (gI v1 17 7))).toNatClampNeg (nI 0))) 17 7 ((gI v1 17 7) + (nI 1))) 17 8 (nI 1))) ∧ (¬ (gI v1 17 4) < (nI 8) → RI E (d + 1) 45 78 [(0, .ref 17), (1, .int x1), (2, .int x2)] v1 Q))))) ∧ (y2 = (-1 : Int32) → KV E d 43 [.ref 17, .int (nI 1), .int x1] v1 (fun v5 => Q x2 v5))))) : RI E (d + 1) 45 39 [(0, .ref 17), (1, .int x1), (2, .int x2)] v Q := by
  unfold RI
  refine xr_blk (lv1 := [(0, .ref 17), (1, .int x1), (2, .int x2)]) (st1 := [.int x2, .int x1, .ref 17]) (S1 := rt v) (pc1 := 42) [(.aload_n 0, .null, 0, 0), (.iload_n 1, .null, 0, 0), (.iload_n 2, .null, 0, 0)] [] (by decide +kernel) rfl trivial ?_
  refine xk_VI (As := [.int x1, .int x2]) (bb := 17) (rest := []) (idx := 76) (i0 := 76) (m1 := 48) (ps := [747, 749, 6]) (by decide +kernel) (by decide +kernel) (by decide) rfl ((gK_s (by decide)).trans (by decide +kernel)) (by decide) (Nat.le_of_ble_eq_true rfl) rfl h (fun y2 v1 h => ?_)
  refine xr_blk (lv1 := [(3, .int y2), (0, .ref 17), (1, .int x1), (2, .int x2)]) (st1 := [.int (-1), .int y2]) (S1 := rt v1) (pc1 := 48) [(.istore_n 3, .null, 0, 0), (.iload_n 3, .null, 0, 0), (.iconst (-1), .int (-1), 0, 0)] [] (by decide +kernel) rfl trivial ?_
  refine xr_ic_ne (tgt := 60) (off := 12) (by decide +kernel) (by decide) (fun hc => ?_) (fun hc => ?_)
  · replace h := h.1 hc
    refine xr_blk (lv1 := [(3, .int y2), (0, .ref 17), (1, .int x1), (2, .int x2)]) (st1 := [.int (nI 6), .int (gI v1 17 7)]) (S1 := rt v1) (pc1 := 66) [(.aload_n 0, .null, 0, 0), (.getfield 32, .null, 5, 7), (.bipush 6, .int (nI 6), 0, 0)] [] (by decide +kernel) rfl trivial ?_
    refine xr_ic_ge (tgt := 78) (off := 12) (by decide +kernel) (by decide) (fun hc => ?_) (fun hc => ?_)
    · replace h := h.1 hc
      exact x_R.sub [1, 2, 3] rfl h
    · replace h := h.2 hc
      refine xr_blk (lv1 := [(3, .int y2), (0, .ref 17), (1, .int x1), (2, .int x2)]) (st1 := [.int (nI 8), .int (gI v1 17 4)]) (S1 := rt v1) (pc1 := 75) [(.aload_n 0, .null, 0, 0), (.getfield 22, .null, 5, 4), (.bipush 8, .int (nI 8), 0, 0)] [] (by decide +kernel) rfl trivial ?_
      refine xr_ic_lt (tgt := 87) (off := 12) (by decide +kernel) (by decide) (fun hc => ?_) (fun hc => ?_)
      · replace h := h.1 hc
        obtain ⟨hb3, h⟩ := h
        obtain ⟨hb4, h⟩ := h
        refine xr_blk (lv1 := [(3, .int y2), (0, .ref 17), (1, .int x1), (2, .int x2)]) (st1 := [.int x2]) (S1 := rt (v_I (v_I (v_A (v_A v1 18 (upd (gA v1 18) ((((gI v1 17 4) * (nI 6)) + (gI v1 17 7))).toNatClampNeg y2)) 19 (upd (gA v1 19) ((((gI v1 17 4) * (nI 6)) + (gI v1 17 7))).toNatClampNeg (nI 0))) 17 7 ((gI v1 17 7) + (nI 1))) 17 8 (nI 1))) (pc1 := 139) [(.aload_n 0, .null, 0, 0), (.getfield 9, .null, 5, 1), (.aload_n 0, .null, 0, 0), (.getfield 22, .null, 5, 4), (.bipush 6, .int (nI 6), 0, 0), (.imul, .null, 0, 0), (.aload_n 0, .null, 0, 0), (.getfield 32, .null, 5, 7), (.iadd, .null, 0, 0), (.iload_n 3, .null, 0, 0), (.iastore, .null, 0, 0), (.aload_n 0, .null, 0, 0), (.getfield 15, .null, 5, 2), (.aload_n 0, .null, 0, 0), (.getfield 22, .null, 5, 4), (.bipush 6, .int (nI 6), 0, 0), (.imul, .null, 0, 0), (.aload_n 0, .null, 0, 0), (.getfield 32, .null, 5, 7), (.iadd, .null, 0, 0), (.iconst 0, .int (nI 0), 0, 0), (.bastore, .null, 0, 0), (.aload_n 0, .null, 0, 0), (.dup, .null, 0, 0), (.getfield 32, .null, 5, 7), (.iconst 1, .int (nI 1), 0, 0), (.iadd, .null, 0, 0), (.putfield 32, .null, 5, 7), (.aload_n 0, .null, 0, 0), (.iconst 1, .int (nI 1), 0, 0), (.putfield 35, .null, 5, 8), (.iload_n 2, .null, 0, 0)] [((((gI v1 17 4) * (nI 6)) + (gI v1 17 7)), 48), ((((gI v1 17 4) * (nI 6)) + (gI v1 17 7)), 48), ((nI 0), 2), ((nI 1), 2)] (by decide +kernel) rfl ⟨hb3, hb4, x_inl (by decide), x_inl (by decide), trivial⟩ ?_
        exact xr_iret (by decide +kernel) rfl ⟨_, _, rfl, rfl, h⟩
      · replace h := h.2 hc
        exact x_R.sub [1, 2, 3] rfl h
  · replace h := h.2 hc
    refine xr_blk (lv1 := [(3, .int y2), (0, .ref 17), (1, .int x1), (2, .int x2)]) (st1 := [.int x1, .int (nI 1), .ref 17]) (S1 := rt v1) (pc1 := 54) [(.aload_n 0, .null, 0, 0), (.iconst 1, .int (nI 1), 0, 0), (.iload_n 1, .null, 0, 0)] [] (by decide +kernel) rfl trivial ?_
    refine xk_VV (As := [.int (nI 1), .int x1]) (bb := 17) (rest := []) (idx := 55) (i0 := 55) (m1 := 43) (ps := [811, 813, 8]) (by decide +kernel) (by decide +kernel) (by decide) rfl ((gK_s (by decide)).trans (by decide +kernel)) (by decide) (Nat.le_of_ble_eq_true rfl) rfl h (fun v5 h => ?_)
    refine xr_goto (tgt := 138) (off := 81) (by decide +kernel) (by decide) ?_
    refine xr_blk (lv1 := [(3, .int y2), (0, .ref 17), (1, .int x1), (2, .int x2)]) (st1 := [.int x2]) (S1 := rt v5) (pc1 := 139) [(.iload_n 2, .null, 0, 0)] [] (by decide +kernel) rfl trivial ?_
    exact xr_iret (by decide +kernel) rfl ⟨_, _, rfl, rfl, h⟩
set_option maxRecDepth 100000 in
theorem w_X5_takeItem_78 {E : Nat × (Nat → Int32)} {d : Nat} {v : xV} {x1 : Int32} {x2 : Int32} {Q : Int32 → xV → Prop} (h : KV E d 43 [.ref 17, .int (nI 2), .int x1] v (fun v1 => Q x2 v1)) : RI E (d + 1) 45 78 [(0, .ref 17), (1, .int x1), (2, .int x2)] v Q := by
  unfold RI
  refine xr_blk (lv1 := [(0, .ref 17), (1, .int x1), (2, .int x2)]) (st1 := [.int x1, .int (nI 2), .ref 17]) (S1 := rt v) (pc1 := 81) [(.aload_n 0, .null, 0, 0), (.iconst 2, .int (nI 2), 0, 0), (.iload_n 1, .null, 0, 0)] [] (by decide +kernel) rfl trivial ?_
  refine xk_VV (As := [.int (nI 2), .int x1]) (bb := 17) (rest := []) (idx := 55) (i0 := 55) (m1 := 43) (ps := [811, 813, 8]) (by decide +kernel) (by decide +kernel) (by decide) rfl ((gK_s (by decide)).trans (by decide +kernel)) (by decide) (Nat.le_of_ble_eq_true rfl) rfl h (fun v1 h => ?_)
  refine xr_goto (tgt := 138) (off := 54) (by decide +kernel) (by decide) ?_
  refine xr_blk (lv1 := [(0, .ref 17), (1, .int x1), (2, .int x2)]) (st1 := [.int x2]) (S1 := rt v1) (pc1 := 139) [(.iload_n 2, .null, 0, 0)] [] (by decide +kernel) rfl trivial ?_
  exact xr_iret (by decide +kernel) rfl ⟨_, _, rfl, rfl, h⟩
theorem ok_45 : x_mOK 45 := ⟨x_tm3 (List.mem_of_getElem? (i := 166) rfl) rfl, 106, by decide +kernel⟩
/-! X5_takeAsk: method 46, ScrawlHouse$PatternText.takeAsk(I)V -/
set_option maxRecDepth 100000 in
theorem w_X5_takeAsk_0 {E : Nat × (Nat → Int32)} {d : Nat} {v : xV} {x1 : Int32} {Q : xV → Prop} (h : (((gI v 17 8) = (nI 0) → RV E (d + 1) 46 15 [(0, .ref 17), (1, .int x1)] v Q) ∧ (¬ (gI v 17 8) = (nI 0) → (((nI 1) ≤ (gI v 17 7) → vp_in ((((gI v 17 4) * (nI 6)) + (gI v 17 7)) - (nI 1)) 48 ∧ Q (v_I (v_A v 19 (upd (gA v 19) (((((gI v 17 4) * (nI 6)) + (gI v 17 7)) - (nI 1))).toNatClampNeg (nI 1))) 17 8 (nI 0))) ∧ (¬ (nI 1) ≤ (gI v 17 7) → RV E (d + 1) 46 15 [(0, .ref 17), (1, .int x1)] v Q))))) : RV E (d + 1) 46 0 [(0, .ref 17), (1, .int x1)] v Q := by
  unfold RV
  refine xr_blk (lv1 := [(0, .ref 17), (1, .int x1)]) (st1 := [.int (gI v 17 8)]) (S1 := rt v) (pc1 := 4) [(.aload_n 0, .null, 0, 0), (.getfield 35, .null, 5, 8)] [] (by decide +kernel) rfl trivial ?_
  refine xr_if_eq (tgt := 15) (off := 11) (by decide +kernel) (by decide) (fun hc => ?_) (fun hc => ?_)
  · replace h := h.1 hc
    exact x_R.sub [0, 1] rfl h
  · replace h := h.2 hc
    refine xr_blk (lv1 := [(0, .ref 17), (1, .int x1)]) (st1 := [.int (nI 1), .int (gI v 17 7)]) (S1 := rt v) (pc1 := 12) [(.aload_n 0, .null, 0, 0), (.getfield 32, .null, 5, 7), (.iconst 1, .int (nI 1), 0, 0)] [] (by decide +kernel) rfl trivial ?_
    refine xr_ic_ge (tgt := 22) (off := 10) (by decide +kernel) (by decide) (fun hc => ?_) (fun hc => ?_)
    · replace h := h.1 hc
      obtain ⟨hb1, h⟩ := h
      refine xr_blk (lv1 := [(0, .ref 17), (1, .int x1)]) (st1 := []) (S1 := rt (v_I (v_A v 19 (upd (gA v 19) (((((gI v 17 4) * (nI 6)) + (gI v 17 7)) - (nI 1))).toNatClampNeg (nI 1))) 17 8 (nI 0))) (pc1 := 47) [(.aload_n 0, .null, 0, 0), (.getfield 15, .null, 5, 2), (.aload_n 0, .null, 0, 0), (.getfield 22, .null, 5, 4), (.bipush 6, .int (nI 6), 0, 0), (.imul, .null, 0, 0), (.aload_n 0, .null, 0, 0), (.getfield 32, .null, 5, 7), (.iadd, .null, 0, 0), (.iconst 1, .int (nI 1), 0, 0), (.isub, .null, 0, 0), (.iconst 1, .int (nI 1), 0, 0), (.bastore, .null, 0, 0), (.aload_n 0, .null, 0, 0), (.iconst 0, .int (nI 0), 0, 0), (.putfield 35, .null, 5, 8)] [(((((gI v 17 4) * (nI 6)) + (gI v 17 7)) - (nI 1)), 48), ((nI 1), 2), ((nI 0), 2)] (by decide +kernel) rfl ⟨hb1, x_inl (by decide), x_inl (by decide), trivial⟩ ?_
      exact xr_ret0 (by decide +kernel) rfl ⟨_, rfl, rfl, h⟩
    · replace h := h.2 hc
      exact x_R.sub [0, 1] rfl h
set_option maxRecDepth 100000 in
theorem w_X5_takeAsk_15 {E : Nat × (Nat → Int32)} {d : Nat} {v : xV} {x1 : Int32} {Q : xV → Prop} (h : KV E d 43 [.ref 17, .int (nI 1), .int x1] v (fun v1 => Q v1)) : RV E (d + 1) 46 15 [(0, .ref 17), (1, .int x1)] v Q := by
  unfold RV
  refine xr_blk (lv1 := [(0, .ref 17), (1, .int x1)]) (st1 := [.int x1, .int (nI 1), .ref 17]) (S1 := rt v) (pc1 := 18) [(.aload_n 0, .null, 0, 0), (.iconst 1, .int (nI 1), 0, 0), (.iload_n 1, .null, 0, 0)] [] (by decide +kernel) rfl trivial ?_
  refine xk_VV (As := [.int (nI 1), .int x1]) (bb := 17) (rest := []) (idx := 55) (i0 := 55) (m1 := 43) (ps := [811, 813, 8]) (by decide +kernel) (by decide +kernel) (by decide) rfl ((gK_s (by decide)).trans (by decide +kernel)) (by decide) (Nat.le_of_ble_eq_true rfl) rfl h (fun v1 h => ?_)
  exact xr_ret0 (by decide +kernel) rfl ⟨_, rfl, rfl, h⟩
theorem ok_46 : x_mOK 46 := ⟨x_tm3 (List.mem_of_getElem? (i := 238) rfl) rfl, 106, by decide +kernel⟩
/-! X5_takeStop: method 47, ScrawlHouse$PatternText.takeStop(I)V -/
set_option maxRecDepth 100000 in
theorem w_X5_takeStop_0 {E : Nat × (Nat → Int32)} {d : Nat} {v : xV} {x1 : Int32} {Q : xV → Prop} (h : ((¬ (gI v 17 7) = (nI 0) → RV E (d + 1) 47 18 [(0, .ref 17), (1, .int x1), (2, .int (nI 0)), (3, .int (nI 0))] v Q) ∧ ((gI v 17 7) = (nI 0) → KV E d 43 [.ref 17, .int (nI 1), .int x1] v (fun v1 => Q v1)))) : RV E (d + 1) 47 0 [(0, .ref 17), (1, .int x1)] v Q := by
  unfold RV
  refine xr_blk (lv1 := [(0, .ref 17), (1, .int x1)]) (st1 := [.int (gI v 17 7)]) (S1 := rt v) (pc1 := 4) [(.aload_n 0, .null, 0, 0), (.getfield 32, .null, 5, 7)] [] (by decide +kernel) rfl trivial ?_
  refine xr_if_ne (tgt := 14) (off := 10) (by decide +kernel) (by decide) (fun hc => ?_) (fun hc => ?_)
  · replace h := h.1 hc
    refine xr_blk (lv1 := [(3, .int (nI 0)), (2, .int (nI 0)), (0, .ref 17), (1, .int x1)]) (st1 := []) (S1 := rt v) (pc1 := 18) [(.iconst 0, .int (nI 0), 0, 0), (.istore_n 2, .null, 0, 0), (.iconst 0, .int (nI 0), 0, 0), (.istore_n 3, .null, 0, 0)] [] (by decide +kernel) rfl trivial ?_
    exact x_R.sub [2, 3, 1, 0] rfl h
  · replace h := h.2 hc
    refine xr_blk (lv1 := [(0, .ref 17), (1, .int x1)]) (st1 := [.int x1, .int (nI 1), .ref 17]) (S1 := rt v) (pc1 := 10) [(.aload_n 0, .null, 0, 0), (.iconst 1, .int (nI 1), 0, 0), (.iload_n 1, .null, 0, 0)] [] (by decide +kernel) rfl trivial ?_
    refine xk_VV (As := [.int (nI 1), .int x1]) (bb := 17) (rest := []) (idx := 55) (i0 := 55) (m1 := 43) (ps := [811, 813, 8]) (by decide +kernel) (by decide +kernel) (by decide) rfl ((gK_s (by decide)).trans (by decide +kernel)) (by decide) (Nat.le_of_ble_eq_true rfl) rfl h (fun v1 h => ?_)
    exact xr_ret0 (by decide +kernel) rfl ⟨_, rfl, rfl, h⟩
set_option maxRecDepth 100000 in
theorem w_X5_takeStop_18 {E : Nat × (Nat → Int32)} {d : Nat} {v : xV} {x1 : Int32} {x2 : Int32} {x3 : Int32} {Q : xV → Prop} (h : (((gI v 17 7) ≤ x3 → ((¬ x2 = (nI 0) → vp_in (gI v 17 4) 8 ∧ KV E d 42 [.ref 17] (v_I (v_A v 20 (upd (gA v 20) ((gI v 17 4)).toNatClampNeg (gI v 17 7))) 17 4 ((gI v 17 4) + (nI 1))) (fun v2 => Q v2)) ∧ (x2 = (nI 0) → KV E d 43 [.ref 17, .int (nI 3), .int x1] v (fun v3 => Q v3)))) ∧ (¬ (gI v 17 7) ≤ x3 → ((¬ x2 = (nI 0) → RV E (d + 1) 47 18 [(0, .ref 17), (1, .int x1), (2, .int (nI 1)), (3, .int (x3 + (nI 1)))] v Q) ∧ (x2 = (nI 0) → vp_in (((gI v 17 4) * (nI 6)) + x3) 48 ∧ ((¬ ((gA v 19) ((((gI v 17 4) * (nI 6)) + x3)).toNatClampNeg) = (nI 0) → RV E (d + 1) 47 18 [(0, .ref 17), (1, .int x1), (2, .int (nI 0)), (3, .int (x3 + (nI 1)))] v Q) ∧ (((gA v 19) ((((gI v 17 4) * (nI 6)) + x3)).toNatClampNeg) = (nI 0) → RV E (d + 1) 47 18 [(0, .ref 17), (1, .int x1), (2, .int (nI 1)), (3, .int (x3 + (nI 1)))] v Q))))))) : RV E (d + 1) 47 18 [(0, .ref 17), (1, .int x1), (2, .int x2), (3, .int x3)] v Q := by
  unfold RV
  refine xr_blk (lv1 := [(0, .ref 17), (1, .int x1), (2, .int x2), (3, .int x3)]) (st1 := [.int (gI v 17 7), .int x3]) (S1 := rt v) (pc1 := 23) [(.iload_n 3, .null, 0, 0), (.aload_n 0, .null, 0, 0), (.getfield 32, .null, 5, 7)] [] (by decide +kernel) rfl trivial ?_
  refine xr_ic_ge (tgt := 59) (off := 36) (by decide +kernel) (by decide) (fun hc => ?_) (fun hc => ?_)
  · replace h := h.1 hc
    refine xr_blk (lv1 := [(0, .ref 17), (1, .int x1), (2, .int x2), (3, .int x3)]) (st1 := [.int x2]) (S1 := rt v) (pc1 := 60) [(.iload_n 2, .null, 0, 0)] [] (by decide +kernel) rfl trivial ?_
    refine xr_if_ne (tgt := 70) (off := 10) (by decide +kernel) (by decide) (fun hc => ?_) (fun hc => ?_)
    · replace h := h.1 hc
      obtain ⟨hb1, h⟩ := h
      refine xr_blk (lv1 := [(0, .ref 17), (1, .int x1), (2, .int x2), (3, .int x3)]) (st1 := [.ref 17]) (S1 := rt (v_I (v_A v 20 (upd (gA v 20) ((gI v 17 4)).toNatClampNeg (gI v 17 7))) 17 4 ((gI v 17 4) + (nI 1)))) (pc1 := 94) [(.aload_n 0, .null, 0, 0), (.getfield 19, .null, 5, 3), (.aload_n 0, .null, 0, 0), (.getfield 22, .null, 5, 4), (.aload_n 0, .null, 0, 0), (.getfield 32, .null, 5, 7), (.iastore, .null, 0, 0), (.aload_n 0, .null, 0, 0), (.dup, .null, 0, 0), (.getfield 22, .null, 5, 4), (.iconst 1, .int (nI 1), 0, 0), (.iadd, .null, 0, 0), (.putfield 22, .null, 5, 4), (.aload_n 0, .null, 0, 0)] [((gI v 17 4), 8)] (by decide +kernel) rfl ⟨hb1, trivial⟩ ?_
      refine xk_VV (As := []) (bb := 17) (rest := []) (idx := 43) (i0 := 43) (m1 := 42) (ps := [733, 735, 3]) (by decide +kernel) (by decide +kernel) (by decide) rfl ((gK_s (by decide)).trans (by decide +kernel)) (by decide) (Nat.le_of_ble_eq_true rfl) rfl h (fun v2 h => ?_)
      exact xr_ret0 (by decide +kernel) rfl ⟨_, rfl, rfl, h⟩
    · replace h := h.2 hc
      refine xr_blk (lv1 := [(0, .ref 17), (1, .int x1), (2, .int x2), (3, .int x3)]) (st1 := [.int x1, .int (nI 3), .ref 17]) (S1 := rt v) (pc1 := 66) [(.aload_n 0, .null, 0, 0), (.iconst 3, .int (nI 3), 0, 0), (.iload_n 1, .null, 0, 0)] [] (by decide +kernel) rfl trivial ?_
      refine xk_VV (As := [.int (nI 3), .int x1]) (bb := 17) (rest := []) (idx := 55) (i0 := 55) (m1 := 43) (ps := [811, 813, 8]) (by decide +kernel) (by decide +kernel) (by decide) rfl ((gK_s (by decide)).trans (by decide +kernel)) (by decide) (Nat.le_of_ble_eq_true rfl) rfl h (fun v3 h => ?_)
      exact xr_ret0 (by decide +kernel) rfl ⟨_, rfl, rfl, h⟩
  · replace h := h.2 hc
    refine xr_blk (lv1 := [(0, .ref 17), (1, .int x1), (2, .int x2), (3, .int x3)]) (st1 := [.int x2]) (S1 := rt v) (pc1 := 27) [(.iload_n 2, .null, 0, 0)] [] (by decide +kernel) rfl trivial ?_
    refine xr_if_ne (tgt := 47) (off := 20) (by decide +kernel) (by decide) (fun hc => ?_) (fun hc => ?_)
    · replace h := h.1 hc
      refine xr_blk (lv1 := [(0, .ref 17), (1, .int x1), (2, .int x2), (3, .int x3)]) (st1 := [.int (nI 1)]) (S1 := rt v) (pc1 := 48) [(.iconst 1, .int (nI 1), 0, 0)] [] (by decide +kernel) rfl trivial ?_
      refine xr_goto (tgt := 52) (off := 4) (by decide +kernel) (by decide) ?_
      refine xr_blk (lv1 := [(3, .int (x3 + (nI 1))), (2, .int (nI 1)), (0, .ref 17), (1, .int x1)]) (st1 := []) (S1 := rt v) (pc1 := 56) [(.istore_n 2, .null, 0, 0), (.iinc 3 1, .int (nI 1), 0, 0)] [] (by decide +kernel) rfl trivial ?_
      refine xr_goto (tgt := 18) (off := -38) (by decide +kernel) (by decide) ?_
      exact x_R.sub [2, 3, 1, 0] rfl h
    · replace h := h.2 hc
      obtain ⟨hb4, h⟩ := h
      refine xr_blk (lv1 := [(0, .ref 17), (1, .int x1), (2, .int x2), (3, .int x3)]) (st1 := [.int ((gA v 19) ((((gI v 17 4) * (nI 6)) + x3)).toNatClampNeg)]) (S1 := rt v) (pc1 := 44) [(.aload_n 0, .null, 0, 0), (.getfield 15, .null, 5, 2), (.aload_n 0, .null, 0, 0), (.getfield 22, .null, 5, 4), (.bipush 6, .int (nI 6), 0, 0), (.imul, .null, 0, 0), (.iload_n 3, .null, 0, 0), (.iadd, .null, 0, 0), (.baload, .null, 0, 0)] [((((gI v 17 4) * (nI 6)) + x3), 48)] (by decide +kernel) rfl ⟨hb4, trivial⟩ ?_
      refine xr_if_ne (tgt := 51) (off := 7) (by decide +kernel) (by decide) (fun hc => ?_) (fun hc => ?_)
      · replace h := h.1 hc
        refine xr_blk (lv1 := [(3, .int (x3 + (nI 1))), (2, .int (nI 0)), (0, .ref 17), (1, .int x1)]) (st1 := []) (S1 := rt v) (pc1 := 56) [(.iconst 0, .int (nI 0), 0, 0), (.istore_n 2, .null, 0, 0), (.iinc 3 1, .int (nI 1), 0, 0)] [] (by decide +kernel) rfl trivial ?_
        refine xr_goto (tgt := 18) (off := -38) (by decide +kernel) (by decide) ?_
        exact x_R.sub [2, 3, 1, 0] rfl h
      · replace h := h.2 hc
        refine xr_blk (lv1 := [(0, .ref 17), (1, .int x1), (2, .int x2), (3, .int x3)]) (st1 := [.int (nI 1)]) (S1 := rt v) (pc1 := 48) [(.iconst 1, .int (nI 1), 0, 0)] [] (by decide +kernel) rfl trivial ?_
        refine xr_goto (tgt := 52) (off := 4) (by decide +kernel) (by decide) ?_
        refine xr_blk (lv1 := [(3, .int (x3 + (nI 1))), (2, .int (nI 1)), (0, .ref 17), (1, .int x1)]) (st1 := []) (S1 := rt v) (pc1 := 56) [(.istore_n 2, .null, 0, 0), (.iinc 3 1, .int (nI 1), 0, 0)] [] (by decide +kernel) rfl trivial ?_
        refine xr_goto (tgt := 18) (off := -38) (by decide +kernel) (by decide) ?_
        exact x_R.sub [2, 3, 1, 0] rfl h
theorem ok_47 : x_mOK 47 := ⟨x_tm4 (List.mem_of_getElem? (i := 2) rfl) rfl, 106, by decide +kernel⟩
/-! X5_sortOf: method 48, ScrawlHouse$PatternText.sortOf(II)I -/
set_option maxRecDepth 100000 in
theorem w_X5_sortOf_0 {E : Nat × (Nat → Int32)} {d : Nat} {v : xV} {x1 : Int32} {x2 : Int32} {Q : Int32 → xV → Prop} (h : RI E (d + 1) 48 2 [(0, .ref 17), (1, .int x1), (2, .int x2), (3, .int (nI 0))] v Q) : RI E (d + 1) 48 0 [(0, .ref 17), (1, .int x1), (2, .int x2)] v Q := by
  unfold RI
  refine xr_blk (lv1 := [(3, .int (nI 0)), (0, .ref 17), (1, .int x1), (2, .int x2)]) (st1 := []) (S1 := rt v) (pc1 := 2) [(.iconst 0, .int (nI 0), 0, 0), (.istore_n 3, .null, 0, 0)] [] (by decide +kernel) rfl trivial ?_
  exact x_R.sub [1, 2, 3, 0] rfl h
set_option maxRecDepth 100000 in
theorem w_X5_sortOf_2 {E : Nat × (Nat → Int32)} {d : Nat} {v : xV} {x1 : Int32} {x2 : Int32} {x3 : Int32} {Q : Int32 → xV → Prop} (h : (((nI 5) ≤ x3 → Q (-1 : Int32) v) ∧ (¬ (nI 5) ≤ x3 → KA E d 50 [.int x3] v (fun y2 v1 => KI E d 49 [.ref 17, .ref y2, .int x1, .int x2] v1 (fun y4 v3 => ((y4 = (nI 0) → RI E (d + 1) 48 2 [(0, .ref 17), (1, .int x1), (2, .int x2), (3, .int (x3 + (nI 1)))] v3 Q) ∧ (¬ y4 = (nI 0) → Q x3 v3))))))) : RI E (d + 1) 48 2 [(0, .ref 17), (1, .int x1), (2, .int x2), (3, .int x3)] v Q := by
  unfold RI
  refine xr_blk (lv1 := [(0, .ref 17), (1, .int x1), (2, .int x2), (3, .int x3)]) (st1 := [.int (nI 5), .int x3]) (S1 := rt v) (pc1 := 4) [(.iload_n 3, .null, 0, 0), (.iconst 5, .int (nI 5), 0, 0)] [] (by decide +kernel) rfl trivial ?_
  refine xr_ic_ge (tgt := 28) (off := 24) (by decide +kernel) (by decide) (fun hc => ?_) (fun hc => ?_)
  · replace h := h.1 hc
    refine xr_blk (lv1 := [(0, .ref 17), (1, .int x1), (2, .int x2), (3, .int x3)]) (st1 := [.int (-1)]) (S1 := rt v) (pc1 := 29) [(.iconst (-1), .int (-1), 0, 0)] [] (by decide +kernel) rfl trivial ?_
    exact xr_iret (by decide +kernel) rfl ⟨_, _, rfl, rfl, h⟩
  · replace h := h.2 hc
    refine xr_blk (lv1 := [(0, .ref 17), (1, .int x1), (2, .int x2), (3, .int x3)]) (st1 := [.int x3, .ref 17]) (S1 := rt v) (pc1 := 9) [(.aload_n 0, .null, 0, 0), (.iload_n 3, .null, 0, 0)] [] (by decide +kernel) rfl trivial ?_
    refine xk_SA (As := [.int x3]) (rest := [.ref 17]) (idx := 80) (i0 := 80) (m1 := 50) (ps := [751, 752]) (by decide +kernel) (by decide +kernel) (by decide) rfl (Nat.le_of_ble_eq_true rfl) rfl h (fun y2 v1 h => ?_)
    refine xr_blk (lv1 := [(0, .ref 17), (1, .int x1), (2, .int x2), (3, .int x3)]) (st1 := [.int x2, .int x1, .ref y2, .ref 17]) (S1 := rt v1) (pc1 := 14) [(.iload_n 1, .null, 0, 0), (.iload_n 2, .null, 0, 0)] [] (by decide +kernel) rfl trivial ?_
    refine xk_VI (As := [.ref y2, .int x1, .int x2]) (bb := 17) (rest := []) (idx := 84) (i0 := 84) (m1 := 49) (ps := [759, 761, 7]) (by decide +kernel) (by decide +kernel) (by decide) rfl ((gK_s (by decide)).trans (by decide +kernel)) (by decide) (Nat.le_of_ble_eq_true rfl) rfl h (fun y4 v3 h => ?_)
    refine xr_if_eq (tgt := 22) (off := 5) (by decide +kernel) (by decide) (fun hc => ?_) (fun hc => ?_)
    · replace h := h.1 hc
      refine xr_blk (lv1 := [(3, .int (x3 + (nI 1))), (0, .ref 17), (1, .int x1), (2, .int x2)]) (st1 := []) (S1 := rt v3) (pc1 := 25) [(.iinc 3 1, .int (nI 1), 0, 0)] [] (by decide +kernel) rfl trivial ?_
      refine xr_goto (tgt := 2) (off := -23) (by decide +kernel) (by decide) ?_
      exact x_R.sub [1, 2, 3, 0] rfl h
    · replace h := h.2 hc
      refine xr_blk (lv1 := [(0, .ref 17), (1, .int x1), (2, .int x2), (3, .int x3)]) (st1 := [.int x3]) (S1 := rt v3) (pc1 := 21) [(.iload_n 3, .null, 0, 0)] [] (by decide +kernel) rfl trivial ?_
      exact xr_iret (by decide +kernel) rfl ⟨_, _, rfl, rfl, h⟩
theorem ok_48 : x_mOK 48 := ⟨x_tm3 (List.mem_of_getElem? (i := 170) rfl) rfl, 106, by decide +kernel⟩
/-! X5_spells: method 49, ScrawlHouse$PatternText.spells(Ljava/lang/String;II)Z -/
set_option maxRecDepth 100000 in
theorem w_X5_spells_0 {E : Nat × (Nat → Int32)} {d : Nat} {v : xV} {i : Nat} (hi : i < 5) {x2 : Int32} {x3 : Int32} {Q : Int32 → xV → Prop} (h : (((nI (x_lens.getD i 0)) = (x3 - x2) → RI E (d + 4) 49 15 [(0, .ref 17), (1, .ref (x_ext0 + (i + 1))), (2, .int x2), (4, .int (nI 0))] v Q) ∧ (¬ (nI (x_lens.getD i 0)) = (x3 - x2) → Q (nI 0) v))) : RI E (d + 4) 49 0 [(0, .ref 17), (1, .ref (x_ext0 + (i + 1))), (2, .int x2), (3, .int x3)] v Q := by
  unfold RI
  refine xr_blk (lv1 := [(0, .ref 17), (1, .ref (x_ext0 + (i + 1))), (2, .int x2), (3, .int x3)]) (st1 := [.ref (x_ext0 + (i + 1))]) (S1 := rt v) (pc1 := 1) [(.aload_n 1, .null, 0, 0)] [] (by decide +kernel) rfl trivial ?_
  refine xr_strlen hi (idx := 88) (i0 := 88) (ps := [763, 764, 765]) (by decide +kernel) (by decide +kernel) (by decide) (Nat.le_of_ble_eq_true rfl) ?_
  refine xr_blk (lv1 := [(0, .ref 17), (1, .ref (x_ext0 + (i + 1))), (2, .int x2), (3, .int x3)]) (st1 := [.int (x3 - x2), .int (nI (x_lens.getD i 0))]) (S1 := rt v) (pc1 := 7) [(.iload_n 3, .null, 0, 0), (.iload_n 2, .null, 0, 0), (.isub, .null, 0, 0)] [] (by decide +kernel) rfl trivial ?_
  refine xr_ic_eq (tgt := 12) (off := 5) (by decide +kernel) (by decide) (fun hc => ?_) (fun hc => ?_)
  · replace h := h.1 hc
    refine xr_blk (lv1 := [(4, .int (nI 0)), (0, .ref 17), (1, .ref (x_ext0 + (i + 1))), (2, .int x2), (3, .int x3)]) (st1 := []) (S1 := rt v) (pc1 := 15) [(.iconst 0, .int (nI 0), 0, 0), (.istore 4, .null, 0, 0)] [] (by decide +kernel) rfl trivial ?_
    exact x_R.sub [1, 2, 3, 0] rfl h
  · replace h := h.2 hc
    refine xr_blk (lv1 := [(0, .ref 17), (1, .ref (x_ext0 + (i + 1))), (2, .int x2), (3, .int x3)]) (st1 := [.int (nI 0)]) (S1 := rt v) (pc1 := 11) [(.iconst 0, .int (nI 0), 0, 0)] [] (by decide +kernel) rfl trivial ?_
    exact xr_zret (by decide +kernel) rfl x_in2_0 ⟨_, _, rfl, rfl, h⟩
set_option maxRecDepth 100000 in
theorem w_X5_spells_15 {E : Nat × (Nat → Int32)} {d : Nat} {v : xV} {i : Nat} (hi : i < 5) {x2 : Int32} {x4 : Int32} {Q : Int32 → xV → Prop} (h : (((nI (x_lens.getD i 0)) ≤ x4 → Q (nI 1) v) ∧ (¬ (nI (x_lens.getD i 0)) ≤ x4 → vp_in x4 (x_lens.getD i 0) ∧ KI E (d + 3) 78 [.ref 1, .int (x2 + x4)] v (fun y3 v2 => (((x_ch i (x4).toNatClampNeg) = y3 → RI E (d + 4) 49 15 [(0, .ref 17), (1, .ref (x_ext0 + (i + 1))), (2, .int x2), (4, .int (x4 + (nI 1)))] v2 Q) ∧ (¬ (x_ch i (x4).toNatClampNeg) = y3 → Q (nI 0) v2)))))) : RI E (d + 4) 49 15 [(0, .ref 17), (1, .ref (x_ext0 + (i + 1))), (2, .int x2), (4, .int x4)] v Q := by
  unfold RI
  refine xr_blk (lv1 := [(0, .ref 17), (1, .ref (x_ext0 + (i + 1))), (2, .int x2), (4, .int x4)]) (st1 := [.ref (x_ext0 + (i + 1)), .int x4]) (S1 := rt v) (pc1 := 18) [(.iload 4, .null, 0, 0), (.aload_n 1, .null, 0, 0)] [] (by decide +kernel) rfl trivial ?_
  refine xr_strlen hi (idx := 88) (i0 := 88) (ps := [763, 764, 765]) (by decide +kernel) (by decide +kernel) (by decide) (Nat.le_of_ble_eq_true rfl) ?_
  refine xr_ic_ge (tgt := 52) (off := 31) (by decide +kernel) (by decide) (fun hc => ?_) (fun hc => ?_)
  · replace h := h.1 hc
    refine xr_blk (lv1 := [(0, .ref 17), (1, .ref (x_ext0 + (i + 1))), (2, .int x2), (4, .int x4)]) (st1 := [.int (nI 1)]) (S1 := rt v) (pc1 := 53) [(.iconst 1, .int (nI 1), 0, 0)] [] (by decide +kernel) rfl trivial ?_
    exact xr_zret (by decide +kernel) rfl x_in2_1 ⟨_, _, rfl, rfl, h⟩
  · replace h := h.2 hc
    refine xr_blk (lv1 := [(0, .ref 17), (1, .ref (x_ext0 + (i + 1))), (2, .int x2), (4, .int x4)]) (st1 := [.int x4, .ref (x_ext0 + (i + 1))]) (S1 := rt v) (pc1 := 27) [(.aload_n 1, .null, 0, 0), (.iload 4, .null, 0, 0)] [] (by decide +kernel) rfl trivial ?_
    obtain ⟨hb1, h⟩ := h
    refine xr_strch hi hb1 (idx := 94) (i0 := 94) (ps := [773, 774, 775]) (by decide +kernel) (by decide +kernel) (by decide) (Nat.le_of_ble_eq_true rfl) ?_
    refine xr_blk (lv1 := [(0, .ref 17), (1, .ref (x_ext0 + (i + 1))), (2, .int x2), (4, .int x4)]) (st1 := [.int (x2 + x4), .ref 1, .int (x_ch i (x4).toNatClampNeg)]) (S1 := rt v) (pc1 := 38) [(.aload_n 0, .null, 0, 0), (.getfield 39, .null, 5, 0), (.iload_n 2, .null, 0, 0), (.iload 4, .null, 0, 0), (.iadd, .null, 0, 0)] [] (by decide +kernel) rfl trivial ?_
    refine xk_VI (As := [.int (x2 + x4)]) (bb := 1) (rest := [.int (x_ch i (x4).toNatClampNeg)]) (idx := 59) (i0 := 59) (m1 := 78) (ps := [741, 677, 678]) (by decide +kernel) (by decide +kernel) (by decide) rfl ((gK_s (by decide)).trans (by decide +kernel)) (by decide) (Nat.le_of_ble_eq_true rfl) rfl h (fun y3 v2 h => ?_)
    refine xr_ic_eq (tgt := 46) (off := 5) (by decide +kernel) (by decide) (fun hc => ?_) (fun hc => ?_)
    · replace h := h.1 hc
      refine xr_blk (lv1 := [(4, .int (x4 + (nI 1))), (0, .ref 17), (1, .ref (x_ext0 + (i + 1))), (2, .int x2)]) (st1 := []) (S1 := rt v2) (pc1 := 49) [(.iinc 4 1, .int (nI 1), 0, 0)] [] (by decide +kernel) rfl trivial ?_
      refine xr_goto (tgt := 15) (off := -34) (by decide +kernel) (by decide) ?_
      exact x_R.sub [1, 2, 3, 0] rfl h
    · replace h := h.2 hc
      refine xr_blk (lv1 := [(0, .ref 17), (1, .ref (x_ext0 + (i + 1))), (2, .int x2), (4, .int x4)]) (st1 := [.int (nI 0)]) (S1 := rt v2) (pc1 := 45) [(.iconst 0, .int (nI 0), 0, 0)] [] (by decide +kernel) rfl trivial ?_
      exact xr_zret (by decide +kernel) rfl x_in2_0 ⟨_, _, rfl, rfl, h⟩
theorem ok_49 : x_mOK 49 := ⟨x_tm3 (List.mem_of_getElem? (i := 182) rfl) rfl, 106, by decide +kernel⟩
/-! X5_sortName: method 50, ScrawlHouse$PatternText.sortName(I)Ljava/lang/String; -/
set_option maxRecDepth 100000 in
theorem w_X5_sortName_0 {E : Nat × (Nat → Int32)} {d : Nat} {v : xV} {x0 : Int32} {Q : Nat → xV → Prop} (h : ((((x0).toInt < 0 ∨ 3 < (x0).toInt) → Q (x_ext0 + (4 + 1)) v) ∧ (x0 = nI 0 → Q (x_ext0 + (0 + 1)) v) ∧ (x0 = nI 1 → Q (x_ext0 + (1 + 1)) v) ∧ (x0 = nI 2 → Q (x_ext0 + (2 + 1)) v) ∧ (x0 = nI 3 → Q (x_ext0 + (3 + 1)) v))) : RA E d 50 0 [(0, .int x0)] v Q := by
  unfold RA
  refine xr_blk (lv1 := [(0, .int x0)]) (st1 := [.int x0]) (S1 := rt v) (pc1 := 1) [(.iload_n 0, .null, 0, 0)] [] (by decide +kernel) rfl trivial ?_
  refine xr_tsw (by decide +kernel : decode (x_mB 50) 1 = .ok (.tableswitch 43 0 3 #[31, 34, 37, 40], 31)) 44 (by decide) (fun hc => ?_) (fun hc => ?_)
  · replace h := h.1 hc
    refine xr_ldcS (i := 4) (idx := 106) (by decide) (by decide +kernel) (by decide) (by decide +kernel) ?_
    exact xr_aret (by decide +kernel) rfl ⟨_, _, rfl, rfl, h⟩
  · replace h := h.2
    have hr : x0 = 0 ∨ x0 = 1 ∨ x0 = 2 ∨ x0 = 3 := x_sw4 hc
    rcases hr with hr | hr | hr | hr
    · refine ⟨31, 32, by rw [hr]; decide +kernel, by decide, ?_⟩
      replace h := h.1 hr
      refine xr_ldcS (i := 0) (idx := 98) (by decide) (by decide +kernel) (by decide) (by decide +kernel) ?_
      exact xr_aret (by decide +kernel) rfl ⟨_, _, rfl, rfl, h⟩
    · refine ⟨34, 35, by rw [hr]; decide +kernel, by decide, ?_⟩
      replace h := h.2.1 hr
      refine xr_ldcS (i := 1) (idx := 100) (by decide) (by decide +kernel) (by decide) (by decide +kernel) ?_
      exact xr_aret (by decide +kernel) rfl ⟨_, _, rfl, rfl, h⟩
    · refine ⟨37, 38, by rw [hr]; decide +kernel, by decide, ?_⟩
      replace h := h.2.2.1 hr
      refine xr_ldcS (i := 2) (idx := 102) (by decide) (by decide +kernel) (by decide) (by decide +kernel) ?_
      exact xr_aret (by decide +kernel) rfl ⟨_, _, rfl, rfl, h⟩
    · refine ⟨40, 41, by rw [hr]; decide +kernel, by decide, ?_⟩
      replace h := h.2.2.2 hr
      refine xr_ldcS (i := 3) (idx := 104) (by decide) (by decide +kernel) (by decide) (by decide +kernel) ?_
      exact xr_aret (by decide +kernel) rfl ⟨_, _, rfl, rfl, h⟩
theorem ok_50 : x_mOK 50 := ⟨x_tm3 (List.mem_of_getElem? (i := 173) rfl) rfl, 106, by decide +kernel⟩
/-! X6_lookAll: method 52, ScrawlHouse$Reader.lookAll(I)V -/
set_option maxRecDepth 100000 in
theorem w_X6_lookAll_0 {E : Nat × (Nat → Int32)} {d : Nat} {v : xV} {x1 : Int32} {Q : xV → Prop} (h : KI E d 9 [.ref 25, .int x1] v (fun y2 v1 => RV E (d + 1) 52 11 [(0, .ref 49), (1, .int x1), (2, .int y2), (3, .int (nI 0))] v1 Q)) : RV E (d + 1) 52 0 [(0, .ref 49), (1, .int x1)] v Q := by
  unfold RV
  refine xr_blk (lv1 := [(0, .ref 49), (1, .int x1)]) (st1 := [.int x1, .ref 25]) (S1 := rt v) (pc1 := 5) [(.aload_n 0, .null, 0, 0), (.getfield 58, .null, 6, 2), (.iload_n 1, .null, 0, 0)] [] (by decide +kernel) rfl trivial ?_
  refine xk_VI (As := [.int x1]) (bb := 25) (rest := []) (idx := 66) (i0 := 66) (m1 := 9) (ps := [1035, 1036, 1037]) (by decide +kernel) (by decide +kernel) (by decide) rfl ((gK_s (by decide)).trans (by decide +kernel)) (by decide) (Nat.le_of_ble_eq_true rfl) rfl h (fun y2 v1 h => ?_)
  refine xr_blk (lv1 := [(3, .int (nI 0)), (2, .int y2), (0, .ref 49), (1, .int x1)]) (st1 := []) (S1 := rt v1) (pc1 := 11) [(.istore_n 2, .null, 0, 0), (.iconst 0, .int (nI 0), 0, 0), (.istore_n 3, .null, 0, 0)] [] (by decide +kernel) rfl trivial ?_
  exact x_R.sub [2, 3, 1, 0] rfl h
set_option maxRecDepth 100000 in
theorem w_X6_lookAll_11 {E : Nat × (Nat → Int32)} {d : Nat} {v : xV} {x1 : Int32} {x2 : Int32} {x3 : Int32} {Q : xV → Prop} (h : ((x2 ≤ x3 → Q v) ∧ (¬ x2 ≤ x3 → KV E d 53 [.ref 49, .int x3, .int x1] v (fun v1 => RV E (d + 1) 52 11 [(0, .ref 49), (1, .int x1), (2, .int x2), (3, .int (x3 + (nI 1)))] v1 Q)))) : RV E (d + 1) 52 11 [(0, .ref 49), (1, .int x1), (2, .int x2), (3, .int x3)] v Q := by
  unfold RV
  refine xr_blk (lv1 := [(0, .ref 49), (1, .int x1), (2, .int x2), (3, .int x3)]) (st1 := [.int x2, .int x3]) (S1 := rt v) (pc1 := 13) [(.iload_n 3, .null, 0, 0), (.iload_n 2, .null, 0, 0)] [] (by decide +kernel) rfl trivial ?_
  refine xr_ic_ge (tgt := 28) (off := 15) (by decide +kernel) (by decide) (fun hc => ?_) (fun hc => ?_)
  · replace h := h.1 hc
    exact xr_ret0 (by decide +kernel) rfl ⟨_, rfl, rfl, h⟩
  · replace h := h.2 hc
    refine xr_blk (lv1 := [(0, .ref 49), (1, .int x1), (2, .int x2), (3, .int x3)]) (st1 := [.int x1, .int x3, .ref 49]) (S1 := rt v) (pc1 := 19) [(.aload_n 0, .null, 0, 0), (.iload_n 3, .null, 0, 0), (.iload_n 1, .null, 0, 0)] [] (by decide +kernel) rfl trivial ?_
    refine xk_VV (As := [.int x3, .int x1]) (bb := 49) (rest := []) (idx := 72) (i0 := 72) (m1 := 53) (ps := [1039, 931, 932]) (by decide +kernel) (by decide +kernel) (by decide) rfl ((gK_s (by decide)).trans (by decide +kernel)) (by decide) (Nat.le_of_ble_eq_true rfl) rfl h (fun v1 h => ?_)
    refine xr_blk (lv1 := [(3, .int (x3 + (nI 1))), (0, .ref 49), (1, .int x1), (2, .int x2)]) (st1 := []) (S1 := rt v1) (pc1 := 25) [(.iinc 3 1, .int (nI 1), 0, 0)] [] (by decide +kernel) rfl trivial ?_
    refine xr_goto (tgt := 11) (off := -14) (by decide +kernel) (by decide) ?_
    exact x_R.sub [1, 2, 3, 0] rfl h
theorem ok_52 : x_mOK 52 := ⟨x_tm4 (List.mem_of_getElem? (i := 214) rfl) rfl, 110, by decide +kernel⟩
/-! X6_look: method 53, ScrawlHouse$Reader.look(II)V -/
set_option maxRecDepth 100000 in
theorem w_X6_look_0 {E : Nat × (Nat → Int32)} {d : Nat} {v : xV} {x1 : Int32} {x2 : Int32} {Q : xV → Prop} (h : KV E d 54 [.ref 49, .int x1, .int x2] v (fun v1 => KI E d 55 [.ref 49, .int x1] v1 (fun y3 v2 => ((y3 = (nI 0) → KV E d 56 [.ref 49, .int x1] v2 (fun v4 => KV E d 73 [.ref 38, .int x1] v4 (fun v5 => KV E d 60 [.ref 49] v5 (fun v6 => KV E d 61 [.ref 49] v6 (fun v7 => KI E d 62 [.ref 49, .int (nI 0), .int (nI 0), .int (nI 0)] v7 (fun y9 v8 => ((y9 < (nI 0) → Q v8) ∧ (¬ y9 < (nI 0) → KV E d 66 [.ref 49, .int x1] v8 (fun v10 => KV E d 68 [.ref 49, .int x1] v10 (fun v11 => Q v11)))))))))) ∧ (¬ y3 = (nI 0) → Q v2))))) : RV E (d + 1) 53 0 [(0, .ref 49), (1, .int x1), (2, .int x2)] v Q := by
  unfold RV
  refine xr_blk (lv1 := [(0, .ref 49), (1, .int x1), (2, .int x2)]) (st1 := [.int x2, .int x1, .ref 49]) (S1 := rt v) (pc1 := 3) [(.aload_n 0, .null, 0, 0), (.iload_n 1, .null, 0, 0), (.iload_n 2, .null, 0, 0)] [] (by decide +kernel) rfl trivial ?_
  refine xk_VV (As := [.int x1, .int x2]) (bb := 49) (rest := []) (idx := 76) (i0 := 76) (m1 := 54) (ps := [934, 894, 895]) (by decide +kernel) (by decide +kernel) (by decide) rfl ((gK_s (by decide)).trans (by decide +kernel)) (by decide) (Nat.le_of_ble_eq_true rfl) rfl h (fun v1 h => ?_)
  refine xr_blk (lv1 := [(0, .ref 49), (1, .int x1), (2, .int x2)]) (st1 := [.int x1, .ref 49]) (S1 := rt v1) (pc1 := 8) [(.aload_n 0, .null, 0, 0), (.iload_n 1, .null, 0, 0)] [] (by decide +kernel) rfl trivial ?_
  refine xk_VI (As := [.int x1]) (bb := 49) (rest := []) (idx := 79) (i0 := 79) (m1 := 55) (ps := [935, 937, 16]) (by decide +kernel) (by decide +kernel) (by decide) rfl ((gK_s (by decide)).trans (by decide +kernel)) (by decide) (Nat.le_of_ble_eq_true rfl) rfl h (fun y3 v2 h => ?_)
  refine xr_if_eq (tgt := 15) (off := 4) (by decide +kernel) (by decide) (fun hc => ?_) (fun hc => ?_)
  · replace h := h.1 hc
    refine xr_blk (lv1 := [(0, .ref 49), (1, .int x1), (2, .int x2)]) (st1 := [.int x1, .ref 49]) (S1 := rt v2) (pc1 := 17) [(.aload_n 0, .null, 0, 0), (.iload_n 1, .null, 0, 0)] [] (by decide +kernel) rfl trivial ?_
    refine xk_VV (As := [.int x1]) (bb := 49) (rest := []) (idx := 83) (i0 := 83) (m1 := 56) (ps := [939, 941, 17]) (by decide +kernel) (by decide +kernel) (by decide) rfl ((gK_s (by decide)).trans (by decide +kernel)) (by decide) (Nat.le_of_ble_eq_true rfl) rfl h (fun v4 h => ?_)
    refine xr_blk (lv1 := [(0, .ref 49), (1, .int x1), (2, .int x2)]) (st1 := [.int x1, .ref 38]) (S1 := rt v4) (pc1 := 25) [(.aload_n 0, .null, 0, 0), (.getfield 62, .null, 6, 3), (.iload_n 1, .null, 0, 0)] [] (by decide +kernel) rfl trivial ?_
    refine xk_VV (As := [.int x1]) (bb := 38) (rest := []) (idx := 87) (i0 := 87) (m1 := 73) (ps := [943, 944, 945]) (by decide +kernel) (by decide +kernel) (by decide) rfl ((gK_s (by decide)).trans (by decide +kernel)) (by decide) (Nat.le_of_ble_eq_true rfl) rfl h (fun v5 h => ?_)
    refine xr_blk (lv1 := [(0, .ref 49), (1, .int x1), (2, .int x2)]) (st1 := [.ref 49]) (S1 := rt v5) (pc1 := 29) [(.aload_n 0, .null, 0, 0)] [] (by decide +kernel) rfl trivial ?_
    refine xk_VV (As := []) (bb := 49) (rest := []) (idx := 92) (i0 := 92) (m1 := 60) (ps := [953, 955, 18]) (by decide +kernel) (by decide +kernel) (by decide) rfl ((gK_s (by decide)).trans (by decide +kernel)) (by decide) (Nat.le_of_ble_eq_true rfl) rfl h (fun v6 h => ?_)
    refine xr_blk (lv1 := [(0, .ref 49), (1, .int x1), (2, .int x2)]) (st1 := [.ref 49]) (S1 := rt v6) (pc1 := 33) [(.aload_n 0, .null, 0, 0)] [] (by decide +kernel) rfl trivial ?_
    refine xk_VV (As := []) (bb := 49) (rest := []) (idx := 95) (i0 := 95) (m1 := 61) (ps := [958, 960, 19]) (by decide +kernel) (by decide +kernel) (by decide) rfl ((gK_s (by decide)).trans (by decide +kernel)) (by decide) (Nat.le_of_ble_eq_true rfl) rfl h (fun v7 h => ?_)
    refine xr_blk (lv1 := [(0, .ref 49), (1, .int x1), (2, .int x2)]) (st1 := [.int (nI 0), .int (nI 0), .int (nI 0), .ref 49]) (S1 := rt v7) (pc1 := 40) [(.aload_n 0, .null, 0, 0), (.iconst 0, .int (nI 0), 0, 0), (.iconst 0, .int (nI 0), 0, 0), (.iconst 0, .int (nI 0), 0, 0)] [] (by decide +kernel) rfl trivial ?_
    refine xk_VI (As := [.int (nI 0), .int (nI 0), .int (nI 0)]) (bb := 49) (rest := []) (idx := 98) (i0 := 98) (m1 := 62) (ps := [966, 968, 20]) (by decide +kernel) (by decide +kernel) (by decide) rfl ((gK_s (by decide)).trans (by decide +kernel)) (by decide) (Nat.le_of_ble_eq_true rfl) rfl h (fun y9 v8 h => ?_)
    refine xr_if_lt (tgt := 56) (off := 13) (by decide +kernel) (by decide) (fun hc => ?_) (fun hc => ?_)
    · replace h := h.1 hc
      exact xr_ret0 (by decide +kernel) rfl ⟨_, rfl, rfl, h⟩
    · replace h := h.2 hc
      refine xr_blk (lv1 := [(0, .ref 49), (1, .int x1), (2, .int x2)]) (st1 := [.int x1, .ref 49]) (S1 := rt v8) (pc1 := 48) [(.aload_n 0, .null, 0, 0), (.iload_n 1, .null, 0, 0)] [] (by decide +kernel) rfl trivial ?_
      refine xk_VV (As := [.int x1]) (bb := 49) (rest := []) (idx := 102) (i0 := 102) (m1 := 66) (ps := [986, 988, 24]) (by decide +kernel) (by decide +kernel) (by decide) rfl ((gK_s (by decide)).trans (by decide +kernel)) (by decide) (Nat.le_of_ble_eq_true rfl) rfl h (fun v10 h => ?_)
      refine xr_blk (lv1 := [(0, .ref 49), (1, .int x1), (2, .int x2)]) (st1 := [.int x1, .ref 49]) (S1 := rt v10) (pc1 := 53) [(.aload_n 0, .null, 0, 0), (.iload_n 1, .null, 0, 0)] [] (by decide +kernel) rfl trivial ?_
      refine xk_VV (As := [.int x1]) (bb := 49) (rest := []) (idx := 105) (i0 := 105) (m1 := 68) (ps := [998, 1000, 26]) (by decide +kernel) (by decide +kernel) (by decide) rfl ((gK_s (by decide)).trans (by decide +kernel)) (by decide) (Nat.le_of_ble_eq_true rfl) rfl h (fun v11 h => ?_)
      exact xr_ret0 (by decide +kernel) rfl ⟨_, rfl, rfl, h⟩
  · replace h := h.2 hc
    exact xr_ret0 (by decide +kernel) rfl ⟨_, rfl, rfl, h⟩
theorem ok_53 : x_mOK 53 := ⟨x_tm4 (List.mem_of_getElem? (i := 113) rfl) rfl, 110, by decide +kernel⟩
/-! X6_gather: method 54, ScrawlHouse$Reader.gather(II)V -/
set_option maxRecDepth 100000 in
theorem w_X6_gather_0 {E : Nat × (Nat → Int32)} {d : Nat} {v : xV} {x1 : Int32} {x2 : Int32} {Q : xV → Prop} (h : vp_in x1 20 ∧ KI E d 10 [.ref 25, .int x1, .int x2] (v_I v 49 15 ((gA v 28) (x1).toNatClampNeg)) (fun y3 v2 => KV E d 11 [.ref 25, .int x1, .int x2, .ref 50] (v_I v2 49 14 y3) (fun v4 => Q v4))) : RV E (d + 1) 54 0 [(0, .ref 49), (1, .int x1), (2, .int x2)] v Q := by
  unfold RV
  obtain ⟨hb1, h⟩ := h
  refine xr_blk (lv1 := [(0, .ref 49), (1, .int x1), (2, .int x2)]) (st1 := [.int x2, .int x1, .ref 25, .ref 49]) (S1 := rt (v_I v 49 15 ((gA v 28) (x1).toNatClampNeg))) (pc1 := 20) [(.aload_n 0, .null, 0, 0), (.aload_n 0, .null, 0, 0), (.getfield 58, .null, 6, 2), (.getfield 108, .null, 1, 2), (.iload_n 1, .null, 0, 0), (.iaload, .null, 0, 0), (.putfield 47, .null, 6, 15), (.aload_n 0, .null, 0, 0), (.aload_n 0, .null, 0, 0), (.getfield 58, .null, 6, 2), (.iload_n 1, .null, 0, 0), (.iload_n 2, .null, 0, 0)] [(x1, 20)] (by decide +kernel) rfl ⟨hb1, trivial⟩ ?_
  refine xk_VI (As := [.int x1, .int x2]) (bb := 25) (rest := [.ref 49]) (idx := 110) (i0 := 110) (m1 := 10) (ps := [897, 898, 899]) (by decide +kernel) (by decide +kernel) (by decide) rfl ((gK_s (by decide)).trans (by decide +kernel)) (by decide) (Nat.le_of_ble_eq_true rfl) rfl h (fun y3 v2 h => ?_)
  refine xr_blk (lv1 := [(0, .ref 49), (1, .int x1), (2, .int x2)]) (st1 := [.ref 50, .int x2, .int x1, .ref 25]) (S1 := rt (v_I v2 49 14 y3)) (pc1 := 36) [(.putfield 43, .null, 6, 14), (.aload_n 0, .null, 0, 0), (.getfield 58, .null, 6, 2), (.iload_n 1, .null, 0, 0), (.iload_n 2, .null, 0, 0), (.aload_n 0, .null, 0, 0), (.getfield 9, .null, 6, 4)] [] (by decide +kernel) rfl trivial ?_
  refine xk_VV (As := [.int x1, .int x2, .ref 50]) (bb := 25) (rest := []) (idx := 114) (i0 := 114) (m1 := 11) (ps := [901, 902, 903]) (by decide +kernel) (by decide +kernel) (by decide) rfl ((gK_s (by decide)).trans (by decide +kernel)) (by decide) (Nat.le_of_ble_eq_true rfl) rfl h (fun v4 h => ?_)
  exact xr_ret0 (by decide +kernel) rfl ⟨_, rfl, rfl, h⟩
theorem ok_54 : x_mOK 54 := ⟨x_tm4 (List.mem_of_getElem? (i := 76) rfl) rfl, 110, by decide +kernel⟩
/-! X6_isSameEvidence: method 55, ScrawlHouse$Reader.isSameEvidence(I)Z -/
set_option maxRecDepth 100000 in
theorem w_X6_isSameEvidence_0 {E : Nat × (Nat → Int32)} {d : Nat} {v : xV} {x1 : Int32} {Q : Int32 → xV → Prop} (h : vp_in x1 20 ∧ ((((gA v 39) (x1).toNatClampNeg) = (nI 0) → Q (nI 0) v) ∧ (¬ ((gA v 39) (x1).toNatClampNeg) = (nI 0) → vp_in x1 20 ∧ ((((gA v 40) (x1).toNatClampNeg) = (gI v 49 14) → RI E d 55 32 [(0, .ref 49), (1, .int x1), (2, .int (nI 0))] v Q) ∧ (¬ ((gA v 40) (x1).toNatClampNeg) = (gI v 49 14) → Q (nI 0) v))))) : RI E d 55 0 [(0, .ref 49), (1, .int x1)] v Q := by
  unfold RI
  obtain ⟨hb1, h⟩ := h
  refine xr_blk (lv1 := [(0, .ref 49), (1, .int x1)]) (st1 := [.int ((gA v 39) (x1).toNatClampNeg)]) (S1 := rt v) (pc1 := 9) [(.aload_n 0, .null, 0, 0), (.getfield 62, .null, 6, 3), (.getfield 118, .null, 7, 0), (.iload_n 1, .null, 0, 0), (.baload, .null, 0, 0)] [(x1, 20)] (by decide +kernel) rfl ⟨hb1, trivial⟩ ?_
  refine xr_if_eq (tgt := 28) (off := 19) (by decide +kernel) (by decide) (fun hc => ?_) (fun hc => ?_)
  · replace h := h.1 hc
    refine xr_blk (lv1 := [(0, .ref 49), (1, .int x1)]) (st1 := [.int (nI 0)]) (S1 := rt v) (pc1 := 29) [(.iconst 0, .int (nI 0), 0, 0)] [] (by decide +kernel) rfl trivial ?_
    exact xr_zret (by decide +kernel) rfl x_in2_0 ⟨_, _, rfl, rfl, h⟩
  · replace h := h.2 hc
    obtain ⟨hb2, h⟩ := h
    refine xr_blk (lv1 := [(0, .ref 49), (1, .int x1)]) (st1 := [.int (gI v 49 14), .int ((gA v 40) (x1).toNatClampNeg)]) (S1 := rt v) (pc1 := 25) [(.aload_n 0, .null, 0, 0), (.getfield 62, .null, 6, 3), (.getfield 121, .null, 7, 1), (.iload_n 1, .null, 0, 0), (.iaload, .null, 0, 0), (.aload_n 0, .null, 0, 0), (.getfield 43, .null, 6, 14)] [(x1, 20)] (by decide +kernel) rfl ⟨hb2, trivial⟩ ?_
    refine xr_ic_eq (tgt := 30) (off := 5) (by decide +kernel) (by decide) (fun hc => ?_) (fun hc => ?_)
    · replace h := h.1 hc
      refine xr_blk (lv1 := [(2, .int (nI 0)), (0, .ref 49), (1, .int x1)]) (st1 := []) (S1 := rt v) (pc1 := 32) [(.iconst 0, .int (nI 0), 0, 0), (.istore_n 2, .null, 0, 0)] [] (by decide +kernel) rfl trivial ?_
      exact x_R.sub [1, 2, 0] rfl h
    · replace h := h.2 hc
      refine xr_blk (lv1 := [(0, .ref 49), (1, .int x1)]) (st1 := [.int (nI 0)]) (S1 := rt v) (pc1 := 29) [(.iconst 0, .int (nI 0), 0, 0)] [] (by decide +kernel) rfl trivial ?_
      exact xr_zret (by decide +kernel) rfl x_in2_0 ⟨_, _, rfl, rfl, h⟩
set_option maxRecDepth 100000 in
theorem w_X6_isSameEvidence_32 {E : Nat × (Nat → Int32)} {d : Nat} {v : xV} {x1 : Int32} {x2 : Int32} {Q : Int32 → xV → Prop} (h : (((nI 4) ≤ x2 → Q (nI 1) v) ∧ (¬ (nI 4) ≤ x2 → vp_in ((x1 * (nI 4)) + x2) 80 ∧ vp_in x2 4 ∧ ((((gA v 41) (((x1 * (nI 4)) + x2)).toNatClampNeg) = ((gA v 50) (x2).toNatClampNeg) → RI E d 55 32 [(0, .ref 49), (1, .int x1), (2, .int (x2 + (nI 1)))] v Q) ∧ (¬ ((gA v 41) (((x1 * (nI 4)) + x2)).toNatClampNeg) = ((gA v 50) (x2).toNatClampNeg) → Q (nI 0) v))))) : RI E d 55 32 [(0, .ref 49), (1, .int x1), (2, .int x2)] v Q := by
  unfold RI
  refine xr_blk (lv1 := [(0, .ref 49), (1, .int x1), (2, .int x2)]) (st1 := [.int (nI 4), .int x2]) (S1 := rt v) (pc1 := 34) [(.iload_n 2, .null, 0, 0), (.iconst 4, .int (nI 4), 0, 0)] [] (by decide +kernel) rfl trivial ?_
  refine xr_ic_ge (tgt := 67) (off := 33) (by decide +kernel) (by decide) (fun hc => ?_) (fun hc => ?_)
  · replace h := h.1 hc
    refine xr_blk (lv1 := [(0, .ref 49), (1, .int x1), (2, .int x2)]) (st1 := [.int (nI 1)]) (S1 := rt v) (pc1 := 68) [(.iconst 1, .int (nI 1), 0, 0)] [] (by decide +kernel) rfl trivial ?_
    exact xr_zret (by decide +kernel) rfl x_in2_1 ⟨_, _, rfl, rfl, h⟩
  · replace h := h.2 hc
    obtain ⟨hb1, h⟩ := h
    obtain ⟨hb2, h⟩ := h
    refine xr_blk (lv1 := [(0, .ref 49), (1, .int x1), (2, .int x2)]) (st1 := [.int ((gA v 50) (x2).toNatClampNeg), .int ((gA v 41) (((x1 * (nI 4)) + x2)).toNatClampNeg)]) (S1 := rt v) (pc1 := 56) [(.aload_n 0, .null, 0, 0), (.getfield 62, .null, 6, 3), (.getfield 124, .null, 7, 2), (.iload_n 1, .null, 0, 0), (.iconst 4, .int (nI 4), 0, 0), (.imul, .null, 0, 0), (.iload_n 2, .null, 0, 0), (.iadd, .null, 0, 0), (.iaload, .null, 0, 0), (.aload_n 0, .null, 0, 0), (.getfield 9, .null, 6, 4), (.iload_n 2, .null, 0, 0), (.iaload, .null, 0, 0)] [(((x1 * (nI 4)) + x2), 80), (x2, 4)] (by decide +kernel) rfl ⟨hb1, hb2, trivial⟩ ?_
    refine xr_ic_eq (tgt := 61) (off := 5) (by decide +kernel) (by decide) (fun hc => ?_) (fun hc => ?_)
    · replace h := h.1 hc
      refine xr_blk (lv1 := [(2, .int (x2 + (nI 1))), (0, .ref 49), (1, .int x1)]) (st1 := []) (S1 := rt v) (pc1 := 64) [(.iinc 2 1, .int (nI 1), 0, 0)] [] (by decide +kernel) rfl trivial ?_
      refine xr_goto (tgt := 32) (off := -32) (by decide +kernel) (by decide) ?_
      exact x_R.sub [1, 2, 0] rfl h
    · replace h := h.2 hc
      refine xr_blk (lv1 := [(0, .ref 49), (1, .int x1), (2, .int x2)]) (st1 := [.int (nI 0)]) (S1 := rt v) (pc1 := 60) [(.iconst 0, .int (nI 0), 0, 0)] [] (by decide +kernel) rfl trivial ?_
      exact xr_zret (by decide +kernel) rfl x_in2_0 ⟨_, _, rfl, rfl, h⟩
theorem ok_55 : x_mOK 55 := ⟨x_tm4 (List.mem_of_getElem? (i := 118) rfl) rfl, 110, by decide +kernel⟩
/-! X6_keepEvidence: method 56, ScrawlHouse$Reader.keepEvidence(I)V -/
set_option maxRecDepth 100000 in
theorem w_X6_keepEvidence_0 {E : Nat × (Nat → Int32)} {d : Nat} {v : xV} {x1 : Int32} {Q : xV → Prop} (h : vp_in x1 20 ∧ vp_in x1 20 ∧ RV E d 56 25 [(0, .ref 49), (1, .int x1), (2, .int (nI 0))] (v_A (v_A v 39 (upd (gA v 39) (x1).toNatClampNeg (nI 1))) 40 (upd (gA v 40) (x1).toNatClampNeg (gI v 49 14))) Q) : RV E d 56 0 [(0, .ref 49), (1, .int x1)] v Q := by
  unfold RV
  obtain ⟨hb1, h⟩ := h
  obtain ⟨hb2, h⟩ := h
  refine xr_blk (lv1 := [(2, .int (nI 0)), (0, .ref 49), (1, .int x1)]) (st1 := []) (S1 := rt (v_A (v_A v 39 (upd (gA v 39) (x1).toNatClampNeg (nI 1))) 40 (upd (gA v 40) (x1).toNatClampNeg (gI v 49 14)))) (pc1 := 25) [(.aload_n 0, .null, 0, 0), (.getfield 62, .null, 6, 3), (.getfield 118, .null, 7, 0), (.iload_n 1, .null, 0, 0), (.iconst 1, .int (nI 1), 0, 0), (.bastore, .null, 0, 0), (.aload_n 0, .null, 0, 0), (.getfield 62, .null, 6, 3), (.getfield 121, .null, 7, 1), (.iload_n 1, .null, 0, 0), (.aload_n 0, .null, 0, 0), (.getfield 43, .null, 6, 14), (.iastore, .null, 0, 0), (.iconst 0, .int (nI 0), 0, 0), (.istore_n 2, .null, 0, 0)] [(x1, 20), ((nI 1), 2), (x1, 20)] (by decide +kernel) rfl ⟨hb1, x_inl (by decide), hb2, trivial⟩ ?_
  exact x_R.sub [1, 2, 0] rfl h
set_option maxRecDepth 100000 in
theorem w_X6_keepEvidence_25 {E : Nat × (Nat → Int32)} {d : Nat} {v : xV} {x1 : Int32} {x2 : Int32} {Q : xV → Prop} (h : (((nI 4) ≤ x2 → Q v) ∧ (¬ (nI 4) ≤ x2 → vp_in x2 4 ∧ vp_in ((x1 * (nI 4)) + x2) 80 ∧ RV E d 56 25 [(0, .ref 49), (1, .int x1), (2, .int (x2 + (nI 1)))] (v_A v 41 (upd (gA v 41) (((x1 * (nI 4)) + x2)).toNatClampNeg ((gA v 50) (x2).toNatClampNeg))) Q))) : RV E d 56 25 [(0, .ref 49), (1, .int x1), (2, .int x2)] v Q := by
  unfold RV
  refine xr_blk (lv1 := [(0, .ref 49), (1, .int x1), (2, .int x2)]) (st1 := [.int (nI 4), .int x2]) (S1 := rt v) (pc1 := 27) [(.iload_n 2, .null, 0, 0), (.iconst 4, .int (nI 4), 0, 0)] [] (by decide +kernel) rfl trivial ?_
  refine xr_ic_ge (tgt := 55) (off := 28) (by decide +kernel) (by decide) (fun hc => ?_) (fun hc => ?_)
  · replace h := h.1 hc
    exact xr_ret0 (by decide +kernel) rfl ⟨_, rfl, rfl, h⟩
  · replace h := h.2 hc
    obtain ⟨hb1, h⟩ := h
    obtain ⟨hb2, h⟩ := h
    refine xr_blk (lv1 := [(2, .int (x2 + (nI 1))), (0, .ref 49), (1, .int x1)]) (st1 := []) (S1 := rt (v_A v 41 (upd (gA v 41) (((x1 * (nI 4)) + x2)).toNatClampNeg ((gA v 50) (x2).toNatClampNeg)))) (pc1 := 52) [(.aload_n 0, .null, 0, 0), (.getfield 62, .null, 6, 3), (.getfield 124, .null, 7, 2), (.iload_n 1, .null, 0, 0), (.iconst 4, .int (nI 4), 0, 0), (.imul, .null, 0, 0), (.iload_n 2, .null, 0, 0), (.iadd, .null, 0, 0), (.aload_n 0, .null, 0, 0), (.getfield 9, .null, 6, 4), (.iload_n 2, .null, 0, 0), (.iaload, .null, 0, 0), (.iastore, .null, 0, 0), (.iinc 2 1, .int (nI 1), 0, 0)] [(x2, 4), (((x1 * (nI 4)) + x2), 80)] (by decide +kernel) rfl ⟨hb1, hb2, trivial⟩ ?_
    refine xr_goto (tgt := 25) (off := -27) (by decide +kernel) (by decide) ?_
    exact x_R.sub [1, 2, 0] rfl h
theorem ok_56 : x_mOK 56 := ⟨x_tm4 (List.mem_of_getElem? (i := 122) rfl) rfl, 110, by decide +kernel⟩
/-! X6_letterCost: method 57, ScrawlHouse$Reader.letterCost(II)I -/
set_option maxRecDepth 100000 in
theorem w_X6_letterCost_0 {E : Nat × (Nat → Int32)} {d : Nat} {v : xV} {x1 : Int32} {x2 : Int32} {Q : Int32 → xV → Prop} (h : ((¬ (gI v 49 14) = (-1 : Int32) → KI E d 58 [.ref 49, .int x1, .int x2] v (fun y2 v1 => RI E (d + 1) 57 22 [(0, .ref 49), (1, .int x1), (2, .int x2), (3, .int y2), (4, .int (nI 0))] v1 Q)) ∧ ((gI v 49 14) = (-1 : Int32) → RI E (d + 1) 57 22 [(0, .ref 49), (1, .int x1), (2, .int x2), (3, .int (nI 0)), (4, .int (nI 0))] v Q))) : RI E (d + 1) 57 0 [(0, .ref 49), (1, .int x1), (2, .int x2)] v Q := by
  unfold RI
  refine xr_blk (lv1 := [(0, .ref 49), (1, .int x1), (2, .int x2)]) (st1 := [.int (-1), .int (gI v 49 14)]) (S1 := rt v) (pc1 := 5) [(.aload_n 0, .null, 0, 0), (.getfield 43, .null, 6, 14), (.iconst (-1), .int (-1), 0, 0)] [] (by decide +kernel) rfl trivial ?_
  refine xr_ic_ne (tgt := 12) (off := 7) (by decide +kernel) (by decide) (fun hc => ?_) (fun hc => ?_)
  · replace h := h.1 hc
    refine xr_blk (lv1 := [(0, .ref 49), (1, .int x1), (2, .int x2)]) (st1 := [.int x2, .int x1, .ref 49]) (S1 := rt v) (pc1 := 15) [(.aload_n 0, .null, 0, 0), (.iload_n 1, .null, 0, 0), (.iload_n 2, .null, 0, 0)] [] (by decide +kernel) rfl trivial ?_
    refine xk_VI (As := [.int x1, .int x2]) (bb := 49) (rest := []) (idx := 125) (i0 := 125) (m1 := 58) (ps := [910, 912, 14]) (by decide +kernel) (by decide +kernel) (by decide) rfl ((gK_s (by decide)).trans (by decide +kernel)) (by decide) (Nat.le_of_ble_eq_true rfl) rfl h (fun y2 v1 h => ?_)
    refine xr_blk (lv1 := [(4, .int (nI 0)), (3, .int y2), (0, .ref 49), (1, .int x1), (2, .int x2)]) (st1 := []) (S1 := rt v1) (pc1 := 22) [(.istore_n 3, .null, 0, 0), (.iconst 0, .int (nI 0), 0, 0), (.istore 4, .null, 0, 0)] [] (by decide +kernel) rfl trivial ?_
    exact x_R.sub [2, 3, 4, 1, 0] rfl h
  · replace h := h.2 hc
    refine xr_blk (lv1 := [(0, .ref 49), (1, .int x1), (2, .int x2)]) (st1 := [.int (nI 0)]) (S1 := rt v) (pc1 := 9) [(.iconst 0, .int (nI 0), 0, 0)] [] (by decide +kernel) rfl trivial ?_
    refine xr_goto (tgt := 18) (off := 9) (by decide +kernel) (by decide) ?_
    refine xr_blk (lv1 := [(4, .int (nI 0)), (3, .int (nI 0)), (0, .ref 49), (1, .int x1), (2, .int x2)]) (st1 := []) (S1 := rt v) (pc1 := 22) [(.istore_n 3, .null, 0, 0), (.iconst 0, .int (nI 0), 0, 0), (.istore 4, .null, 0, 0)] [] (by decide +kernel) rfl trivial ?_
    exact x_R.sub [2, 3, 4, 1, 0] rfl h
set_option maxRecDepth 100000 in
theorem w_X6_letterCost_22 {E : Nat × (Nat → Int32)} {d : Nat} {v : xV} {x1 : Int32} {x2 : Int32} {x3 : Int32} {x4 : Int32} {Q : Int32 → xV → Prop} (h : (((nI 4) ≤ x4 → Q x3 v) ∧ (¬ (nI 4) ≤ x4 → ((x3 < (nI 0) → Q x3 v) ∧ (¬ x3 < (nI 0) → vp_in x4 4 ∧ ((¬ ((gA v 50) (x4).toNatClampNeg) = (-1 : Int32) → vp_in x4 4 ∧ vp_in ((((gA v 50) (x4).toNatClampNeg) * (nI 24)) + x1) 960 ∧ ∀ y4 : Int32, y4 = ((gA v 37) (((((gA v 50) (x4).toNatClampNeg) * (nI 24)) + x1)).toNatClampNeg) → ((y4 = (-1 : Int32) → RI E (d + 1) 57 22 [(0, .ref 49), (1, .int x1), (2, .int x2), (3, .int x3), (4, .int (x4 + (nI 1)))] v Q) ∧ (¬ y4 = (-1 : Int32) → ((y4 = x2 → RI E (d + 1) 57 22 [(0, .ref 49), (1, .int x1), (2, .int x2), (3, .int x3), (4, .int (x4 + (nI 1)))] v Q) ∧ (¬ y4 = x2 → KI E d 30 [.ref 3, .int x4, .int x2, .int y4] v (fun y6 v5 => ((y6 = (nI 0) → RI E (d + 1) 57 22 [(0, .ref 49), (1, .int x1), (2, .int x2), (3, .int (-1)), (4, .int (x4 + (nI 1)))] v5 Q) ∧ (¬ y6 = (nI 0) → ∀ y7 : Int32, y7 = (x3 + (nI 2)) → RI E (d + 1) 57 22 [(0, .ref 49), (1, .int x1), (2, .int x2), (3, .int y7), (4, .int (x4 + (nI 1)))] v5 Q)))))))) ∧ (((gA v 50) (x4).toNatClampNeg) = (-1 : Int32) → (((-1 : Int32) = (-1 : Int32) → RI E (d + 1) 57 22 [(0, .ref 49), (1, .int x1), (2, .int x2), (3, .int x3), (4, .int (x4 + (nI 1)))] v Q) ∧ (¬ (-1 : Int32) = (-1 : Int32) → (((-1 : Int32) = x2 → RI E (d + 1) 57 22 [(0, .ref 49), (1, .int x1), (2, .int x2), (3, .int x3), (4, .int (x4 + (nI 1)))] v Q) ∧ (¬ (-1 : Int32) = x2 → KI E d 30 [.ref 3, .int x4, .int x2, .int (-1)] v (fun y9 v8 => ((y9 = (nI 0) → RI E (d + 1) 57 22 [(0, .ref 49), (1, .int x1), (2, .int x2), (3, .int (-1)), (4, .int (x4 + (nI 1)))] v8 Q) ∧ (¬ y9 = (nI 0) → ∀ y10 : Int32, y10 = (x3 + (nI 2)) → RI E (d + 1) 57 22 [(0, .ref 49), (1, .int x1), (2, .int x2), (3, .int y10), (4, .int (x4 + (nI 1)))] v8 Q)))))))))))))) : RI E (d + 1) 57 22 [(0, .ref 49), (1, .int x1), (2, .int x2), (3, .int x3), (4, .int x4)] v Q := by
  unfold RI
  refine xr_blk (lv1 := [(0, .ref 49), (1, .int x1), (2, .int x2), (3, .int x3), (4, .int x4)]) (st1 := [.int (nI 4), .int x4]) (S1 := rt v) (pc1 := 25) [(.iload 4, .null, 0, 0), (.iconst 4, .int (nI 4), 0, 0)] [] (by decide +kernel) rfl trivial ?_
  refine xr_ic_ge (tgt := 110) (off := 85) (by decide +kernel) (by decide) (fun hc => ?_) (fun hc => ?_)
  · replace h := h.1 hc
    refine xr_blk (lv1 := [(0, .ref 49), (1, .int x1), (2, .int x2), (3, .int x3), (4, .int x4)]) (st1 := [.int x3]) (S1 := rt v) (pc1 := 111) [(.iload_n 3, .null, 0, 0)] [] (by decide +kernel) rfl trivial ?_
    exact xr_iret (by decide +kernel) rfl ⟨_, _, rfl, rfl, h⟩
  · replace h := h.2 hc
    refine xr_blk (lv1 := [(0, .ref 49), (1, .int x1), (2, .int x2), (3, .int x3), (4, .int x4)]) (st1 := [.int x3]) (S1 := rt v) (pc1 := 29) [(.iload_n 3, .null, 0, 0)] [] (by decide +kernel) rfl trivial ?_
    refine xr_if_lt (tgt := 110) (off := 81) (by decide +kernel) (by decide) (fun hc => ?_) (fun hc => ?_)
    · replace h := h.1 hc
      refine xr_blk (lv1 := [(0, .ref 49), (1, .int x1), (2, .int x2), (3, .int x3), (4, .int x4)]) (st1 := [.int x3]) (S1 := rt v) (pc1 := 111) [(.iload_n 3, .null, 0, 0)] [] (by decide +kernel) rfl trivial ?_
      exact xr_iret (by decide +kernel) rfl ⟨_, _, rfl, rfl, h⟩
    · replace h := h.2 hc
      obtain ⟨hb1, h⟩ := h
      refine xr_blk (lv1 := [(0, .ref 49), (1, .int x1), (2, .int x2), (3, .int x3), (4, .int x4)]) (st1 := [.int (-1), .int ((gA v 50) (x4).toNatClampNeg)]) (S1 := rt v) (pc1 := 40) [(.aload_n 0, .null, 0, 0), (.getfield 9, .null, 6, 4), (.iload 4, .null, 0, 0), (.iaload, .null, 0, 0), (.iconst (-1), .int (-1), 0, 0)] [(x4, 4)] (by decide +kernel) rfl ⟨hb1, trivial⟩ ?_
      refine xr_ic_ne (tgt := 47) (off := 7) (by decide +kernel) (by decide) (fun hc => ?_) (fun hc => ?_)
      · replace h := h.1 hc
        obtain ⟨hb2, h⟩ := h
        obtain ⟨hb3, h⟩ := h
        refine xr_blk (lv1 := [(0, .ref 49), (1, .int x1), (2, .int x2), (3, .int x3), (4, .int x4)]) (st1 := [.int ((gA v 37) (((((gA v 50) (x4).toNatClampNeg) * (nI 24)) + x1)).toNatClampNeg)]) (S1 := rt v) (pc1 := 67) [(.aload_n 0, .null, 0, 0), (.getfield 58, .null, 6, 2), (.getfield 128, .null, 1, 11), (.aload_n 0, .null, 0, 0), (.getfield 9, .null, 6, 4), (.iload 4, .null, 0, 0), (.iaload, .null, 0, 0), (.bipush 24, .int (nI 24), 0, 0), (.imul, .null, 0, 0), (.iload_n 1, .null, 0, 0), (.iadd, .null, 0, 0), (.iaload, .null, 0, 0)] [(x4, 4), (((((gA v 50) (x4).toNatClampNeg) * (nI 24)) + x1), 960)] (by decide +kernel) rfl ⟨hb2, hb3, trivial⟩ ?_
        refine xr_topi (fun y4 ey4 => ?_)
        replace h := h y4 ey4
        refine xr_blk (lv1 := [(5, .int y4), (0, .ref 49), (1, .int x1), (2, .int x2), (3, .int x3), (4, .int x4)]) (st1 := [.int (-1), .int y4]) (S1 := rt v) (pc1 := 72) [(.istore 5, .null, 0, 0), (.iload 5, .null, 0, 0), (.iconst (-1), .int (-1), 0, 0)] [] (by decide +kernel) rfl trivial ?_
        refine xr_ic_eq (tgt := 104) (off := 32) (by decide +kernel) (by decide) (fun hc => ?_) (fun hc => ?_)
        · replace h := h.1 hc
          refine xr_blk (lv1 := [(4, .int (x4 + (nI 1))), (5, .int y4), (0, .ref 49), (1, .int x1), (2, .int x2), (3, .int x3)]) (st1 := []) (S1 := rt v) (pc1 := 107) [(.iinc 4 1, .int (nI 1), 0, 0)] [] (by decide +kernel) rfl trivial ?_
          refine xr_goto (tgt := 22) (off := -85) (by decide +kernel) (by decide) ?_
          exact x_R.sub [2, 3, 4, 5, 0] rfl h
        · replace h := h.2 hc
          refine xr_blk (lv1 := [(5, .int y4), (0, .ref 49), (1, .int x1), (2, .int x2), (3, .int x3), (4, .int x4)]) (st1 := [.int x2, .int y4]) (S1 := rt v) (pc1 := 78) [(.iload 5, .null, 0, 0), (.iload_n 2, .null, 0, 0)] [] (by decide +kernel) rfl trivial ?_
          refine xr_ic_eq (tgt := 104) (off := 26) (by decide +kernel) (by decide) (fun hc => ?_) (fun hc => ?_)
          · replace h := h.1 hc
            refine xr_blk (lv1 := [(4, .int (x4 + (nI 1))), (5, .int y4), (0, .ref 49), (1, .int x1), (2, .int x2), (3, .int x3)]) (st1 := []) (S1 := rt v) (pc1 := 107) [(.iinc 4 1, .int (nI 1), 0, 0)] [] (by decide +kernel) rfl trivial ?_
            refine xr_goto (tgt := 22) (off := -85) (by decide +kernel) (by decide) ?_
            exact x_R.sub [2, 3, 4, 5, 0] rfl h
          · replace h := h.2 hc
            refine xr_blk (lv1 := [(5, .int y4), (0, .ref 49), (1, .int x1), (2, .int x2), (3, .int x3), (4, .int x4)]) (st1 := [.int y4, .int x2, .int x4, .ref 3]) (S1 := rt v) (pc1 := 90) [(.aload_n 0, .null, 0, 0), (.getfield 50, .null, 6, 0), (.iload 4, .null, 0, 0), (.iload_n 2, .null, 0, 0), (.iload 5, .null, 0, 0)] [] (by decide +kernel) rfl trivial ?_
            refine xk_VI (As := [.int x4, .int x2, .int y4]) (bb := 3) (rest := []) (idx := 131) (i0 := 131) (m1 := 30) (ps := [925, 722, 723]) (by decide +kernel) (by decide +kernel) (by decide) rfl ((gK_s (by decide)).trans (by decide +kernel)) (by decide) (Nat.le_of_ble_eq_true rfl) rfl h (fun y6 v5 h => ?_)
            refine xr_if_eq (tgt := 102) (off := 9) (by decide +kernel) (by decide) (fun hc => ?_) (fun hc => ?_)
            · replace h := h.1 hc
              refine xr_blk (lv1 := [(4, .int (x4 + (nI 1))), (3, .int (-1)), (5, .int y4), (0, .ref 49), (1, .int x1), (2, .int x2)]) (st1 := []) (S1 := rt v5) (pc1 := 107) [(.iconst (-1), .int (-1), 0, 0), (.istore_n 3, .null, 0, 0), (.iinc 4 1, .int (nI 1), 0, 0)] [] (by decide +kernel) rfl trivial ?_
              refine xr_goto (tgt := 22) (off := -85) (by decide +kernel) (by decide) ?_
              exact x_R.sub [3, 4, 5, 1, 0] rfl h
            · replace h := h.2 hc
              refine xr_blk (lv1 := [(5, .int y4), (0, .ref 49), (1, .int x1), (2, .int x2), (3, .int x3), (4, .int x4)]) (st1 := [.int (x3 + (nI 2))]) (S1 := rt v5) (pc1 := 99) [(.iload_n 3, .null, 0, 0), (.iconst 2, .int (nI 2), 0, 0), (.iadd, .null, 0, 0)] [] (by decide +kernel) rfl trivial ?_
              refine xr_goto (tgt := 103) (off := 4) (by decide +kernel) (by decide) ?_
              refine xr_topi (fun y7 ey7 => ?_)
              replace h := h y7 ey7
              refine xr_blk (lv1 := [(4, .int (x4 + (nI 1))), (3, .int y7), (5, .int y4), (0, .ref 49), (1, .int x1), (2, .int x2)]) (st1 := []) (S1 := rt v5) (pc1 := 107) [(.istore_n 3, .null, 0, 0), (.iinc 4 1, .int (nI 1), 0, 0)] [] (by decide +kernel) rfl trivial ?_
              refine xr_goto (tgt := 22) (off := -85) (by decide +kernel) (by decide) ?_
              exact x_R.sub [3, 4, 5, 1, 0] rfl h
      · replace h := h.2 hc
        refine xr_blk (lv1 := [(0, .ref 49), (1, .int x1), (2, .int x2), (3, .int x3), (4, .int x4)]) (st1 := [.int (-1)]) (S1 := rt v) (pc1 := 44) [(.iconst (-1), .int (-1), 0, 0)] [] (by decide +kernel) rfl trivial ?_
        refine xr_goto (tgt := 67) (off := 23) (by decide +kernel) (by decide) ?_
        refine xr_blk (lv1 := [(5, .int (-1)), (0, .ref 49), (1, .int x1), (2, .int x2), (3, .int x3), (4, .int x4)]) (st1 := [.int (-1), .int (-1)]) (S1 := rt v) (pc1 := 72) [(.istore 5, .null, 0, 0), (.iload 5, .null, 0, 0), (.iconst (-1), .int (-1), 0, 0)] [] (by decide +kernel) rfl trivial ?_
        refine xr_ic_eq (tgt := 104) (off := 32) (by decide +kernel) (by decide) (fun hc => ?_) (fun hc => ?_)
        · replace h := h.1 hc
          refine xr_blk (lv1 := [(4, .int (x4 + (nI 1))), (5, .int (-1)), (0, .ref 49), (1, .int x1), (2, .int x2), (3, .int x3)]) (st1 := []) (S1 := rt v) (pc1 := 107) [(.iinc 4 1, .int (nI 1), 0, 0)] [] (by decide +kernel) rfl trivial ?_
          refine xr_goto (tgt := 22) (off := -85) (by decide +kernel) (by decide) ?_
          exact x_R.sub [2, 3, 4, 5, 0] rfl h
        · replace h := h.2 hc
          refine xr_blk (lv1 := [(5, .int (-1)), (0, .ref 49), (1, .int x1), (2, .int x2), (3, .int x3), (4, .int x4)]) (st1 := [.int x2, .int (-1)]) (S1 := rt v) (pc1 := 78) [(.iload 5, .null, 0, 0), (.iload_n 2, .null, 0, 0)] [] (by decide +kernel) rfl trivial ?_
          refine xr_ic_eq (tgt := 104) (off := 26) (by decide +kernel) (by decide) (fun hc => ?_) (fun hc => ?_)
          · replace h := h.1 hc
            refine xr_blk (lv1 := [(4, .int (x4 + (nI 1))), (5, .int (-1)), (0, .ref 49), (1, .int x1), (2, .int x2), (3, .int x3)]) (st1 := []) (S1 := rt v) (pc1 := 107) [(.iinc 4 1, .int (nI 1), 0, 0)] [] (by decide +kernel) rfl trivial ?_
            refine xr_goto (tgt := 22) (off := -85) (by decide +kernel) (by decide) ?_
            exact x_R.sub [2, 3, 4, 5, 0] rfl h
          · replace h := h.2 hc
            refine xr_blk (lv1 := [(5, .int (-1)), (0, .ref 49), (1, .int x1), (2, .int x2), (3, .int x3), (4, .int x4)]) (st1 := [.int (-1), .int x2, .int x4, .ref 3]) (S1 := rt v) (pc1 := 90) [(.aload_n 0, .null, 0, 0), (.getfield 50, .null, 6, 0), (.iload 4, .null, 0, 0), (.iload_n 2, .null, 0, 0), (.iload 5, .null, 0, 0)] [] (by decide +kernel) rfl trivial ?_
            refine xk_VI (As := [.int x4, .int x2, .int (-1)]) (bb := 3) (rest := []) (idx := 131) (i0 := 131) (m1 := 30) (ps := [925, 722, 723]) (by decide +kernel) (by decide +kernel) (by decide) rfl ((gK_s (by decide)).trans (by decide +kernel)) (by decide) (Nat.le_of_ble_eq_true rfl) rfl h (fun y9 v8 h => ?_)
            refine xr_if_eq (tgt := 102) (off := 9) (by decide +kernel) (by decide) (fun hc => ?_) (fun hc => ?_)
            · replace h := h.1 hc
              refine xr_blk (lv1 := [(4, .int (x4 + (nI 1))), (3, .int (-1)), (5, .int (-1)), (0, .ref 49), (1, .int x1), (2, .int x2)]) (st1 := []) (S1 := rt v8) (pc1 := 107) [(.iconst (-1), .int (-1), 0, 0), (.istore_n 3, .null, 0, 0), (.iinc 4 1, .int (nI 1), 0, 0)] [] (by decide +kernel) rfl trivial ?_
              refine xr_goto (tgt := 22) (off := -85) (by decide +kernel) (by decide) ?_
              exact x_R.sub [3, 4, 5, 1, 0] rfl h
            · replace h := h.2 hc
              refine xr_blk (lv1 := [(5, .int (-1)), (0, .ref 49), (1, .int x1), (2, .int x2), (3, .int x3), (4, .int x4)]) (st1 := [.int (x3 + (nI 2))]) (S1 := rt v8) (pc1 := 99) [(.iload_n 3, .null, 0, 0), (.iconst 2, .int (nI 2), 0, 0), (.iadd, .null, 0, 0)] [] (by decide +kernel) rfl trivial ?_
              refine xr_goto (tgt := 103) (off := 4) (by decide +kernel) (by decide) ?_
              refine xr_topi (fun y10 ey10 => ?_)
              replace h := h y10 ey10
              refine xr_blk (lv1 := [(4, .int (x4 + (nI 1))), (3, .int y10), (5, .int (-1)), (0, .ref 49), (1, .int x1), (2, .int x2)]) (st1 := []) (S1 := rt v8) (pc1 := 107) [(.istore_n 3, .null, 0, 0), (.iinc 4 1, .int (nI 1), 0, 0)] [] (by decide +kernel) rfl trivial ?_
              refine xr_goto (tgt := 22) (off := -85) (by decide +kernel) (by decide) ?_
              exact x_R.sub [3, 4, 5, 1, 0] rfl h
theorem ok_57 : x_mOK 57 := ⟨x_tm4 (List.mem_of_getElem? (i := 89) rfl) rfl, 110, by decide +kernel⟩
/-! X6_formCost: method 58, ScrawlHouse$Reader.formCost(II)I -/
set_option maxRecDepth 100000 in
theorem w_X6_formCost_0 {E : Nat × (Nat → Int32)} {d : Nat} {v : xV} {x1 : Int32} {x2 : Int32} {Q : Int32 → xV → Prop} (h : RI E (d + 1) 58 5 [(0, .ref 49), (1, .int x1), (2, .int x2), (3, .int (-1)), (4, .int (nI 0))] v Q) : RI E (d + 1) 58 0 [(0, .ref 49), (1, .int x1), (2, .int x2)] v Q := by
  unfold RI
  refine xr_blk (lv1 := [(4, .int (nI 0)), (3, .int (-1)), (0, .ref 49), (1, .int x1), (2, .int x2)]) (st1 := []) (S1 := rt v) (pc1 := 5) [(.iconst (-1), .int (-1), 0, 0), (.istore_n 3, .null, 0, 0), (.iconst 0, .int (nI 0), 0, 0), (.istore 4, .null, 0, 0)] [] (by decide +kernel) rfl trivial ?_
  exact x_R.sub [2, 3, 4, 1, 0] rfl h
set_option maxRecDepth 100000 in
theorem w_X6_formCost_5 {E : Nat × (Nat → Int32)} {d : Nat} {v : xV} {x1 : Int32} {x2 : Int32} {x3 : Int32} {x4 : Int32} {Q : Int32 → xV → Prop} (h : vp_in x2 26 ∧ ((((gA v 5) (x2).toNatClampNeg) ≤ x4 → Q x3 v) ∧ (¬ ((gA v 5) (x2).toNatClampNeg) ≤ x4 → KI E d 59 [.ref 49, .int x1, .int x2, .int x4] v (fun y3 v2 => ((y3 = (nI 0) → RI E (d + 1) 58 5 [(0, .ref 49), (1, .int x1), (2, .int x2), (3, .int x3), (4, .int (x4 + (nI 1)))] v2 Q) ∧ (¬ y3 = (nI 0) → vp_in (((gI v2 49 14) * (nI 24)) + x1) 1440 ∧ ∀ y5 : Int32, y5 = ((gA v2 32) ((((gI v2 49 14) * (nI 24)) + x1)).toNatClampNeg) → vp_in ((x2 * (nI 3)) + x4) 78 ∧ KI E d 225 [.int (((gA v2 4) (((x2 * (nI 3)) + x4)).toNatClampNeg) &&& (y5 ^^^ (-1 : Int32)))] v2 (fun y8 v7 => ((¬ x3 = (-1 : Int32) → ∀ y9 : Int32, y9 = (if y8 < x3 then y8 else x3) → RI E (d + 1) 58 5 [(0, .ref 49), (1, .int x1), (2, .int x2), (3, .int y9), (4, .int (x4 + (nI 1)))] v7 Q) ∧ (x3 = (-1 : Int32) → RI E (d + 1) 58 5 [(0, .ref 49), (1, .int x1), (2, .int x2), (3, .int y8), (4, .int (x4 + (nI 1)))] v7 Q))))))))) : RI E (d + 1) 58 5 [(0, .ref 49), (1, .int x1), (2, .int x2), (3, .int x3), (4, .int x4)] v Q := by
  unfold RI
  obtain ⟨hb1, h⟩ := h
  refine xr_blk (lv1 := [(0, .ref 49), (1, .int x1), (2, .int x2), (3, .int x3), (4, .int x4)]) (st1 := [.int ((gA v 5) (x2).toNatClampNeg), .int x4]) (S1 := rt v) (pc1 := 16) [(.iload 4, .null, 0, 0), (.aload_n 0, .null, 0, 0), (.getfield 50, .null, 6, 0), (.getfield 137, .null, 3, 1), (.iload_n 2, .null, 0, 0), (.iaload, .null, 0, 0)] [(x2, 26)] (by decide +kernel) rfl ⟨hb1, trivial⟩ ?_
  refine xr_ic_ge (tgt := 96) (off := 80) (by decide +kernel) (by decide) (fun hc => ?_) (fun hc => ?_)
  · replace h := h.1 hc
    refine xr_blk (lv1 := [(0, .ref 49), (1, .int x1), (2, .int x2), (3, .int x3), (4, .int x4)]) (st1 := [.int x3]) (S1 := rt v) (pc1 := 97) [(.iload_n 3, .null, 0, 0)] [] (by decide +kernel) rfl trivial ?_
    exact xr_iret (by decide +kernel) rfl ⟨_, _, rfl, rfl, h⟩
  · replace h := h.2 hc
    refine xr_blk (lv1 := [(0, .ref 49), (1, .int x1), (2, .int x2), (3, .int x3), (4, .int x4)]) (st1 := [.int x4, .int x2, .int x1, .ref 49]) (S1 := rt v) (pc1 := 24) [(.aload_n 0, .null, 0, 0), (.iload_n 1, .null, 0, 0), (.iload_n 2, .null, 0, 0), (.iload 4, .null, 0, 0)] [] (by decide +kernel) rfl trivial ?_
    refine xk_VI (As := [.int x1, .int x2, .int x4]) (bb := 49) (rest := []) (idx := 140) (i0 := 140) (m1 := 59) (ps := [914, 916, 15]) (by decide +kernel) (by decide +kernel) (by decide) rfl ((gK_s (by decide)).trans (by decide +kernel)) (by decide) (Nat.le_of_ble_eq_true rfl) rfl h (fun y3 v2 h => ?_)
    refine xr_if_eq (tgt := 90) (off := 63) (by decide +kernel) (by decide) (fun hc => ?_) (fun hc => ?_)
    · replace h := h.1 hc
      refine xr_blk (lv1 := [(4, .int (x4 + (nI 1))), (0, .ref 49), (1, .int x1), (2, .int x2), (3, .int x3)]) (st1 := []) (S1 := rt v2) (pc1 := 93) [(.iinc 4 1, .int (nI 1), 0, 0)] [] (by decide +kernel) rfl trivial ?_
      refine xr_goto (tgt := 5) (off := -88) (by decide +kernel) (by decide) ?_
      exact x_R.sub [1, 2, 3, 4, 0] rfl h
    · replace h := h.2 hc
      obtain ⟨hb4, h⟩ := h
      refine xr_blk (lv1 := [(0, .ref 49), (1, .int x1), (2, .int x2), (3, .int x3), (4, .int x4)]) (st1 := [.int ((gA v2 32) ((((gI v2 49 14) * (nI 24)) + x1)).toNatClampNeg)]) (S1 := rt v2) (pc1 := 47) [(.aload_n 0, .null, 0, 0), (.getfield 58, .null, 6, 2), (.getfield 143, .null, 1, 6), (.aload_n 0, .null, 0, 0), (.getfield 43, .null, 6, 14), (.bipush 24, .int (nI 24), 0, 0), (.imul, .null, 0, 0), (.iload_n 1, .null, 0, 0), (.iadd, .null, 0, 0), (.iaload, .null, 0, 0)] [((((gI v2 49 14) * (nI 24)) + x1), 1440)] (by decide +kernel) rfl ⟨hb4, trivial⟩ ?_
      refine xr_topi (fun y5 ey5 => ?_)
      replace h := h y5 ey5
      obtain ⟨hb6, h⟩ := h
      refine xr_blk (lv1 := [(5, .int y5), (0, .ref 49), (1, .int x1), (2, .int x2), (3, .int x3), (4, .int x4)]) (st1 := [.int (((gA v2 4) (((x2 * (nI 3)) + x4)).toNatClampNeg) &&& (y5 ^^^ (-1 : Int32)))]) (S1 := rt v2) (pc1 := 68) [(.istore 5, .null, 0, 0), (.aload_n 0, .null, 0, 0), (.getfield 50, .null, 6, 0), (.getfield 146, .null, 3, 0), (.iload_n 2, .null, 0, 0), (.iconst 3, .int (nI 3), 0, 0), (.imul, .null, 0, 0), (.iload 4, .null, 0, 0), (.iadd, .null, 0, 0), (.iaload, .null, 0, 0), (.iload 5, .null, 0, 0), (.iconst (-1), .int (-1), 0, 0), (.ixor, .null, 0, 0), (.iand, .null, 0, 0)] [(((x2 * (nI 3)) + x4), 78)] (by decide +kernel) rfl ⟨hb6, trivial⟩ ?_
      refine xk_SI (As := [.int (((gA v2 4) (((x2 * (nI 3)) + x4)).toNatClampNeg) &&& (y5 ^^^ (-1 : Int32)))]) (rest := []) (idx := 149) (i0 := 149) (m1 := 225) (ps := [918, 919]) (by decide +kernel) (by decide +kernel) (by decide) rfl (Nat.le_of_ble_eq_true rfl) rfl h (fun y8 v7 h => ?_)
      refine xr_blk (lv1 := [(6, .int y8), (5, .int y5), (0, .ref 49), (1, .int x1), (2, .int x2), (3, .int x3), (4, .int x4)]) (st1 := [.int (-1), .int x3]) (S1 := rt v7) (pc1 := 75) [(.istore 6, .null, 0, 0), (.iload_n 3, .null, 0, 0), (.iconst (-1), .int (-1), 0, 0)] [] (by decide +kernel) rfl trivial ?_
      refine xr_ic_ne (tgt := 83) (off := 8) (by decide +kernel) (by decide) (fun hc => ?_) (fun hc => ?_)
      · replace h := h.1 hc
        refine xr_blk (lv1 := [(6, .int y8), (5, .int y5), (0, .ref 49), (1, .int x1), (2, .int x2), (3, .int x3), (4, .int x4)]) (st1 := [.int y8, .int x3]) (S1 := rt v7) (pc1 := 86) [(.iload_n 3, .null, 0, 0), (.iload 6, .null, 0, 0)] [] (by decide +kernel) rfl trivial ?_
        refine xr_mmin (idx := 154) (i0 := 154) (ps := [924, 703]) (by decide +kernel) (by decide +kernel) (by decide) (Nat.le_of_ble_eq_true rfl) ?_
        refine xr_topi (fun y9 ey9 => ?_)
        replace h := h y9 ey9
        refine xr_blk (lv1 := [(4, .int (x4 + (nI 1))), (3, .int y9), (6, .int y8), (5, .int y5), (0, .ref 49), (1, .int x1), (2, .int x2)]) (st1 := []) (S1 := rt v7) (pc1 := 93) [(.istore_n 3, .null, 0, 0), (.iinc 4 1, .int (nI 1), 0, 0)] [] (by decide +kernel) rfl trivial ?_
        refine xr_goto (tgt := 5) (off := -88) (by decide +kernel) (by decide) ?_
        exact x_R.sub [4, 5, 6, 1, 0] rfl h
      · replace h := h.2 hc
        refine xr_blk (lv1 := [(6, .int y8), (5, .int y5), (0, .ref 49), (1, .int x1), (2, .int x2), (3, .int x3), (4, .int x4)]) (st1 := [.int y8]) (S1 := rt v7) (pc1 := 80) [(.iload 6, .null, 0, 0)] [] (by decide +kernel) rfl trivial ?_
        refine xr_goto (tgt := 89) (off := 9) (by decide +kernel) (by decide) ?_
        refine xr_blk (lv1 := [(4, .int (x4 + (nI 1))), (3, .int y8), (6, .int y8), (5, .int y5), (0, .ref 49), (1, .int x1), (2, .int x2)]) (st1 := []) (S1 := rt v7) (pc1 := 93) [(.istore_n 3, .null, 0, 0), (.iinc 4 1, .int (nI 1), 0, 0)] [] (by decide +kernel) rfl trivial ?_
        refine xr_goto (tgt := 5) (off := -88) (by decide +kernel) (by decide) ?_
        exact x_R.sub [4, 5, 6, 1, 0] rfl h
theorem ok_58 : x_mOK 58 := ⟨x_tm4 (List.mem_of_getElem? (i := 93) rfl) rfl, 110, by decide +kernel⟩
/-! X6_mayForm: method 59, ScrawlHouse$Reader.mayForm(III)Z -/
set_option maxRecDepth 100000 in
theorem w_X6_mayForm_0 {E : Nat × (Nat → Int32)} {d : Nat} {v : xV} {x1 : Int32} {x2 : Int32} {x3 : Int32} {Q : Int32 → xV → Prop} (h : vp_in ((x2 * (nI 3)) + x3) 78 ∧ ∀ y2 : Int32, y2 = ((gA v 4) (((x2 * (nI 3)) + x3)).toNatClampNeg) → vp_in (((gI v 49 14) * (nI 24)) + x1) 1440 ∧ ∀ y4 : Int32, y4 = ((gA v 32) ((((gI v 49 14) * (nI 24)) + x1)).toNatClampNeg) → vp_in (((gI v 49 14) * (nI 24)) + x1) 1440 ∧ ∀ y6 : Int32, y6 = ((gA v 33) ((((gI v 49 14) * (nI 24)) + x1)).toNatClampNeg) → ((¬ (y2 &&& y4) = y4 → Q (nI 0) v) ∧ ((y2 &&& y4) = y4 → ((¬ (y2 &&& ((y4 ||| y6) ^^^ (-1 : Int32))) = (nI 0) → Q (nI 0) v) ∧ ((y2 &&& ((y4 ||| y6) ^^^ (-1 : Int32))) = (nI 0) → Q (nI 1) v))))) : RI E d 59 0 [(0, .ref 49), (1, .int x1), (2, .int x2), (3, .int x3)] v Q := by
  unfold RI
  obtain ⟨hb1, h⟩ := h
  refine xr_blk (lv1 := [(0, .ref 49), (1, .int x1), (2, .int x2), (3, .int x3)]) (st1 := [.int ((gA v 4) (((x2 * (nI 3)) + x3)).toNatClampNeg)]) (S1 := rt v) (pc1 := 13) [(.aload_n 0, .null, 0, 0), (.getfield 50, .null, 6, 0), (.getfield 146, .null, 3, 0), (.iload_n 2, .null, 0, 0), (.iconst 3, .int (nI 3), 0, 0), (.imul, .null, 0, 0), (.iload_n 3, .null, 0, 0), (.iadd, .null, 0, 0), (.iaload, .null, 0, 0)] [(((x2 * (nI 3)) + x3), 78)] (by decide +kernel) rfl ⟨hb1, trivial⟩ ?_
  refine xr_topi (fun y2 ey2 => ?_)
  replace h := h y2 ey2
  obtain ⟨hb3, h⟩ := h
  refine xr_blk (lv1 := [(4, .int y2), (0, .ref 49), (1, .int x1), (2, .int x2), (3, .int x3)]) (st1 := [.int ((gA v 32) ((((gI v 49 14) * (nI 24)) + x1)).toNatClampNeg)]) (S1 := rt v) (pc1 := 32) [(.istore 4, .null, 0, 0), (.aload_n 0, .null, 0, 0), (.getfield 58, .null, 6, 2), (.getfield 143, .null, 1, 6), (.aload_n 0, .null, 0, 0), (.getfield 43, .null, 6, 14), (.bipush 24, .int (nI 24), 0, 0), (.imul, .null, 0, 0), (.iload_n 1, .null, 0, 0), (.iadd, .null, 0, 0), (.iaload, .null, 0, 0)] [((((gI v 49 14) * (nI 24)) + x1), 1440)] (by decide +kernel) rfl ⟨hb3, trivial⟩ ?_
  refine xr_topi (fun y4 ey4 => ?_)
  replace h := h y4 ey4
  obtain ⟨hb5, h⟩ := h
  refine xr_blk (lv1 := [(5, .int y4), (4, .int y2), (0, .ref 49), (1, .int x1), (2, .int x2), (3, .int x3)]) (st1 := [.int ((gA v 33) ((((gI v 49 14) * (nI 24)) + x1)).toNatClampNeg)]) (S1 := rt v) (pc1 := 51) [(.istore 5, .null, 0, 0), (.aload_n 0, .null, 0, 0), (.getfield 58, .null, 6, 2), (.getfield 159, .null, 1, 7), (.aload_n 0, .null, 0, 0), (.getfield 43, .null, 6, 14), (.bipush 24, .int (nI 24), 0, 0), (.imul, .null, 0, 0), (.iload_n 1, .null, 0, 0), (.iadd, .null, 0, 0), (.iaload, .null, 0, 0)] [((((gI v 49 14) * (nI 24)) + x1), 1440)] (by decide +kernel) rfl ⟨hb5, trivial⟩ ?_
  refine xr_topi (fun y6 ey6 => ?_)
  replace h := h y6 ey6
  refine xr_blk (lv1 := [(6, .int y6), (5, .int y4), (4, .int y2), (0, .ref 49), (1, .int x1), (2, .int x2), (3, .int x3)]) (st1 := [.int y4, .int (y2 &&& y4)]) (S1 := rt v) (pc1 := 60) [(.istore 6, .null, 0, 0), (.iload 4, .null, 0, 0), (.iload 5, .null, 0, 0), (.iand, .null, 0, 0), (.iload 5, .null, 0, 0)] [] (by decide +kernel) rfl trivial ?_
  refine xr_ic_ne (tgt := 80) (off := 20) (by decide +kernel) (by decide) (fun hc => ?_) (fun hc => ?_)
  · replace h := h.1 hc
    refine xr_blk (lv1 := [(6, .int y6), (5, .int y4), (4, .int y2), (0, .ref 49), (1, .int x1), (2, .int x2), (3, .int x3)]) (st1 := [.int (nI 0)]) (S1 := rt v) (pc1 := 81) [(.iconst 0, .int (nI 0), 0, 0)] [] (by decide +kernel) rfl trivial ?_
    exact xr_zret (by decide +kernel) rfl x_in2_0 ⟨_, _, rfl, rfl, h⟩
  · replace h := h.2 hc
    refine xr_blk (lv1 := [(6, .int y6), (5, .int y4), (4, .int y2), (0, .ref 49), (1, .int x1), (2, .int x2), (3, .int x3)]) (st1 := [.int (y2 &&& ((y4 ||| y6) ^^^ (-1 : Int32)))]) (S1 := rt v) (pc1 := 73) [(.iload 4, .null, 0, 0), (.iload 5, .null, 0, 0), (.iload 6, .null, 0, 0), (.ior, .null, 0, 0), (.iconst (-1), .int (-1), 0, 0), (.ixor, .null, 0, 0), (.iand, .null, 0, 0)] [] (by decide +kernel) rfl trivial ?_
    refine xr_if_ne (tgt := 80) (off := 7) (by decide +kernel) (by decide) (fun hc => ?_) (fun hc => ?_)
    · replace h := h.1 hc
      refine xr_blk (lv1 := [(6, .int y6), (5, .int y4), (4, .int y2), (0, .ref 49), (1, .int x1), (2, .int x2), (3, .int x3)]) (st1 := [.int (nI 0)]) (S1 := rt v) (pc1 := 81) [(.iconst 0, .int (nI 0), 0, 0)] [] (by decide +kernel) rfl trivial ?_
      exact xr_zret (by decide +kernel) rfl x_in2_0 ⟨_, _, rfl, rfl, h⟩
    · replace h := h.2 hc
      refine xr_blk (lv1 := [(6, .int y6), (5, .int y4), (4, .int y2), (0, .ref 49), (1, .int x1), (2, .int x2), (3, .int x3)]) (st1 := [.int (nI 1)]) (S1 := rt v) (pc1 := 77) [(.iconst 1, .int (nI 1), 0, 0)] [] (by decide +kernel) rfl trivial ?_
      refine xr_goto (tgt := 81) (off := 4) (by decide +kernel) (by decide) ?_
      exact xr_zret (by decide +kernel) rfl x_in2_1 ⟨_, _, rfl, rfl, h⟩
theorem ok_59 : x_mOK 59 := ⟨x_tm4 (List.mem_of_getElem? (i := 97) rfl) rfl, 110, by decide +kernel⟩
/-! X6_weighLetters: method 60, ScrawlHouse$Reader.weighLetters()V -/
set_option maxRecDepth 100000 in
theorem w_X6_weighLetters_0 {E : Nat × (Nat → Int32)} {d : Nat} {v : xV} {Q : xV → Prop} (h : RV E (d + 1) 60 2 [(0, .ref 49), (1, .int (nI 0))] v Q) : RV E (d + 1) 60 0 [(0, .ref 49)] v Q := by
  unfold RV
  refine xr_blk (lv1 := [(1, .int (nI 0)), (0, .ref 49)]) (st1 := []) (S1 := rt v) (pc1 := 2) [(.iconst 0, .int (nI 0), 0, 0), (.istore_n 1, .null, 0, 0)] [] (by decide +kernel) rfl trivial ?_
  exact x_R.sub [1, 0] rfl h
set_option maxRecDepth 100000 in
theorem w_X6_weighLetters_2 {E : Nat × (Nat → Int32)} {d : Nat} {v : xV} {x1 : Int32} {Q : xV → Prop} (h : (((gI v 49 15) ≤ x1 → Q v) ∧ (¬ (gI v 49 15) ≤ x1 → RV E (d + 1) 60 12 [(0, .ref 49), (1, .int x1), (2, .int (nI 0))] v Q))) : RV E (d + 1) 60 2 [(0, .ref 49), (1, .int x1)] v Q := by
  unfold RV
  refine xr_blk (lv1 := [(0, .ref 49), (1, .int x1)]) (st1 := [.int (gI v 49 15), .int x1]) (S1 := rt v) (pc1 := 7) [(.iload_n 1, .null, 0, 0), (.aload_n 0, .null, 0, 0), (.getfield 47, .null, 6, 15)] [] (by decide +kernel) rfl trivial ?_
  refine xr_ic_ge (tgt := 54) (off := 47) (by decide +kernel) (by decide) (fun hc => ?_) (fun hc => ?_)
  · replace h := h.1 hc
    exact xr_ret0 (by decide +kernel) rfl ⟨_, rfl, rfl, h⟩
  · replace h := h.2 hc
    refine xr_blk (lv1 := [(2, .int (nI 0)), (0, .ref 49), (1, .int x1)]) (st1 := []) (S1 := rt v) (pc1 := 12) [(.iconst 0, .int (nI 0), 0, 0), (.istore_n 2, .null, 0, 0)] [] (by decide +kernel) rfl trivial ?_
    exact x_R.sub [1, 2, 0] rfl h
set_option maxRecDepth 100000 in
theorem w_X6_weighLetters_12 {E : Nat × (Nat → Int32)} {d : Nat} {v : xV} {x1 : Int32} {x2 : Int32} {Q : xV → Prop} (h : (((nI 26) ≤ x2 → vp_in x1 24 ∧ RV E (d + 1) 60 2 [(0, .ref 49), (1, .int (x1 + (nI 1)))] (v_A v 52 (upd (gA v 52) (x1).toNatClampNeg (nI 0))) Q) ∧ (¬ (nI 26) ≤ x2 → KI E d 57 [.ref 49, .int x1, .int x2] v (fun y3 v2 => vp_in ((x1 * (nI 26)) + x2) 624 ∧ RV E (d + 1) 60 12 [(0, .ref 49), (1, .int x1), (2, .int (x2 + (nI 1)))] (v_A v2 51 (upd (gA v2 51) (((x1 * (nI 26)) + x2)).toNatClampNeg y3)) Q)))) : RV E (d + 1) 60 12 [(0, .ref 49), (1, .int x1), (2, .int x2)] v Q := by
  unfold RV
  refine xr_blk (lv1 := [(0, .ref 49), (1, .int x1), (2, .int x2)]) (st1 := [.int (nI 26), .int x2]) (S1 := rt v) (pc1 := 15) [(.iload_n 2, .null, 0, 0), (.bipush 26, .int (nI 26), 0, 0)] [] (by decide +kernel) rfl trivial ?_
  refine xr_ic_ge (tgt := 41) (off := 26) (by decide +kernel) (by decide) (fun hc => ?_) (fun hc => ?_)
  · replace h := h.1 hc
    obtain ⟨hb1, h⟩ := h
    refine xr_blk (lv1 := [(1, .int (x1 + (nI 1))), (0, .ref 49), (2, .int x2)]) (st1 := []) (S1 := rt (v_A v 52 (upd (gA v 52) (x1).toNatClampNeg (nI 0)))) (pc1 := 51) [(.aload_n 0, .null, 0, 0), (.getfield 18, .null, 6, 6), (.iload_n 1, .null, 0, 0), (.iconst 0, .int (nI 0), 0, 0), (.bastore, .null, 0, 0), (.iinc 1 1, .int (nI 1), 0, 0)] [(x1, 24), ((nI 0), 2)] (by decide +kernel) rfl ⟨hb1, x_inl (by decide), trivial⟩ ?_
    refine xr_goto (tgt := 2) (off := -49) (by decide +kernel) (by decide) ?_
    exact x_R.sub [1, 0] rfl h
  · replace h := h.2 hc
    refine xr_blk (lv1 := [(0, .ref 49), (1, .int x1), (2, .int x2)]) (st1 := [.int x2, .int x1, .ref 49, .int ((x1 * (nI 26)) + x2), .ref 51]) (S1 := rt v) (pc1 := 31) [(.aload_n 0, .null, 0, 0), (.getfield 15, .null, 6, 5), (.iload_n 1, .null, 0, 0), (.bipush 26, .int (nI 26), 0, 0), (.imul, .null, 0, 0), (.iload_n 2, .null, 0, 0), (.iadd, .null, 0, 0), (.aload_n 0, .null, 0, 0), (.iload_n 1, .null, 0, 0), (.iload_n 2, .null, 0, 0)] [] (by decide +kernel) rfl trivial ?_
    refine xk_VI (As := [.int x1, .int x2]) (bb := 49) (rest := [.int ((x1 * (nI 26)) + x2), .ref 51]) (idx := 162) (i0 := 162) (m1 := 57) (ps := [957, 907, 908]) (by decide +kernel) (by decide +kernel) (by decide) rfl ((gK_s (by decide)).trans (by decide +kernel)) (by decide) (Nat.le_of_ble_eq_true rfl) rfl h (fun y3 v2 h => ?_)
    obtain ⟨hb4, h⟩ := h
    refine xr_blk (lv1 := [(2, .int (x2 + (nI 1))), (0, .ref 49), (1, .int x1)]) (st1 := []) (S1 := rt (v_A v2 51 (upd (gA v2 51) (((x1 * (nI 26)) + x2)).toNatClampNeg y3))) (pc1 := 38) [(.iastore, .null, 0, 0), (.iinc 2 1, .int (nI 1), 0, 0)] [(((x1 * (nI 26)) + x2), 624)] (by decide +kernel) rfl ⟨hb4, trivial⟩ ?_
    refine xr_goto (tgt := 12) (off := -26) (by decide +kernel) (by decide) ?_
    exact x_R.sub [1, 2, 0] rfl h
theorem ok_60 : x_mOK 60 := ⟨x_tm4 (List.mem_of_getElem? (i := 136) rfl) rfl, 110, by decide +kernel⟩
/-! X6_startSearch: method 61, ScrawlHouse$Reader.startSearch()V -/
set_option maxRecDepth 100000 in
theorem w_X6_startSearch_0 {E : Nat × (Nat → Int32)} {d : Nat} {v : xV} {Q : xV → Prop} (h : ∀ y1 : Int32, y1 = ((gI v 21 3) * (nI 25)) → gK v (gb v) = 100 ∧ ((y1 ≤ (Int32.ofNat (gN v (gb v))) → RV E (d + 1) 61 53 [(0, .ref 49), (1, .int y1)] v Q) ∧ (¬ y1 ≤ (Int32.ofNat (gN v (gb v))) → gK v (gb v) = 100 ∧ ∀ y4 : Int32, y4 = (if y1 < ((nI 2) * (Int32.ofNat (gN v (gb v)))) then ((nI 2) * (Int32.ofNat (gN v (gb v)))) else y1) → ∃ N : Nat, y4 = nI N ∧ 140 ≤ gn v ∧ gn v + 3 < x_ext0 ∧ N * 8 ≤ 536870912 ∧ RV E (d + 1) 61 53 [(0, .ref 49), (1, .int y1)] (v_grow v N) Q))) : RV E (d + 1) 61 0 [(0, .ref 49)] v Q := by
  unfold RV
  refine xr_blk (lv1 := [(0, .ref 49)]) (st1 := [.int ((gI v 21 3) * (nI 25))]) (S1 := rt v) (pc1 := 10) [(.aload_n 0, .null, 0, 0), (.getfield 54, .null, 6, 1), (.getfield 165, .null, 4, 3), (.bipush 25, .int (nI 25), 0, 0), (.imul, .null, 0, 0)] [] (by decide +kernel) rfl trivial ?_
  refine xr_topi (fun y1 ey1 => ?_)
  replace h := h y1 ey1
  refine xr_blk (lv1 := [(1, .int y1), (0, .ref 49)]) (st1 := [.ref (gb v)]) (S1 := rt v) (pc1 := 15) [(.istore_n 1, .null, 0, 0), (.aload_n 0, .null, 0, 0), (.getfield 34, .null, 6, 11)] [] (by decide +kernel) rfl trivial ?_
  obtain ⟨hk2, h⟩ := h
  refine xr_alen (by decide +kernel) hk2 ?_
  show x_R E (d + 1) 61 16 [(1, .int y1), (0, .ref 49)] [.int (Int32.ofNat (gN v (gb v)))] (rt v) _
  refine xr_blk (lv1 := [(1, .int y1), (0, .ref 49)]) (st1 := [.int y1, .int (Int32.ofNat (gN v (gb v)))]) (S1 := rt v) (pc1 := 17) [(.iload_n 1, .null, 0, 0)] [] (by decide +kernel) rfl trivial ?_
  refine xr_ic_ge (tgt := 53) (off := 36) (by decide +kernel) (by decide) (fun hc => ?_) (fun hc => ?_)
  · replace h := h.1 hc
    exact x_R.sub [1, 0] rfl h
  · replace h := h.2 hc
    refine xr_blk (lv1 := [(1, .int y1), (0, .ref 49)]) (st1 := [.ref (gb v), .int (nI 2), .int y1]) (S1 := rt v) (pc1 := 26) [(.iload_n 1, .null, 0, 0), (.iconst 2, .int (nI 2), 0, 0), (.aload_n 0, .null, 0, 0), (.getfield 34, .null, 6, 11)] [] (by decide +kernel) rfl trivial ?_
    obtain ⟨hk3, h⟩ := h
    refine xr_alen (by decide +kernel) hk3 ?_
    show x_R E (d + 1) 61 27 [(1, .int y1), (0, .ref 49)] [.int (Int32.ofNat (gN v (gb v))), .int (nI 2), .int y1] (rt v) _
    refine xr_blk (lv1 := [(1, .int y1), (0, .ref 49)]) (st1 := [.int ((nI 2) * (Int32.ofNat (gN v (gb v)))), .int y1]) (S1 := rt v) (pc1 := 28) [(.imul, .null, 0, 0)] [] (by decide +kernel) rfl trivial ?_
    refine xr_mmax (idx := 170) (i0 := 170) (ps := [962, 963]) (by decide +kernel) (by decide +kernel) (by decide) (Nat.le_of_ble_eq_true rfl) ?_
    refine xr_topi (fun y4 ey4 => ?_)
    replace h := h y4 ey4
    refine xr_blk (lv1 := [(2, .int y4), (1, .int y1), (0, .ref 49)]) (st1 := []) (S1 := rt v) (pc1 := 32) [(.istore_n 2, .null, 0, 0)] [] (by decide +kernel) rfl trivial ?_
    obtain ⟨N, eN, g1, g2, g3, h⟩ := h
    subst eN
    refine x_R.sub [2, 1, 0] rfl (xr_grow g1 g2 g3 ?_)
    exact x_R.sub [0, 1] rfl h
set_option maxRecDepth 100000 in
theorem w_X6_startSearch_53 {E : Nat × (Nat → Int32)} {d : Nat} {v : xV} {x1 : Int32} {Q : xV → Prop} (h : KV E d 231 [.ref (gb v), .int (nI 0), .int x1, .int (-2)] v (fun v1 => Q v1)) : RV E (d + 1) 61 53 [(0, .ref 49), (1, .int x1)] v Q := by
  unfold RV
  refine xr_blk (lv1 := [(0, .ref 49), (1, .int x1)]) (st1 := [.int (-2), .int x1, .int (nI 0), .ref (gb v)]) (S1 := rt v) (pc1 := 61) [(.aload_n 0, .null, 0, 0), (.getfield 34, .null, 6, 11), (.iconst 0, .int (nI 0), 0, 0), (.iload_n 1, .null, 0, 0), (.bipush (-2), .int (-2), 0, 0)] [] (by decide +kernel) rfl trivial ?_
  refine xk_SV (As := [.ref (gb v), .int (nI 0), .int x1, .int (-2)]) (rest := []) (idx := 173) (i0 := 173) (m1 := 231) (ps := [965, 948]) (by decide +kernel) (by decide +kernel) (by decide) rfl (Nat.le_of_ble_eq_true rfl) rfl h (fun v1 h => ?_)
  exact xr_ret0 (by decide +kernel) rfl ⟨_, rfl, rfl, h⟩
theorem ok_61 : x_mOK 61 := ⟨x_tm4 (List.mem_of_getElem? (i := 141) rfl) rfl, 110, by decide +kernel⟩

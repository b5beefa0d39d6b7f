/-! X9_leastWay: method 85, ScrawlHouse$Town.leastWay(I)I -/
set_option maxRecDepth 100000 in
theorem w_X9_leastWay_0 {E : Nat × (Nat → Int32)} {d : Nat} {v : xV} {x1 : Int32} {Q : Int32 → xV → Prop} (h : KV E d 86 [.ref 11, .int x1] v (fun v1 => ((¬ (gI v1 11 5) = (nI 0) → RI E (d + 1) 85 16 [(0, .ref 11), (2, .int (nI 1))] v1 Q) ∧ ((gI v1 11 5) = (nI 0) → Q (nI 0) v1)))) : RI E (d + 1) 85 0 [(0, .ref 11), (1, .int x1)] v Q := by
  unfold RI
  refine xr_blk (lv1 := [(0, .ref 11), (1, .int x1)]) (st1 := [.int x1, .ref 11]) (S1 := rt v) (pc1 := 2) [(.aload_n 0, .null, 0, 0), (.iload_n 1, .null, 0, 0)] [] (by decide +kernel) rfl trivial ?_
  refine xk_VV (As := [.int x1]) (bb := 11) (rest := []) (idx := 58) (i0 := 58) (m1 := 86) (ps := [1238, 1240, 53]) (by decide +kernel) (by decide +kernel) (by decide) rfl ((gK_s (by decide)).trans (by decide +kernel)) (by decide) (Nat.le_of_ble_eq_true rfl) rfl h (fun v1 h => ?_)
  refine xr_blk (lv1 := [(0, .ref 11), (1, .int x1)]) (st1 := [.int (gI v1 11 5)]) (S1 := rt v1) (pc1 := 9) [(.aload_n 0, .null, 0, 0), (.getfield 27, .null, 9, 5)] [] (by decide +kernel) rfl trivial ?_
  refine xr_if_ne (tgt := 14) (off := 5) (by decide +kernel) (by decide) (fun hc => ?_) (fun hc => ?_)
  · replace h := h.1 hc
    refine xr_blk (lv1 := [(2, .int (nI 1)), (0, .ref 11), (1, .int x1)]) (st1 := []) (S1 := rt v1) (pc1 := 16) [(.iconst 1, .int (nI 1), 0, 0), (.istore_n 2, .null, 0, 0)] [] (by decide +kernel) rfl trivial ?_
    exact x_R.sub [1, 0] rfl h
  · replace h := h.2 hc
    refine xr_blk (lv1 := [(0, .ref 11), (1, .int x1)]) (st1 := [.int (nI 0)]) (S1 := rt v1) (pc1 := 13) [(.iconst 0, .int (nI 0), 0, 0)] [] (by decide +kernel) rfl trivial ?_
    exact xr_iret (by decide +kernel) rfl ⟨_, _, rfl, rfl, h⟩
set_option maxRecDepth 100000 in
theorem w_X9_leastWay_16 {E : Nat × (Nat → Int32)} {d : Nat} {v : xV} {x2 : Int32} {Q : Int32 → xV → Prop} (h : (((gI v 11 5) ≤ x2 → ∀ y1 : Int32, y1 = (((nI 1) <<< ((gI v 11 5) &&& 31)) - (nI 1)) → RI E (d + 1) 85 55 [(0, .ref 11), (2, .int y1), (3, .int (nI 1))] v Q) ∧ (¬ (gI v 11 5) ≤ x2 → KI E d 87 [.ref 11, .int (nI 0), .int x2] v (fun y3 v2 => ((y3 < (nI 1000000) → RI E (d + 1) 85 16 [(0, .ref 11), (2, .int (x2 + (nI 1)))] v2 Q) ∧ (¬ y3 < (nI 1000000) → Q (-2 : Int32) v2)))))) : RI E (d + 1) 85 16 [(0, .ref 11), (2, .int x2)] v Q := by
  unfold RI
  refine xr_blk (lv1 := [(0, .ref 11), (2, .int x2)]) (st1 := [.int (gI v 11 5), .int x2]) (S1 := rt v) (pc1 := 21) [(.iload_n 2, .null, 0, 0), (.aload_n 0, .null, 0, 0), (.getfield 27, .null, 9, 5)] [] (by decide +kernel) rfl trivial ?_
  refine xr_ic_ge (tgt := 44) (off := 23) (by decide +kernel) (by decide) (fun hc => ?_) (fun hc => ?_)
  · replace h := h.1 hc
    refine xr_blk (lv1 := [(0, .ref 11), (2, .int x2)]) (st1 := [.int (((nI 1) <<< ((gI v 11 5) &&& 31)) - (nI 1))]) (S1 := rt v) (pc1 := 52) [(.iconst 1, .int (nI 1), 0, 0), (.aload_n 0, .null, 0, 0), (.getfield 27, .null, 9, 5), (.ishl, .null, 0, 0), (.iconst 1, .int (nI 1), 0, 0), (.isub, .null, 0, 0)] [] (by decide +kernel) rfl trivial ?_
    refine xr_topi (fun y1 ey1 => ?_)
    replace h := h y1 ey1
    refine xr_blk (lv1 := [(3, .int (nI 1)), (2, .int y1), (0, .ref 11)]) (st1 := []) (S1 := rt v) (pc1 := 55) [(.istore_n 2, .null, 0, 0), (.iconst 1, .int (nI 1), 0, 0), (.istore_n 3, .null, 0, 0)] [] (by decide +kernel) rfl trivial ?_
    exact x_R.sub [2, 1, 0] rfl h
  · replace h := h.2 hc
    refine xr_blk (lv1 := [(0, .ref 11), (2, .int x2)]) (st1 := [.int x2, .int (nI 0), .ref 11]) (S1 := rt v) (pc1 := 27) [(.aload_n 0, .null, 0, 0), (.iconst 0, .int (nI 0), 0, 0), (.iload_n 2, .null, 0, 0)] [] (by decide +kernel) rfl trivial ?_
    refine xk_VI (As := [.int (nI 0), .int x2]) (bb := 11) (rest := []) (idx := 62) (i0 := 62) (m1 := 87) (ps := [1242, 1244, 54]) (by decide +kernel) (by decide +kernel) (by decide) rfl ((gK_s (by decide)).trans (by decide +kernel)) (by decide) (Nat.le_of_ble_eq_true rfl) rfl h (fun y3 v2 h => ?_)
    refine xr_blk (lv1 := [(0, .ref 11), (2, .int x2)]) (st1 := [.int (nI 1000000), .int y3]) (S1 := rt v2) (pc1 := 32) [(.ldc 37, .int (nI 1000000), 0, 0)] [] (by decide +kernel) rfl trivial ?_
    refine xr_ic_lt (tgt := 38) (off := 6) (by decide +kernel) (by decide) (fun hc => ?_) (fun hc => ?_)
    · replace h := h.1 hc
      refine xr_blk (lv1 := [(2, .int (x2 + (nI 1))), (0, .ref 11)]) (st1 := []) (S1 := rt v2) (pc1 := 41) [(.iinc 2 1, .int (nI 1), 0, 0)] [] (by decide +kernel) rfl trivial ?_
      refine xr_goto (tgt := 16) (off := -25) (by decide +kernel) (by decide) ?_
      exact x_R.sub [1, 0] rfl h
    · replace h := h.2 hc
      refine xr_blk (lv1 := [(0, .ref 11), (2, .int x2)]) (st1 := [.int (-2)]) (S1 := rt v2) (pc1 := 37) [(.bipush (-2), .int (-2), 0, 0)] [] (by decide +kernel) rfl trivial ?_
      exact xr_iret (by decide +kernel) rfl ⟨_, _, rfl, rfl, h⟩
set_option maxRecDepth 100000 in
theorem w_X9_leastWay_55 {E : Nat × (Nat → Int32)} {d : Nat} {v : xV} {x2 : Int32} {x3 : Int32} {Q : Int32 → xV → Prop} (h : ((x2 < x3 → RI E (d + 1) 85 109 [(0, .ref 11), (2, .int x2), (3, .int (nI 1000000)), (4, .int (nI 0))] v Q) ∧ (¬ x2 < x3 → RI E (d + 1) 85 63 [(0, .ref 11), (2, .int x2), (3, .int x3), (4, .int (nI 0))] v Q))) : RI E (d + 1) 85 55 [(0, .ref 11), (2, .int x2), (3, .int x3)] v Q := by
  unfold RI
  refine xr_blk (lv1 := [(0, .ref 11), (2, .int x2), (3, .int x3)]) (st1 := [.int x2, .int x3]) (S1 := rt v) (pc1 := 57) [(.iload_n 3, .null, 0, 0), (.iload_n 2, .null, 0, 0)] [] (by decide +kernel) rfl trivial ?_
  refine xr_ic_gt (tgt := 103) (off := 46) (by decide +kernel) (by decide) (fun hc => ?_) (fun hc => ?_)
  · replace h := h.1 hc
    refine xr_blk (lv1 := [(4, .int (nI 0)), (3, .int (nI 1000000)), (0, .ref 11), (2, .int x2)]) (st1 := []) (S1 := rt v) (pc1 := 109) [(.ldc 37, .int (nI 1000000), 0, 0), (.istore_n 3, .null, 0, 0), (.iconst 0, .int (nI 0), 0, 0), (.istore 4, .null, 0, 0)] [] (by decide +kernel) rfl trivial ?_
    exact x_R.sub [2, 3, 1, 0] rfl h
  · replace h := h.2 hc
    refine xr_blk (lv1 := [(4, .int (nI 0)), (0, .ref 11), (2, .int x2), (3, .int x3)]) (st1 := []) (S1 := rt v) (pc1 := 63) [(.iconst 0, .int (nI 0), 0, 0), (.istore 4, .null, 0, 0)] [] (by decide +kernel) rfl trivial ?_
    exact x_R.sub [1, 2, 3, 0] rfl h
set_option maxRecDepth 100000 in
theorem w_X9_leastWay_63 {E : Nat × (Nat → Int32)} {d : Nat} {v : xV} {x2 : Int32} {x3 : Int32} {x4 : Int32} {Q : Int32 → xV → Prop} (h : (((gI v 11 5) ≤ x4 → RI E (d + 1) 85 55 [(0, .ref 11), (2, .int x2), (3, .int (x3 + (nI 1)))] v Q) ∧ (¬ (gI v 11 5) ≤ x4 → KI E d 88 [.ref 11, .int x3, .int x4] v (fun y2 v1 => vp_in ((x3 * (nI 8)) + x4) 2048 ∧ RI E (d + 1) 85 63 [(0, .ref 11), (2, .int x2), (3, .int x3), (4, .int (x4 + (nI 1)))] (v_A v1 16 (upd (gA v1 16) (((x3 * (nI 8)) + x4)).toNatClampNeg y2)) Q)))) : RI E (d + 1) 85 63 [(0, .ref 11), (2, .int x2), (3, .int x3), (4, .int x4)] v Q := by
  unfold RI
  refine xr_blk (lv1 := [(0, .ref 11), (2, .int x2), (3, .int x3), (4, .int x4)]) (st1 := [.int (gI v 11 5), .int x4]) (S1 := rt v) (pc1 := 69) [(.iload 4, .null, 0, 0), (.aload_n 0, .null, 0, 0), (.getfield 27, .null, 9, 5)] [] (by decide +kernel) rfl trivial ?_
  refine xr_ic_ge (tgt := 97) (off := 28) (by decide +kernel) (by decide) (fun hc => ?_) (fun hc => ?_)
  · replace h := h.1 hc
    refine xr_blk (lv1 := [(3, .int (x3 + (nI 1))), (0, .ref 11), (2, .int x2), (4, .int x4)]) (st1 := []) (S1 := rt v) (pc1 := 100) [(.iinc 3 1, .int (nI 1), 0, 0)] [] (by decide +kernel) rfl trivial ?_
    refine xr_goto (tgt := 55) (off := -45) (by decide +kernel) (by decide) ?_
    exact x_R.sub [1, 2, 0] rfl h
  · replace h := h.2 hc
    refine xr_blk (lv1 := [(0, .ref 11), (2, .int x2), (3, .int x3), (4, .int x4)]) (st1 := [.int x4, .int x3, .ref 11, .int ((x3 * (nI 8)) + x4), .ref 16]) (S1 := rt v) (pc1 := 87) [(.aload_n 0, .null, 0, 0), (.getfield 24, .null, 9, 4), (.iload_n 3, .null, 0, 0), (.bipush 8, .int (nI 8), 0, 0), (.imul, .null, 0, 0), (.iload 4, .null, 0, 0), (.iadd, .null, 0, 0), (.aload_n 0, .null, 0, 0), (.iload_n 3, .null, 0, 0), (.iload 4, .null, 0, 0)] [] (by decide +kernel) rfl trivial ?_
    refine xk_VI (As := [.int x3, .int x4]) (bb := 11) (rest := [.int ((x3 * (nI 8)) + x4), .ref 16]) (idx := 65) (i0 := 65) (m1 := 88) (ps := [1246, 1248, 55]) (by decide +kernel) (by decide +kernel) (by decide) rfl ((gK_s (by decide)).trans (by decide +kernel)) (by decide) (Nat.le_of_ble_eq_true rfl) rfl h (fun y2 v1 h => ?_)
    obtain ⟨hb3, h⟩ := h
    refine xr_blk (lv1 := [(4, .int (x4 + (nI 1))), (0, .ref 11), (2, .int x2), (3, .int x3)]) (st1 := []) (S1 := rt (v_A v1 16 (upd (gA v1 16) (((x3 * (nI 8)) + x4)).toNatClampNeg y2))) (pc1 := 94) [(.iastore, .null, 0, 0), (.iinc 4 1, .int (nI 1), 0, 0)] [(((x3 * (nI 8)) + x4), 2048)] (by decide +kernel) rfl ⟨hb3, trivial⟩ ?_
    refine xr_goto (tgt := 63) (off := -31) (by decide +kernel) (by decide) ?_
    exact x_R.sub [1, 2, 3, 0] rfl h
set_option maxRecDepth 100000 in
theorem w_X9_leastWay_109 {E : Nat × (Nat → Int32)} {d : Nat} {v : xV} {x2 : Int32} {x3 : Int32} {x4 : Int32} {Q : Int32 → xV → Prop} (h : (((gI v 11 5) ≤ x4 → Q x3 v) ∧ (¬ (gI v 11 5) ≤ x4 → vp_in ((x2 * (nI 8)) + x4) 2048 ∧ ∀ y2 : Int32, y2 = (if ((gA v 16) (((x2 * (nI 8)) + x4)).toNatClampNeg) < x3 then ((gA v 16) (((x2 * (nI 8)) + x4)).toNatClampNeg) else x3) → RI E (d + 1) 85 109 [(0, .ref 11), (2, .int x2), (3, .int y2), (4, .int (x4 + (nI 1)))] v Q))) : RI E (d + 1) 85 109 [(0, .ref 11), (2, .int x2), (3, .int x3), (4, .int x4)] v Q := by
  unfold RI
  refine xr_blk (lv1 := [(0, .ref 11), (2, .int x2), (3, .int x3), (4, .int x4)]) (st1 := [.int (gI v 11 5), .int x4]) (S1 := rt v) (pc1 := 115) [(.iload 4, .null, 0, 0), (.aload_n 0, .null, 0, 0), (.getfield 27, .null, 9, 5)] [] (by decide +kernel) rfl trivial ?_
  refine xr_ic_ge (tgt := 141) (off := 26) (by decide +kernel) (by decide) (fun hc => ?_) (fun hc => ?_)
  · replace h := h.1 hc
    refine xr_blk (lv1 := [(0, .ref 11), (2, .int x2), (3, .int x3), (4, .int x4)]) (st1 := [.int x3]) (S1 := rt v) (pc1 := 142) [(.iload_n 3, .null, 0, 0)] [] (by decide +kernel) rfl trivial ?_
    exact xr_iret (by decide +kernel) rfl ⟨_, _, rfl, rfl, h⟩
  · replace h := h.2 hc
    obtain ⟨hb1, h⟩ := h
    refine xr_blk (lv1 := [(0, .ref 11), (2, .int x2), (3, .int x3), (4, .int x4)]) (st1 := [.int ((gA v 16) (((x2 * (nI 8)) + x4)).toNatClampNeg), .int x3]) (S1 := rt v) (pc1 := 131) [(.iload_n 3, .null, 0, 0), (.aload_n 0, .null, 0, 0), (.getfield 24, .null, 9, 4), (.iload_n 2, .null, 0, 0), (.bipush 8, .int (nI 8), 0, 0), (.imul, .null, 0, 0), (.iload 4, .null, 0, 0), (.iadd, .null, 0, 0), (.iaload, .null, 0, 0)] [(((x2 * (nI 8)) + x4), 2048)] (by decide +kernel) rfl ⟨hb1, trivial⟩ ?_
    refine xr_mmin (idx := 52) (i0 := 52) (ps := [702, 703]) (by decide +kernel) (by decide +kernel) (by decide) (Nat.le_of_ble_eq_true rfl) ?_
    refine xr_topi (fun y2 ey2 => ?_)
    replace h := h y2 ey2
    refine xr_blk (lv1 := [(4, .int (x4 + (nI 1))), (3, .int y2), (0, .ref 11), (2, .int x2)]) (st1 := []) (S1 := rt v) (pc1 := 138) [(.istore_n 3, .null, 0, 0), (.iinc 4 1, .int (nI 1), 0, 0)] [] (by decide +kernel) rfl trivial ?_
    refine xr_goto (tgt := 109) (off := -29) (by decide +kernel) (by decide) ?_
    exact x_R.sub [2, 3, 1, 0] rfl h
theorem ok_85 : x_mOK 85 := ⟨x_tm5 (List.mem_of_getElem? (i := 177) rfl) rfl, 104, by decide +kernel⟩
/-! X9_gatherStops: method 86, ScrawlHouse$Town.gatherStops(I)V -/
set_option maxRecDepth 100000 in
theorem w_X9_gatherStops_0 {E : Nat × (Nat → Int32)} {d : Nat} {v : xV} {x1 : Int32} {Q : xV → Prop} (h : RV E d 86 9 [(0, .ref 11), (1, .int x1), (2, .int (nI 0)), (3, .int (nI 0))] (v_I v 11 5 (nI 0)) Q) : RV E d 86 0 [(0, .ref 11), (1, .int x1)] v Q := by
  unfold RV
  refine xr_blk (lv1 := [(3, .int (nI 0)), (2, .int (nI 0)), (0, .ref 11), (1, .int x1)]) (st1 := []) (S1 := rt (v_I v 11 5 (nI 0))) (pc1 := 9) [(.aload_n 0, .null, 0, 0), (.iconst 0, .int (nI 0), 0, 0), (.putfield 27, .null, 9, 5), (.iconst 0, .int (nI 0), 0, 0), (.istore_n 2, .null, 0, 0), (.iconst 0, .int (nI 0), 0, 0), (.istore_n 3, .null, 0, 0)] [] (by decide +kernel) rfl trivial ?_
  exact x_R.sub [2, 3, 1, 0] rfl h
set_option maxRecDepth 100000 in
theorem w_X9_gatherStops_9 {E : Nat × (Nat → Int32)} {d : Nat} {v : xV} {x1 : Int32} {x2 : Int32} {x3 : Int32} {Q : xV → Prop} (h : (((gI v 11 7) ≤ x3 → Q v) ∧ (¬ (gI v 11 7) ≤ x3 → vp_in x3 8 ∧ ∀ y2 : Int32, y2 = ((nI 1) <<< (((gA v 13) (x3).toNatClampNeg) &&& 31)) → (((x1 &&& ((nI 1) <<< (x3 &&& 31))) = (nI 0) → RV E d 86 9 [(0, .ref 11), (1, .int x1), (2, .int x2), (3, .int (x3 + (nI 1)))] v Q) ∧ (¬ (x1 &&& ((nI 1) <<< (x3 &&& 31))) = (nI 0) → ((¬ (x2 &&& y2) = (nI 0) → RV E d 86 9 [(0, .ref 11), (1, .int x1), (2, .int x2), (3, .int (x3 + (nI 1)))] v Q) ∧ ((x2 &&& y2) = (nI 0) → ∀ y3 : Int32, y3 = (x2 ||| y2) → vp_in x3 8 ∧ vp_in (gI v 11 5) 8 ∧ RV E d 86 9 [(0, .ref 11), (1, .int x1), (2, .int y3), (3, .int (x3 + (nI 1)))] (v_I (v_A v 15 (upd (gA v 15) ((gI v 11 5)).toNatClampNeg ((gA v 13) (x3).toNatClampNeg))) 11 5 ((gI v 11 5) + (nI 1))) Q))))))) : RV E d 86 9 [(0, .ref 11), (1, .int x1), (2, .int x2), (3, .int x3)] v Q := by
  unfold RV
  refine xr_blk (lv1 := [(0, .ref 11), (1, .int x1), (2, .int x2), (3, .int x3)]) (st1 := [.int (gI v 11 7), .int x3]) (S1 := rt v) (pc1 := 14) [(.iload_n 3, .null, 0, 0), (.aload_n 0, .null, 0, 0), (.getfield 34, .null, 9, 7)] [] (by decide +kernel) rfl trivial ?_
  refine xr_ic_ge (tgt := 78) (off := 64) (by decide +kernel) (by decide) (fun hc => ?_) (fun hc => ?_)
  · replace h := h.1 hc
    exact xr_ret0 (by decide +kernel) rfl ⟨_, rfl, rfl, h⟩
  · replace h := h.2 hc
    obtain ⟨hb1, h⟩ := h
    refine xr_blk (lv1 := [(0, .ref 11), (1, .int x1), (2, .int x2), (3, .int x3)]) (st1 := [.int ((nI 1) <<< (((gA v 13) (x3).toNatClampNeg) &&& 31))]) (S1 := rt v) (pc1 := 25) [(.iconst 1, .int (nI 1), 0, 0), (.aload_n 0, .null, 0, 0), (.getfield 15, .null, 9, 1), (.iload_n 3, .null, 0, 0), (.iaload, .null, 0, 0), (.ishl, .null, 0, 0)] [(x3, 8)] (by decide +kernel) rfl ⟨hb1, trivial⟩ ?_
    refine xr_topi (fun y2 ey2 => ?_)
    replace h := h y2 ey2
    refine xr_blk (lv1 := [(4, .int y2), (0, .ref 11), (1, .int x1), (2, .int x2), (3, .int x3)]) (st1 := [.int (x1 &&& ((nI 1) <<< (x3 &&& 31)))]) (S1 := rt v) (pc1 := 32) [(.istore 4, .null, 0, 0), (.iload_n 1, .null, 0, 0), (.iconst 1, .int (nI 1), 0, 0), (.iload_n 3, .null, 0, 0), (.ishl, .null, 0, 0), (.iand, .null, 0, 0)] [] (by decide +kernel) rfl trivial ?_
    refine xr_if_eq (tgt := 72) (off := 40) (by decide +kernel) (by decide) (fun hc => ?_) (fun hc => ?_)
    · replace h := h.1 hc
      refine xr_blk (lv1 := [(3, .int (x3 + (nI 1))), (4, .int y2), (0, .ref 11), (1, .int x1), (2, .int x2)]) (st1 := []) (S1 := rt v) (pc1 := 75) [(.iinc 3 1, .int (nI 1), 0, 0)] [] (by decide +kernel) rfl trivial ?_
      refine xr_goto (tgt := 9) (off := -66) (by decide +kernel) (by decide) ?_
      exact x_R.sub [2, 3, 4, 0] rfl h
    · replace h := h.2 hc
      refine xr_blk (lv1 := [(4, .int y2), (0, .ref 11), (1, .int x1), (2, .int x2), (3, .int x3)]) (st1 := [.int (x2 &&& y2)]) (S1 := rt v) (pc1 := 39) [(.iload_n 2, .null, 0, 0), (.iload 4, .null, 0, 0), (.iand, .null, 0, 0)] [] (by decide +kernel) rfl trivial ?_
      refine xr_if_ne (tgt := 72) (off := 33) (by decide +kernel) (by decide) (fun hc => ?_) (fun hc => ?_)
      · replace h := h.1 hc
        refine xr_blk (lv1 := [(3, .int (x3 + (nI 1))), (4, .int y2), (0, .ref 11), (1, .int x1), (2, .int x2)]) (st1 := []) (S1 := rt v) (pc1 := 75) [(.iinc 3 1, .int (nI 1), 0, 0)] [] (by decide +kernel) rfl trivial ?_
        refine xr_goto (tgt := 9) (off := -66) (by decide +kernel) (by decide) ?_
        exact x_R.sub [2, 3, 4, 0] rfl h
      · replace h := h.2 hc
        refine xr_blk (lv1 := [(4, .int y2), (0, .ref 11), (1, .int x1), (2, .int x2), (3, .int x3)]) (st1 := [.int (x2 ||| y2)]) (S1 := rt v) (pc1 := 46) [(.iload_n 2, .null, 0, 0), (.iload 4, .null, 0, 0), (.ior, .null, 0, 0)] [] (by decide +kernel) rfl trivial ?_
        refine xr_topi (fun y3 ey3 => ?_)
        replace h := h y3 ey3
        obtain ⟨hb4, h⟩ := h
        obtain ⟨hb5, h⟩ := h
        refine xr_blk (lv1 := [(3, .int (x3 + (nI 1))), (2, .int y3), (4, .int y2), (0, .ref 11), (1, .int x1)]) (st1 := []) (S1 := rt (v_I (v_A v 15 (upd (gA v 15) ((gI v 11 5)).toNatClampNeg ((gA v 13) (x3).toNatClampNeg))) 11 5 ((gI v 11 5) + (nI 1)))) (pc1 := 75) [(.istore_n 2, .null, 0, 0), (.aload_n 0, .null, 0, 0), (.getfield 21, .null, 9, 3), (.aload_n 0, .null, 0, 0), (.getfield 27, .null, 9, 5), (.aload_n 0, .null, 0, 0), (.getfield 15, .null, 9, 1), (.iload_n 3, .null, 0, 0), (.iaload, .null, 0, 0), (.iastore, .null, 0, 0), (.aload_n 0, .null, 0, 0), (.dup, .null, 0, 0), (.getfield 27, .null, 9, 5), (.iconst 1, .int (nI 1), 0, 0), (.iadd, .null, 0, 0), (.putfield 27, .null, 9, 5), (.iinc 3 1, .int (nI 1), 0, 0)] [(x3, 8), ((gI v 11 5), 8)] (by decide +kernel) rfl ⟨hb4, hb5, trivial⟩ ?_
        refine xr_goto (tgt := 9) (off := -66) (by decide +kernel) (by decide) ?_
        exact x_R.sub [3, 4, 1, 0] rfl h
theorem ok_86 : x_mOK 86 := ⟨x_tm5 (List.mem_of_getElem? (i := 181) rfl) rfl, 104, by decide +kernel⟩
/-! X9_way: method 87, ScrawlHouse$Town.way(II)I -/
set_option maxRecDepth 100000 in
theorem w_X9_way_0 {E : Nat × (Nat → Int32)} {d : Nat} {v : xV} {x1 : Int32} {x2 : Int32} {Q : Int32 → xV → Prop} (h : vp_in x1 8 ∧ vp_in x2 8 ∧ vp_in ((((gA v 15) (x1).toNatClampNeg) * (nI 12)) + ((gA v 15) (x2).toNatClampNeg)) 144 ∧ Q ((gA v 12) (((((gA v 15) (x1).toNatClampNeg) * (nI 12)) + ((gA v 15) (x2).toNatClampNeg))).toNatClampNeg) v) : RI E d 87 0 [(0, .ref 11), (1, .int x1), (2, .int x2)] v Q := by
  unfold RI
  obtain ⟨hb1, h⟩ := h
  obtain ⟨hb2, h⟩ := h
  obtain ⟨hb3, h⟩ := h
  refine xr_blk (lv1 := [(0, .ref 11), (1, .int x1), (2, .int x2)]) (st1 := [.int ((gA v 12) (((((gA v 15) (x1).toNatClampNeg) * (nI 12)) + ((gA v 15) (x2).toNatClampNeg))).toNatClampNeg)]) (S1 := rt v) (pc1 := 21) [(.aload_n 0, .null, 0, 0), (.getfield 9, .null, 9, 0), (.aload_n 0, .null, 0, 0), (.getfield 21, .null, 9, 3), (.iload_n 1, .null, 0, 0), (.iaload, .null, 0, 0), (.bipush 12, .int (nI 12), 0, 0), (.imul, .null, 0, 0), (.aload_n 0, .null, 0, 0), (.getfield 21, .null, 9, 3), (.iload_n 2, .null, 0, 0), (.iaload, .null, 0, 0), (.iadd, .null, 0, 0), (.iaload, .null, 0, 0)] [(x1, 8), (x2, 8), (((((gA v 15) (x1).toNatClampNeg) * (nI 12)) + ((gA v 15) (x2).toNatClampNeg)), 144)] (by decide +kernel) rfl ⟨hb1, hb2, hb3, trivial⟩ ?_
  exact xr_iret (by decide +kernel) rfl ⟨_, _, rfl, rfl, h⟩
theorem ok_87 : x_mOK 87 := ⟨x_tm5 (List.mem_of_getElem? (i := 185) rfl) rfl, 104, by decide +kernel⟩
/-! X9_shortestTour: method 88, ScrawlHouse$Town.shortestTour(II)I -/
set_option maxRecDepth 100000 in
theorem w_X9_shortestTour_0 {E : Nat × (Nat → Int32)} {d : Nat} {v : xV} {x1 : Int32} {x2 : Int32} {Q : Int32 → xV → Prop} (h : ∀ y1 : Int32, y1 = ((nI 1) <<< (x2 &&& 31)) → ((¬ (x1 &&& y1) = (nI 0) → ∀ y2 : Int32, y2 = (x1 &&& (y1 ^^^ (-1 : Int32))) → ((¬ y2 = (nI 0) → RI E (d + 1) 88 34 [(0, .ref 11), (2, .int x2), (4, .int y2), (5, .int (nI 1000000)), (6, .int (nI 0))] v Q) ∧ (y2 = (nI 0) → Q (nI 0) v))) ∧ ((x1 &&& y1) = (nI 0) → Q (nI 1000000) v))) : RI E (d + 1) 88 0 [(0, .ref 11), (1, .int x1), (2, .int x2)] v Q := by
  unfold RI
  refine xr_blk (lv1 := [(0, .ref 11), (1, .int x1), (2, .int x2)]) (st1 := [.int ((nI 1) <<< (x2 &&& 31))]) (S1 := rt v) (pc1 := 3) [(.iconst 1, .int (nI 1), 0, 0), (.iload_n 2, .null, 0, 0), (.ishl, .null, 0, 0)] [] (by decide +kernel) rfl trivial ?_
  refine xr_topi (fun y1 ey1 => ?_)
  replace h := h y1 ey1
  refine xr_blk (lv1 := [(3, .int y1), (0, .ref 11), (1, .int x1), (2, .int x2)]) (st1 := [.int (x1 &&& y1)]) (S1 := rt v) (pc1 := 7) [(.istore_n 3, .null, 0, 0), (.iload_n 1, .null, 0, 0), (.iload_n 3, .null, 0, 0), (.iand, .null, 0, 0)] [] (by decide +kernel) rfl trivial ?_
  refine xr_if_ne (tgt := 13) (off := 6) (by decide +kernel) (by decide) (fun hc => ?_) (fun hc => ?_)
  · replace h := h.1 hc
    refine xr_blk (lv1 := [(3, .int y1), (0, .ref 11), (1, .int x1), (2, .int x2)]) (st1 := [.int (x1 &&& (y1 ^^^ (-1 : Int32)))]) (S1 := rt v) (pc1 := 18) [(.iload_n 1, .null, 0, 0), (.iload_n 3, .null, 0, 0), (.iconst (-1), .int (-1), 0, 0), (.ixor, .null, 0, 0), (.iand, .null, 0, 0)] [] (by decide +kernel) rfl trivial ?_
    refine xr_topi (fun y2 ey2 => ?_)
    replace h := h y2 ey2
    refine xr_blk (lv1 := [(4, .int y2), (3, .int y1), (0, .ref 11), (1, .int x1), (2, .int x2)]) (st1 := [.int y2]) (S1 := rt v) (pc1 := 22) [(.istore 4, .null, 0, 0), (.iload 4, .null, 0, 0)] [] (by decide +kernel) rfl trivial ?_
    refine xr_if_ne (tgt := 27) (off := 5) (by decide +kernel) (by decide) (fun hc => ?_) (fun hc => ?_)
    · replace h := h.1 hc
      refine xr_blk (lv1 := [(6, .int (nI 0)), (5, .int (nI 1000000)), (4, .int y2), (3, .int y1), (0, .ref 11), (1, .int x1), (2, .int x2)]) (st1 := []) (S1 := rt v) (pc1 := 34) [(.ldc 37, .int (nI 1000000), 0, 0), (.istore 5, .null, 0, 0), (.iconst 0, .int (nI 0), 0, 0), (.istore 6, .null, 0, 0)] [] (by decide +kernel) rfl trivial ?_
      exact x_R.sub [4, 6, 2, 1, 0] rfl h
    · replace h := h.2 hc
      refine xr_blk (lv1 := [(4, .int y2), (3, .int y1), (0, .ref 11), (1, .int x1), (2, .int x2)]) (st1 := [.int (nI 0)]) (S1 := rt v) (pc1 := 26) [(.iconst 0, .int (nI 0), 0, 0)] [] (by decide +kernel) rfl trivial ?_
      exact xr_iret (by decide +kernel) rfl ⟨_, _, rfl, rfl, h⟩
  · replace h := h.2 hc
    refine xr_blk (lv1 := [(3, .int y1), (0, .ref 11), (1, .int x1), (2, .int x2)]) (st1 := [.int (nI 1000000)]) (S1 := rt v) (pc1 := 12) [(.ldc 37, .int (nI 1000000), 0, 0)] [] (by decide +kernel) rfl trivial ?_
    exact xr_iret (by decide +kernel) rfl ⟨_, _, rfl, rfl, h⟩
set_option maxRecDepth 100000 in
theorem w_X9_shortestTour_34 {E : Nat × (Nat → Int32)} {d : Nat} {v : xV} {x2 : Int32} {x4 : Int32} {x5 : Int32} {x6 : Int32} {Q : Int32 → xV → Prop} (h : (((gI v 11 5) ≤ x6 → Q x5 v) ∧ (¬ (gI v 11 5) ≤ x6 → (((x4 &&& ((nI 1) <<< (x6 &&& 31))) = (nI 0) → RI E (d + 1) 88 34 [(0, .ref 11), (2, .int x2), (4, .int x4), (5, .int x5), (6, .int (x6 + (nI 1)))] v Q) ∧ (¬ (x4 &&& ((nI 1) <<< (x6 &&& 31))) = (nI 0) → vp_in ((x4 * (nI 8)) + x6) 2048 ∧ KI E d 87 [.ref 11, .int x6, .int x2] v (fun y3 v2 => ∀ y4 : Int32, y4 = (if (((gA v 16) (((x4 * (nI 8)) + x6)).toNatClampNeg) + y3) < x5 then (((gA v 16) (((x4 * (nI 8)) + x6)).toNatClampNeg) + y3) else x5) → RI E (d + 1) 88 34 [(0, .ref 11), (2, .int x2), (4, .int x4), (5, .int y4), (6, .int (x6 + (nI 1)))] v2 Q)))))) : RI E (d + 1) 88 34 [(0, .ref 11), (2, .int x2), (4, .int x4), (5, .int x5), (6, .int x6)] v Q := by
  unfold RI
  refine xr_blk (lv1 := [(0, .ref 11), (2, .int x2), (4, .int x4), (5, .int x5), (6, .int x6)]) (st1 := [.int (gI v 11 5), .int x6]) (S1 := rt v) (pc1 := 40) [(.iload 6, .null, 0, 0), (.aload_n 0, .null, 0, 0), (.getfield 27, .null, 9, 5)] [] (by decide +kernel) rfl trivial ?_
  refine xr_ic_ge (tgt := 87) (off := 47) (by decide +kernel) (by decide) (fun hc => ?_) (fun hc => ?_)
  · replace h := h.1 hc
    refine xr_blk (lv1 := [(0, .ref 11), (2, .int x2), (4, .int x4), (5, .int x5), (6, .int x6)]) (st1 := [.int x5]) (S1 := rt v) (pc1 := 89) [(.iload 5, .null, 0, 0)] [] (by decide +kernel) rfl trivial ?_
    exact xr_iret (by decide +kernel) rfl ⟨_, _, rfl, rfl, h⟩
  · replace h := h.2 hc
    refine xr_blk (lv1 := [(0, .ref 11), (2, .int x2), (4, .int x4), (5, .int x5), (6, .int x6)]) (st1 := [.int (x4 &&& ((nI 1) <<< (x6 &&& 31)))]) (S1 := rt v) (pc1 := 50) [(.iload 4, .null, 0, 0), (.iconst 1, .int (nI 1), 0, 0), (.iload 6, .null, 0, 0), (.ishl, .null, 0, 0), (.iand, .null, 0, 0)] [] (by decide +kernel) rfl trivial ?_
    refine xr_if_eq (tgt := 81) (off := 31) (by decide +kernel) (by decide) (fun hc => ?_) (fun hc => ?_)
    · replace h := h.1 hc
      refine xr_blk (lv1 := [(6, .int (x6 + (nI 1))), (0, .ref 11), (2, .int x2), (4, .int x4), (5, .int x5)]) (st1 := []) (S1 := rt v) (pc1 := 84) [(.iinc 6 1, .int (nI 1), 0, 0)] [] (by decide +kernel) rfl trivial ?_
      refine xr_goto (tgt := 34) (off := -50) (by decide +kernel) (by decide) ?_
      exact x_R.sub [1, 2, 3, 4, 0] rfl h
    · replace h := h.2 hc
      obtain ⟨hb1, h⟩ := h
      refine xr_blk (lv1 := [(0, .ref 11), (2, .int x2), (4, .int x4), (5, .int x5), (6, .int x6)]) (st1 := [.int x2, .int x6, .ref 11, .int ((gA v 16) (((x4 * (nI 8)) + x6)).toNatClampNeg), .int x5]) (S1 := rt v) (pc1 := 72) [(.iload 5, .null, 0, 0), (.aload_n 0, .null, 0, 0), (.getfield 24, .null, 9, 4), (.iload 4, .null, 0, 0), (.bipush 8, .int (nI 8), 0, 0), (.imul, .null, 0, 0), (.iload 6, .null, 0, 0), (.iadd, .null, 0, 0), (.iaload, .null, 0, 0), (.aload_n 0, .null, 0, 0), (.iload 6, .null, 0, 0), (.iload_n 2, .null, 0, 0)] [(((x4 * (nI 8)) + x6), 2048)] (by decide +kernel) rfl ⟨hb1, trivial⟩ ?_
      refine xk_VI (As := [.int x6, .int x2]) (bb := 11) (rest := [.int ((gA v 16) (((x4 * (nI 8)) + x6)).toNatClampNeg), .int x5]) (idx := 62) (i0 := 62) (m1 := 87) (ps := [1242, 1244, 54]) (by decide +kernel) (by decide +kernel) (by decide) rfl ((gK_s (by decide)).trans (by decide +kernel)) (by decide) (Nat.le_of_ble_eq_true rfl) rfl h (fun y3 v2 h => ?_)
      refine xr_blk (lv1 := [(0, .ref 11), (2, .int x2), (4, .int x4), (5, .int x5), (6, .int x6)]) (st1 := [.int (((gA v 16) (((x4 * (nI 8)) + x6)).toNatClampNeg) + y3), .int x5]) (S1 := rt v2) (pc1 := 76) [(.iadd, .null, 0, 0)] [] (by decide +kernel) rfl trivial ?_
      refine xr_mmin (idx := 52) (i0 := 52) (ps := [702, 703]) (by decide +kernel) (by decide +kernel) (by decide) (Nat.le_of_ble_eq_true rfl) ?_
      refine xr_topi (fun y4 ey4 => ?_)
      replace h := h y4 ey4
      refine xr_blk (lv1 := [(6, .int (x6 + (nI 1))), (5, .int y4), (0, .ref 11), (2, .int x2), (4, .int x4)]) (st1 := []) (S1 := rt v2) (pc1 := 84) [(.istore 5, .null, 0, 0), (.iinc 6 1, .int (nI 1), 0, 0)] [] (by decide +kernel) rfl trivial ?_
      refine xr_goto (tgt := 34) (off := -50) (by decide +kernel) (by decide) ?_
      exact x_R.sub [2, 3, 4, 1, 0] rfl h
theorem ok_88 : x_mOK 88 := ⟨x_tm5 (List.mem_of_getElem? (i := 189) rfl) rfl, 104, by decide +kernel⟩
/-! X10_settle: method 90, ScrawlHouse$Years.settle(I)V -/
set_option maxRecDepth 100000 in
theorem w_X10_settle_0 {E : Nat × (Nat → Int32)} {d : Nat} {v : xV} {x1 : Int32} {Q : xV → Prop} (h : KV E d 95 [.ref 67, .int x1] v (fun v1 => KI E d 2 [.ref 60, .int x1] v1 (fun y3 v2 => RV E (d + 1) 90 16 [(0, .ref 67), (2, .int y3), (3, .int (nI 0))] v2 Q))) : RV E (d + 1) 90 0 [(0, .ref 67), (1, .int x1)] v Q := by
  unfold RV
  refine xr_blk (lv1 := [(0, .ref 67), (1, .int x1)]) (st1 := [.int x1, .ref 67]) (S1 := rt v) (pc1 := 2) [(.aload_n 0, .null, 0, 0), (.iload_n 1, .null, 0, 0)] [] (by decide +kernel) rfl trivial ?_
  refine xk_VV (As := [.int x1]) (bb := 67) (rest := []) (idx := 59) (i0 := 59) (m1 := 95) (ps := [1044, 1046, 28]) (by decide +kernel) (by decide +kernel) (by decide) rfl ((gK_s (by decide)).trans (by decide +kernel)) (by decide) (Nat.le_of_ble_eq_true rfl) rfl h (fun v1 h => ?_)
  refine xr_blk (lv1 := [(0, .ref 67), (1, .int x1)]) (st1 := [.int x1, .ref 60]) (S1 := rt v1) (pc1 := 10) [(.aload_n 0, .null, 0, 0), (.getfield 51, .null, 10, 2), (.iload_n 1, .null, 0, 0)] [] (by decide +kernel) rfl trivial ?_
  refine xk_VI (As := [.int x1]) (bb := 60) (rest := []) (idx := 63) (i0 := 63) (m1 := 2) (ps := [1053, 1054, 1055]) (by decide +kernel) (by decide +kernel) (by decide) rfl ((gK_s (by decide)).trans (by decide +kernel)) (by decide) (Nat.le_of_ble_eq_true rfl) rfl h (fun y3 v2 h => ?_)
  refine xr_blk (lv1 := [(3, .int (nI 0)), (2, .int y3), (0, .ref 67), (1, .int x1)]) (st1 := []) (S1 := rt v2) (pc1 := 16) [(.istore_n 2, .null, 0, 0), (.iconst 0, .int (nI 0), 0, 0), (.istore_n 3, .null, 0, 0)] [] (by decide +kernel) rfl trivial ?_
  exact x_R.sub [2, 1, 0] rfl h
set_option maxRecDepth 100000 in
theorem w_X10_settle_16 {E : Nat × (Nat → Int32)} {d : Nat} {v : xV} {x2 : Int32} {x3 : Int32} {Q : xV → Prop} (h : ((x2 ≤ x3 → KI E d 104 [.ref 67] v (fun y2 v1 => vp_in y2 2 ∧ ((y2 = (nI 0) → Q (v_I v1 67 12 y2)) ∧ (¬ y2 = (nI 0) → KV E d 106 [.ref 67] (v_I v1 67 12 y2) (fun v4 => Q v4))))) ∧ (¬ x2 ≤ x3 → KV E d 96 [.ref 67, .int x3] v (fun v5 => RV E (d + 1) 90 16 [(0, .ref 67), (2, .int x2), (3, .int (x3 + (nI 1)))] v5 Q)))) : RV E (d + 1) 90 16 [(0, .ref 67), (2, .int x2), (3, .int x3)] v Q := by
  unfold RV
  refine xr_blk (lv1 := [(0, .ref 67), (2, .int x2), (3, .int x3)]) (st1 := [.int x2, .int x3]) (S1 := rt v) (pc1 := 18) [(.iload_n 3, .null, 0, 0), (.iload_n 2, .null, 0, 0)] [] (by decide +kernel) rfl trivial ?_
  refine xr_ic_ge (tgt := 32) (off := 14) (by decide +kernel) (by decide) (fun hc => ?_) (fun hc => ?_)
  · replace h := h.1 hc
    refine xr_blk (lv1 := [(0, .ref 67), (2, .int x2), (3, .int x3)]) (st1 := [.ref 67, .ref 67]) (S1 := rt v) (pc1 := 34) [(.aload_n 0, .null, 0, 0), (.aload_n 0, .null, 0, 0)] [] (by decide +kernel) rfl trivial ?_
    refine xk_VI (As := []) (bb := 67) (rest := [.ref 67]) (idx := 72) (i0 := 72) (m1 := 104) (ps := [1084, 1086, 34]) (by decide +kernel) (by decide +kernel) (by decide) rfl ((gK_s (by decide)).trans (by decide +kernel)) (by decide) (Nat.le_of_ble_eq_true rfl) rfl h (fun y2 v1 h => ?_)
    obtain ⟨hb3, h⟩ := h
    refine xr_blk (lv1 := [(0, .ref 67), (2, .int x2), (3, .int x3)]) (st1 := [.int y2]) (S1 := rt (v_I v1 67 12 y2)) (pc1 := 44) [(.putfield 39, .null, 10, 12), (.aload_n 0, .null, 0, 0), (.getfield 39, .null, 10, 12)] [(y2, 2)] (by decide +kernel) rfl ⟨hb3, trivial⟩ ?_
    refine xr_if_eq (tgt := 51) (off := 7) (by decide +kernel) (by decide) (fun hc => ?_) (fun hc => ?_)
    · replace h := h.1 hc
      exact xr_ret0 (by decide +kernel) rfl ⟨_, rfl, rfl, h⟩
    · replace h := h.2 hc
      refine xr_blk (lv1 := [(0, .ref 67), (2, .int x2), (3, .int x3)]) (st1 := [.ref 67]) (S1 := rt (v_I v1 67 12 y2)) (pc1 := 48) [(.aload_n 0, .null, 0, 0)] [] (by decide +kernel) rfl trivial ?_
      refine xk_VV (As := []) (bb := 67) (rest := []) (idx := 76) (i0 := 76) (m1 := 106) (ps := [1113, 1115, 41]) (by decide +kernel) (by decide +kernel) (by decide) rfl ((gK_s (by decide)).trans (by decide +kernel)) (by decide) (Nat.le_of_ble_eq_true rfl) rfl h (fun v4 h => ?_)
      exact xr_ret0 (by decide +kernel) rfl ⟨_, rfl, rfl, h⟩
  · replace h := h.2 hc
    refine xr_blk (lv1 := [(0, .ref 67), (2, .int x2), (3, .int x3)]) (st1 := [.int x3, .ref 67]) (S1 := rt v) (pc1 := 23) [(.aload_n 0, .null, 0, 0), (.iload_n 3, .null, 0, 0)] [] (by decide +kernel) rfl trivial ?_
    refine xk_VV (As := [.int x3]) (bb := 67) (rest := []) (idx := 69) (i0 := 69) (m1 := 96) (ps := [1057, 1059, 29]) (by decide +kernel) (by decide +kernel) (by decide) rfl ((gK_s (by decide)).trans (by decide +kernel)) (by decide) (Nat.le_of_ble_eq_true rfl) rfl h (fun v5 h => ?_)
    refine xr_blk (lv1 := [(3, .int (x3 + (nI 1))), (0, .ref 67), (2, .int x2)]) (st1 := []) (S1 := rt v5) (pc1 := 29) [(.iinc 3 1, .int (nI 1), 0, 0)] [] (by decide +kernel) rfl trivial ?_
    refine xr_goto (tgt := 16) (off := -13) (by decide +kernel) (by decide) ?_
    exact x_R.sub [1, 2, 0] rfl h
theorem ok_90 : x_mOK 90 := ⟨x_tm4 (List.mem_of_getElem? (i := 223) rfl) rfl, 112, by decide +kernel⟩
/-! X10_firstSpoilt: method 91, ScrawlHouse$Years.firstSpoilt(I)I -/
set_option maxRecDepth 100000 in
theorem w_X10_firstSpoilt_0 {E : Nat × (Nat → Int32)} {d : Nat} {v : xV} {x1 : Int32} {Q : Int32 → xV → Prop} (h : KI E d 2 [.ref 60, .int x1] v (fun y2 v1 => KV E d 95 [.ref 67, .int x1] v1 (fun v3 => RI E (d + 1) 91 16 [(0, .ref 67), (2, .int y2), (3, .int (nI 0))] v3 Q))) : RI E (d + 1) 91 0 [(0, .ref 67), (1, .int x1)] v Q := by
  unfold RI
  refine xr_blk (lv1 := [(0, .ref 67), (1, .int x1)]) (st1 := [.int x1, .ref 60]) (S1 := rt v) (pc1 := 5) [(.aload_n 0, .null, 0, 0), (.getfield 51, .null, 10, 2), (.iload_n 1, .null, 0, 0)] [] (by decide +kernel) rfl trivial ?_
  refine xk_VI (As := [.int x1]) (bb := 60) (rest := []) (idx := 63) (i0 := 63) (m1 := 2) (ps := [1053, 1054, 1055]) (by decide +kernel) (by decide +kernel) (by decide) rfl ((gK_s (by decide)).trans (by decide +kernel)) (by decide) (Nat.le_of_ble_eq_true rfl) rfl h (fun y2 v1 h => ?_)
  refine xr_blk (lv1 := [(2, .int y2), (0, .ref 67), (1, .int x1)]) (st1 := [.int x1, .ref 67]) (S1 := rt v1) (pc1 := 11) [(.istore_n 2, .null, 0, 0), (.aload_n 0, .null, 0, 0), (.iload_n 1, .null, 0, 0)] [] (by decide +kernel) rfl trivial ?_
  refine xk_VV (As := [.int x1]) (bb := 67) (rest := []) (idx := 59) (i0 := 59) (m1 := 95) (ps := [1044, 1046, 28]) (by decide +kernel) (by decide +kernel) (by decide) rfl ((gK_s (by decide)).trans (by decide +kernel)) (by decide) (Nat.le_of_ble_eq_true rfl) rfl h (fun v3 h => ?_)
  refine xr_blk (lv1 := [(3, .int (nI 0)), (2, .int y2), (0, .ref 67), (1, .int x1)]) (st1 := []) (S1 := rt v3) (pc1 := 16) [(.iconst 0, .int (nI 0), 0, 0), (.istore_n 3, .null, 0, 0)] [] (by decide +kernel) rfl trivial ?_
  exact x_R.sub [2, 1, 0] rfl h
set_option maxRecDepth 100000 in
theorem w_X10_firstSpoilt_16 {E : Nat × (Nat → Int32)} {d : Nat} {v : xV} {x2 : Int32} {x3 : Int32} {Q : Int32 → xV → Prop} (h : ((x2 ≤ x3 → Q (-1 : Int32) v) ∧ (¬ x2 ≤ x3 → KV E d 96 [.ref 67, .int x3] v (fun v1 => KI E d 104 [.ref 67] v1 (fun y3 v2 => ((¬ y3 = (nI 0) → RI E (d + 1) 91 16 [(0, .ref 67), (2, .int x2), (3, .int (x3 + (nI 1)))] v2 Q) ∧ (y3 = (nI 0) → Q x3 v2))))))) : RI E (d + 1) 91 16 [(0, .ref 67), (2, .int x2), (3, .int x3)] v Q := by
  unfold RI
  refine xr_blk (lv1 := [(0, .ref 67), (2, .int x2), (3, .int x3)]) (st1 := [.int x2, .int x3]) (S1 := rt v) (pc1 := 18) [(.iload_n 3, .null, 0, 0), (.iload_n 2, .null, 0, 0)] [] (by decide +kernel) rfl trivial ?_
  refine xr_ic_ge (tgt := 41) (off := 23) (by decide +kernel) (by decide) (fun hc => ?_) (fun hc => ?_)
  · replace h := h.1 hc
    refine xr_blk (lv1 := [(0, .ref 67), (2, .int x2), (3, .int x3)]) (st1 := [.int (-1)]) (S1 := rt v) (pc1 := 42) [(.iconst (-1), .int (-1), 0, 0)] [] (by decide +kernel) rfl trivial ?_
    exact xr_iret (by decide +kernel) rfl ⟨_, _, rfl, rfl, h⟩
  · replace h := h.2 hc
    refine xr_blk (lv1 := [(0, .ref 67), (2, .int x2), (3, .int x3)]) (st1 := [.int x3, .ref 67]) (S1 := rt v) (pc1 := 23) [(.aload_n 0, .null, 0, 0), (.iload_n 3, .null, 0, 0)] [] (by decide +kernel) rfl trivial ?_
    refine xk_VV (As := [.int x3]) (bb := 67) (rest := []) (idx := 69) (i0 := 69) (m1 := 96) (ps := [1057, 1059, 29]) (by decide +kernel) (by decide +kernel) (by decide) rfl ((gK_s (by decide)).trans (by decide +kernel)) (by decide) (Nat.le_of_ble_eq_true rfl) rfl h (fun v1 h => ?_)
    refine xr_blk (lv1 := [(0, .ref 67), (2, .int x2), (3, .int x3)]) (st1 := [.ref 67]) (S1 := rt v1) (pc1 := 27) [(.aload_n 0, .null, 0, 0)] [] (by decide +kernel) rfl trivial ?_
    refine xk_VI (As := []) (bb := 67) (rest := []) (idx := 72) (i0 := 72) (m1 := 104) (ps := [1084, 1086, 34]) (by decide +kernel) (by decide +kernel) (by decide) rfl ((gK_s (by decide)).trans (by decide +kernel)) (by decide) (Nat.le_of_ble_eq_true rfl) rfl h (fun y3 v2 h => ?_)
    refine xr_if_ne (tgt := 35) (off := 5) (by decide +kernel) (by decide) (fun hc => ?_) (fun hc => ?_)
    · replace h := h.1 hc
      refine xr_blk (lv1 := [(3, .int (x3 + (nI 1))), (0, .ref 67), (2, .int x2)]) (st1 := []) (S1 := rt v2) (pc1 := 38) [(.iinc 3 1, .int (nI 1), 0, 0)] [] (by decide +kernel) rfl trivial ?_
      refine xr_goto (tgt := 16) (off := -22) (by decide +kernel) (by decide) ?_
      exact x_R.sub [1, 2, 0] rfl h
    · replace h := h.2 hc
      refine xr_blk (lv1 := [(0, .ref 67), (2, .int x2), (3, .int x3)]) (st1 := [.int x3]) (S1 := rt v2) (pc1 := 34) [(.iload_n 3, .null, 0, 0)] [] (by decide +kernel) rfl trivial ?_
      exact xr_iret (by decide +kernel) rfl ⟨_, _, rfl, rfl, h⟩
theorem ok_91 : x_mOK 91 := ⟨x_tm5 (List.mem_of_getElem? (i := 128) rfl) rfl, 112, by decide +kernel⟩
/-! X10_endOf: method 92, ScrawlHouse$Years.endOf(IZ)I -/
set_option maxRecDepth 100000 in
theorem w_X10_endOf_0 {E : Nat × (Nat → Int32)} {d : Nat} {v : xV} {x1 : Int32} {x2 : Int32} {Q : Int32 → xV → Prop} (h : ((¬ (gI v 67 12) = (nI 0) → ((x2 = (nI 0) → vp_in x1 52 ∧ Q ((gA v 72) (x1).toNatClampNeg) v) ∧ (¬ x2 = (nI 0) → vp_in x1 52 ∧ Q ((gA v 73) (x1).toNatClampNeg) v))) ∧ ((gI v 67 12) = (nI 0) → Q (-1 : Int32) v))) : RI E d 92 0 [(0, .ref 67), (1, .int x1), (2, .int x2)] v Q := by
  unfold RI
  refine xr_blk (lv1 := [(0, .ref 67), (1, .int x1), (2, .int x2)]) (st1 := [.int (gI v 67 12)]) (S1 := rt v) (pc1 := 4) [(.aload_n 0, .null, 0, 0), (.getfield 39, .null, 10, 12)] [] (by decide +kernel) rfl trivial ?_
  refine xr_if_ne (tgt := 9) (off := 5) (by decide +kernel) (by decide) (fun hc => ?_) (fun hc => ?_)
  · replace h := h.1 hc
    refine xr_blk (lv1 := [(0, .ref 67), (1, .int x1), (2, .int x2)]) (st1 := [.int x2]) (S1 := rt v) (pc1 := 10) [(.iload_n 2, .null, 0, 0)] [] (by decide +kernel) rfl trivial ?_
    refine xr_if_eq (tgt := 22) (off := 12) (by decide +kernel) (by decide) (fun hc => ?_) (fun hc => ?_)
    · replace h := h.1 hc
      obtain ⟨hb1, h⟩ := h
      refine xr_blk (lv1 := [(0, .ref 67), (1, .int x1), (2, .int x2)]) (st1 := [.int ((gA v 72) (x1).toNatClampNeg)]) (S1 := rt v) (pc1 := 28) [(.aload_n 0, .null, 0, 0), (.getfield 26, .null, 10, 8), (.iload_n 1, .null, 0, 0), (.iaload, .null, 0, 0)] [(x1, 52)] (by decide +kernel) rfl ⟨hb1, trivial⟩ ?_
      exact xr_iret (by decide +kernel) rfl ⟨_, _, rfl, rfl, h⟩
    · replace h := h.2 hc
      obtain ⟨hb2, h⟩ := h
      refine xr_blk (lv1 := [(0, .ref 67), (1, .int x1), (2, .int x2)]) (st1 := [.int ((gA v 73) (x1).toNatClampNeg)]) (S1 := rt v) (pc1 := 19) [(.aload_n 0, .null, 0, 0), (.getfield 29, .null, 10, 9), (.iload_n 1, .null, 0, 0), (.iaload, .null, 0, 0)] [(x1, 52)] (by decide +kernel) rfl ⟨hb2, trivial⟩ ?_
      refine xr_goto (tgt := 28) (off := 9) (by decide +kernel) (by decide) ?_
      exact xr_iret (by decide +kernel) rfl ⟨_, _, rfl, rfl, h⟩
  · replace h := h.2 hc
    refine xr_blk (lv1 := [(0, .ref 67), (1, .int x1), (2, .int x2)]) (st1 := [.int (-1)]) (S1 := rt v) (pc1 := 8) [(.iconst (-1), .int (-1), 0, 0)] [] (by decide +kernel) rfl trivial ?_
    exact xr_iret (by decide +kernel) rfl ⟨_, _, rfl, rfl, h⟩
theorem ok_92 : x_mOK 92 := ⟨x_tm5 (List.mem_of_getElem? (i := 115) rfl) rfl, 112, by decide +kernel⟩
/-! X10_areApart: method 93, ScrawlHouse$Years.areApart(II)Z -/
set_option maxRecDepth 100000 in
theorem w_X10_areApart_0 {E : Nat × (Nat → Int32)} {d : Nat} {v : xV} {x1 : Int32} {x2 : Int32} {Q : Int32 → xV → Prop} (h : (((gI v 67 12) = (nI 0) → Q (nI 0) v) ∧ (¬ (gI v 67 12) = (nI 0) → vp_in x1 52 ∧ vp_in x2 52 ∧ (((nI 60) < (((gA v 72) (x1).toNatClampNeg) - ((gA v 73) (x2).toNatClampNeg)) → Q (nI 1) v) ∧ (¬ (nI 60) < (((gA v 72) (x1).toNatClampNeg) - ((gA v 73) (x2).toNatClampNeg)) → vp_in x2 52 ∧ vp_in x1 52 ∧ (((((gA v 72) (x2).toNatClampNeg) - ((gA v 73) (x1).toNatClampNeg)) ≤ (nI 60) → Q (nI 0) v) ∧ (¬ (((gA v 72) (x2).toNatClampNeg) - ((gA v 73) (x1).toNatClampNeg)) ≤ (nI 60) → Q (nI 1) v))))))) : RI E d 93 0 [(0, .ref 67), (1, .int x1), (2, .int x2)] v Q := by
  unfold RI
  refine xr_blk (lv1 := [(0, .ref 67), (1, .int x1), (2, .int x2)]) (st1 := [.int (gI v 67 12)]) (S1 := rt v) (pc1 := 4) [(.aload_n 0, .null, 0, 0), (.getfield 39, .null, 10, 12)] [] (by decide +kernel) rfl trivial ?_
  refine xr_if_eq (tgt := 47) (off := 43) (by decide +kernel) (by decide) (fun hc => ?_) (fun hc => ?_)
  · replace h := h.1 hc
    refine xr_blk (lv1 := [(0, .ref 67), (1, .int x1), (2, .int x2)]) (st1 := [.int (nI 0)]) (S1 := rt v) (pc1 := 48) [(.iconst 0, .int (nI 0), 0, 0)] [] (by decide +kernel) rfl trivial ?_
    exact xr_zret (by decide +kernel) rfl x_in2_0 ⟨_, _, rfl, rfl, h⟩
  · replace h := h.2 hc
    obtain ⟨hb1, h⟩ := h
    obtain ⟨hb2, h⟩ := h
    refine xr_blk (lv1 := [(0, .ref 67), (1, .int x1), (2, .int x2)]) (st1 := [.int (nI 60), .int (((gA v 72) (x1).toNatClampNeg) - ((gA v 73) (x2).toNatClampNeg))]) (S1 := rt v) (pc1 := 22) [(.aload_n 0, .null, 0, 0), (.getfield 26, .null, 10, 8), (.iload_n 1, .null, 0, 0), (.iaload, .null, 0, 0), (.aload_n 0, .null, 0, 0), (.getfield 29, .null, 10, 9), (.iload_n 2, .null, 0, 0), (.iaload, .null, 0, 0), (.isub, .null, 0, 0), (.bipush 60, .int (nI 60), 0, 0)] [(x1, 52), (x2, 52)] (by decide +kernel) rfl ⟨hb1, hb2, trivial⟩ ?_
    refine xr_ic_gt (tgt := 43) (off := 21) (by decide +kernel) (by decide) (fun hc => ?_) (fun hc => ?_)
    · replace h := h.1 hc
      refine xr_blk (lv1 := [(0, .ref 67), (1, .int x1), (2, .int x2)]) (st1 := [.int (nI 1)]) (S1 := rt v) (pc1 := 44) [(.iconst 1, .int (nI 1), 0, 0)] [] (by decide +kernel) rfl trivial ?_
      refine xr_goto (tgt := 48) (off := 4) (by decide +kernel) (by decide) ?_
      exact xr_zret (by decide +kernel) rfl x_in2_1 ⟨_, _, rfl, rfl, h⟩
    · replace h := h.2 hc
      obtain ⟨hb3, h⟩ := h
      obtain ⟨hb4, h⟩ := h
      refine xr_blk (lv1 := [(0, .ref 67), (1, .int x1), (2, .int x2)]) (st1 := [.int (nI 60), .int (((gA v 72) (x2).toNatClampNeg) - ((gA v 73) (x1).toNatClampNeg))]) (S1 := rt v) (pc1 := 40) [(.aload_n 0, .null, 0, 0), (.getfield 26, .null, 10, 8), (.iload_n 2, .null, 0, 0), (.iaload, .null, 0, 0), (.aload_n 0, .null, 0, 0), (.getfield 29, .null, 10, 9), (.iload_n 1, .null, 0, 0), (.iaload, .null, 0, 0), (.isub, .null, 0, 0), (.bipush 60, .int (nI 60), 0, 0)] [(x2, 52), (x1, 52)] (by decide +kernel) rfl ⟨hb3, hb4, trivial⟩ ?_
      refine xr_ic_le (tgt := 47) (off := 7) (by decide +kernel) (by decide) (fun hc => ?_) (fun hc => ?_)
      · replace h := h.1 hc
        refine xr_blk (lv1 := [(0, .ref 67), (1, .int x1), (2, .int x2)]) (st1 := [.int (nI 0)]) (S1 := rt v) (pc1 := 48) [(.iconst 0, .int (nI 0), 0, 0)] [] (by decide +kernel) rfl trivial ?_
        exact xr_zret (by decide +kernel) rfl x_in2_0 ⟨_, _, rfl, rfl, h⟩
      · replace h := h.2 hc
        refine xr_blk (lv1 := [(0, .ref 67), (1, .int x1), (2, .int x2)]) (st1 := [.int (nI 1)]) (S1 := rt v) (pc1 := 44) [(.iconst 1, .int (nI 1), 0, 0)] [] (by decide +kernel) rfl trivial ?_
        refine xr_goto (tgt := 48) (off := 4) (by decide +kernel) (by decide) ?_
        exact xr_zret (by decide +kernel) rfl x_in2_1 ⟨_, _, rfl, rfl, h⟩
theorem ok_93 : x_mOK 93 := ⟨x_tm5 (List.mem_of_getElem? (i := 86) rfl) rfl, 112, by decide +kernel⟩
/-! X10_datedLayer: method 94, ScrawlHouse$Years.datedLayer(II)I -/
set_option maxRecDepth 100000 in
theorem w_X10_datedLayer_0 {E : Nat × (Nat → Int32)} {d : Nat} {v : xV} {x1 : Int32} {x2 : Int32} {Q : Int32 → xV → Prop} (h : Q (((nI 20) + (x1 * (nI 4))) + x2) v) : RI E d 94 0 [(0, .ref 67), (1, .int x1), (2, .int x2)] v Q := by
  unfold RI
  refine xr_blk (lv1 := [(0, .ref 67), (1, .int x1), (2, .int x2)]) (st1 := [.int (((nI 20) + (x1 * (nI 4))) + x2)]) (S1 := rt v) (pc1 := 8) [(.bipush 20, .int (nI 20), 0, 0), (.iload_n 1, .null, 0, 0), (.iconst 4, .int (nI 4), 0, 0), (.imul, .null, 0, 0), (.iadd, .null, 0, 0), (.iload_n 2, .null, 0, 0), (.iadd, .null, 0, 0)] [] (by decide +kernel) rfl trivial ?_
  exact xr_iret (by decide +kernel) rfl ⟨_, _, rfl, rfl, h⟩
theorem ok_94 : x_mOK 94 := ⟨x_tm5 (List.mem_of_getElem? (i := 4) rfl) rfl, 112, by decide +kernel⟩
/-! X10_begin: method 95, ScrawlHouse$Years.begin(I)V -/
set_option maxRecDepth 100000 in
theorem w_X10_begin_0 {E : Nat × (Nat → Int32)} {d : Nat} {v : xV} {x1 : Int32} {Q : xV → Prop} (h : KI E d 9 [.ref 25, .int x1] v (fun y2 v1 => KV E d 230 [.ref 68, .int (nI 0)] (v_I (v_I v1 67 10 y2) 67 11 (nI 0)) (fun v3 => KV E d 230 [.ref 69, .int (nI 199)] v3 (fun v4 => KV E d 229 [.ref 71, .long (0 : Int64)] v4 (fun v5 => RV E (d + 1) 95 45 [(0, .ref 67), (2, .int (nI 0))] v5 Q))))) : RV E (d + 1) 95 0 [(0, .ref 67), (1, .int x1)] v Q := by
  unfold RV
  refine xr_blk (lv1 := [(0, .ref 67), (1, .int x1)]) (st1 := [.int x1, .ref 25, .ref 67]) (S1 := rt v) (pc1 := 6) [(.aload_n 0, .null, 0, 0), (.aload_n 0, .null, 0, 0), (.getfield 47, .null, 10, 1), (.iload_n 1, .null, 0, 0)] [] (by decide +kernel) rfl trivial ?_
  refine xk_VI (As := [.int x1]) (bb := 25) (rest := [.ref 67]) (idx := 79) (i0 := 79) (m1 := 9) (ps := [1048, 1036, 1037]) (by decide +kernel) (by decide +kernel) (by decide) rfl ((gK_s (by decide)).trans (by decide +kernel)) (by decide) (Nat.le_of_ble_eq_true rfl) rfl h (fun y2 v1 h => ?_)
  refine xr_blk (lv1 := [(0, .ref 67), (1, .int x1)]) (st1 := [.int (nI 0), .ref 68]) (S1 := rt (v_I (v_I v1 67 10 y2) 67 11 (nI 0))) (pc1 := 22) [(.putfield 32, .null, 10, 10), (.aload_n 0, .null, 0, 0), (.iconst 0, .int (nI 0), 0, 0), (.putfield 36, .null, 10, 11), (.aload_n 0, .null, 0, 0), (.getfield 9, .null, 10, 4), (.iconst 0, .int (nI 0), 0, 0)] [] (by decide +kernel) rfl trivial ?_
  refine xk_SV (As := [.ref 68, .int (nI 0)]) (rest := []) (idx := 82) (i0 := 82) (m1 := 230) (ps := [1049, 197]) (by decide +kernel) (by decide +kernel) (by decide) rfl (Nat.le_of_ble_eq_true rfl) rfl h (fun v3 h => ?_)
  refine xr_blk (lv1 := [(0, .ref 67), (1, .int x1)]) (st1 := [.int (nI 199), .ref 69]) (S1 := rt v3) (pc1 := 32) [(.aload_n 0, .null, 0, 0), (.getfield 15, .null, 10, 5), (.sipush 199, .int (nI 199), 0, 0)] [] (by decide +kernel) rfl trivial ?_
  refine xk_SV (As := [.ref 69, .int (nI 199)]) (rest := []) (idx := 82) (i0 := 82) (m1 := 230) (ps := [1049, 197]) (by decide +kernel) (by decide +kernel) (by decide) rfl (Nat.le_of_ble_eq_true rfl) rfl h (fun v4 h => ?_)
  refine xr_blk (lv1 := [(0, .ref 67), (1, .int x1)]) (st1 := [.long (0 : Int64), .ref 71]) (S1 := rt v4) (pc1 := 40) [(.aload_n 0, .null, 0, 0), (.getfield 22, .null, 10, 7), (.lconst 0, .long 0, 0, 0)] [] (by decide +kernel) rfl trivial ?_
  refine xk_SV (As := [.ref 71, .long (0 : Int64)]) (rest := []) (idx := 88) (i0 := 88) (m1 := 229) (ps := [1050, 1051]) (by decide +kernel) (by decide +kernel) (by decide) rfl (Nat.le_of_ble_eq_true rfl) rfl h (fun v5 h => ?_)
  refine xr_blk (lv1 := [(2, .int (nI 0)), (0, .ref 67), (1, .int x1)]) (st1 := []) (S1 := rt v5) (pc1 := 45) [(.iconst 0, .int (nI 0), 0, 0), (.istore_n 2, .null, 0, 0)] [] (by decide +kernel) rfl trivial ?_
  exact x_R.sub [1, 0] rfl h
set_option maxRecDepth 100000 in
theorem w_X10_begin_45 {E : Nat × (Nat → Int32)} {d : Nat} {v : xV} {x2 : Int32} {Q : xV → Prop} (h : (((nI 140) ≤ x2 → Q v) ∧ (¬ (nI 140) ≤ x2 → vp_in x2 140 ∧ RV E (d + 1) 95 45 [(0, .ref 67), (2, .int (x2 + (nI 1)))] (v_A v 70 (upd (gA v 70) (x2).toNatClampNeg (nI 0))) Q))) : RV E (d + 1) 95 45 [(0, .ref 67), (2, .int x2)] v Q := by
  unfold RV
  refine xr_blk (lv1 := [(0, .ref 67), (2, .int x2)]) (st1 := [.int (nI 140), .int x2]) (S1 := rt v) (pc1 := 49) [(.iload_n 2, .null, 0, 0), (.sipush 140, .int (nI 140), 0, 0)] [] (by decide +kernel) rfl trivial ?_
  refine xr_ic_ge (tgt := 65) (off := 16) (by decide +kernel) (by decide) (fun hc => ?_) (fun hc => ?_)
  · replace h := h.1 hc
    exact xr_ret0 (by decide +kernel) rfl ⟨_, rfl, rfl, h⟩
  · replace h := h.2 hc
    obtain ⟨hb1, h⟩ := h
    refine xr_blk (lv1 := [(2, .int (x2 + (nI 1))), (0, .ref 67)]) (st1 := []) (S1 := rt (v_A v 70 (upd (gA v 70) (x2).toNatClampNeg (nI 0)))) (pc1 := 62) [(.aload_n 0, .null, 0, 0), (.getfield 18, .null, 10, 6), (.iload_n 2, .null, 0, 0), (.iconst 0, .int (nI 0), 0, 0), (.bastore, .null, 0, 0), (.iinc 2 1, .int (nI 1), 0, 0)] [(x2, 140), ((nI 0), 2)] (by decide +kernel) rfl ⟨hb1, x_inl (by decide), trivial⟩ ?_
    refine xr_goto (tgt := 45) (off := -17) (by decide +kernel) (by decide) ?_
    exact x_R.sub [1, 0] rfl h
theorem ok_95 : x_mOK 95 := ⟨x_tm4 (List.mem_of_getElem? (i := 227) rfl) rfl, 112, by decide +kernel⟩
/-! X10_hear: method 96, ScrawlHouse$Years.hear(I)V -/
set_option maxRecDepth 100000 in
theorem w_X10_hear_0 {E : Nat × (Nat → Int32)} {d : Nat} {v : xV} {x1 : Int32} {Q : xV → Prop} (h : vp_in x1 80 ∧ ((((((gA v 61) (x1).toNatClampNeg)).toInt < 0 ∨ 4 < (((gA v 61) (x1).toNatClampNeg)).toInt) → Q (v_I v 67 11 (x1 + (nI 1)))) ∧ (((gA v 61) (x1).toNatClampNeg) = nI 0 → vp_in x1 80 ∧ vp_in x1 80 ∧ KI E d 94 [.ref 67, .int ((gA v 62) (x1).toNatClampNeg), .int ((gA v 63) (x1).toNatClampNeg)] (v_I v 67 11 (x1 + (nI 1))) (fun y5 v4 => KV E d 97 [.ref 67, .int y5, .int x1] v4 (fun v6 => Q v6))) ∧ (((gA v 61) (x1).toNatClampNeg) = nI 1 → vp_in x1 80 ∧ KV E d 97 [.ref 67, .int ((gA v 62) (x1).toNatClampNeg), .int x1] (v_I v 67 11 (x1 + (nI 1))) (fun v8 => Q v8)) ∧ (((gA v 61) (x1).toNatClampNeg) = nI 2 → Q (v_I v 67 11 (x1 + (nI 1)))) ∧ (((gA v 61) (x1).toNatClampNeg) = nI 3 → KV E d 98 [.ref 67, .int x1] (v_I v 67 11 (x1 + (nI 1))) (fun v9 => Q v9)) ∧ (((gA v 61) (x1).toNatClampNeg) = nI 4 → KV E d 99 [.ref 67, .int x1] (v_I v 67 11 (x1 + (nI 1))) (fun v10 => Q v10)))) : RV E (d + 1) 96 0 [(0, .ref 67), (1, .int x1)] v Q := by
  unfold RV
  obtain ⟨hb1, h⟩ := h
  refine xr_blk (lv1 := [(0, .ref 67), (1, .int x1)]) (st1 := [.int ((gA v 61) (x1).toNatClampNeg)]) (S1 := rt (v_I v 67 11 (x1 + (nI 1)))) (pc1 := 16) [(.aload_n 0, .null, 0, 0), (.iload_n 1, .null, 0, 0), (.iconst 1, .int (nI 1), 0, 0), (.iadd, .null, 0, 0), (.putfield 36, .null, 10, 11), (.aload_n 0, .null, 0, 0), (.getfield 51, .null, 10, 2), (.getfield 91, .null, 0, 0), (.iload_n 1, .null, 0, 0), (.iaload, .null, 0, 0)] [(x1, 80)] (by decide +kernel) rfl ⟨hb1, trivial⟩ ?_
  refine xr_tsw (by decide +kernel : decode (x_mB 96) 16 = .ok (.tableswitch 99 0 4 #[36, 66, 99, 83, 91], 36)) 115 (by decide) (fun hc => ?_) (fun hc => ?_)
  · replace h := h.1 hc
    exact xr_ret0 (by decide +kernel) rfl ⟨_, rfl, rfl, h⟩
  · replace h := h.2
    have hr : ((gA v 61) (x1).toNatClampNeg) = 0 ∨ ((gA v 61) (x1).toNatClampNeg) = 1 ∨ ((gA v 61) (x1).toNatClampNeg) = 2 ∨ ((gA v 61) (x1).toNatClampNeg) = 3 ∨ ((gA v 61) (x1).toNatClampNeg) = 4 := x_sw5 hc
    rcases hr with hr | hr | hr | hr | hr
    · refine ⟨36, 52, by rw [hr]; decide +kernel, by decide, ?_⟩
      replace h := h.1 hr
      obtain ⟨hb2, h⟩ := h
      obtain ⟨hb3, h⟩ := h
      refine xr_blk (lv1 := [(0, .ref 67), (1, .int x1)]) (st1 := [.int ((gA v 63) (x1).toNatClampNeg), .int ((gA v 62) (x1).toNatClampNeg), .ref 67, .ref 67]) (S1 := rt (v_I v 67 11 (x1 + (nI 1)))) (pc1 := 72) [(.aload_n 0, .null, 0, 0), (.aload_n 0, .null, 0, 0), (.aload_n 0, .null, 0, 0), (.getfield 51, .null, 10, 2), (.getfield 94, .null, 0, 1), (.iload_n 1, .null, 0, 0), (.iaload, .null, 0, 0), (.aload_n 0, .null, 0, 0), (.getfield 51, .null, 10, 2), (.getfield 97, .null, 0, 2), (.iload_n 1, .null, 0, 0), (.iaload, .null, 0, 0)] [(x1, 80), (x1, 80)] (by decide +kernel) rfl ⟨hb2, hb3, trivial⟩ ?_
      refine xk_VI (As := [.int ((gA v 62) (x1).toNatClampNeg), .int ((gA v 63) (x1).toNatClampNeg)]) (bb := 67) (rest := [.ref 67]) (idx := 100) (i0 := 100) (m1 := 94) (ps := [1061, 1062, 1063]) (by decide +kernel) (by decide +kernel) (by decide) rfl ((gK_s (by decide)).trans (by decide +kernel)) (by decide) (Nat.le_of_ble_eq_true rfl) rfl h (fun y5 v4 h => ?_)
      refine xr_blk (lv1 := [(0, .ref 67), (1, .int x1)]) (st1 := [.int x1, .int y5, .ref 67]) (S1 := rt v4) (pc1 := 76) [(.iload_n 1, .null, 0, 0)] [] (by decide +kernel) rfl trivial ?_
      refine xk_VV (As := [.int y5, .int x1]) (bb := 67) (rest := []) (idx := 104) (i0 := 104) (m1 := 97) (ps := [1065, 1067, 30]) (by decide +kernel) (by decide +kernel) (by decide) rfl ((gK_s (by decide)).trans (by decide +kernel)) (by decide) (Nat.le_of_ble_eq_true rfl) rfl h (fun v6 h => ?_)
      refine xr_goto (tgt := 115) (off := 36) (by decide +kernel) (by decide) ?_
      exact xr_ret0 (by decide +kernel) rfl ⟨_, rfl, rfl, h⟩
    · refine ⟨66, 82, by rw [hr]; decide +kernel, by decide, ?_⟩
      replace h := h.2.1 hr
      obtain ⟨hb7, h⟩ := h
      refine xr_blk (lv1 := [(0, .ref 67), (1, .int x1)]) (st1 := [.int x1, .int ((gA v 62) (x1).toNatClampNeg), .ref 67]) (S1 := rt (v_I v 67 11 (x1 + (nI 1)))) (pc1 := 93) [(.aload_n 0, .null, 0, 0), (.aload_n 0, .null, 0, 0), (.getfield 51, .null, 10, 2), (.getfield 94, .null, 0, 1), (.iload_n 1, .null, 0, 0), (.iaload, .null, 0, 0), (.iload_n 1, .null, 0, 0)] [(x1, 80)] (by decide +kernel) rfl ⟨hb7, trivial⟩ ?_
      refine xk_VV (As := [.int ((gA v 62) (x1).toNatClampNeg), .int x1]) (bb := 67) (rest := []) (idx := 104) (i0 := 104) (m1 := 97) (ps := [1065, 1067, 30]) (by decide +kernel) (by decide +kernel) (by decide) rfl ((gK_s (by decide)).trans (by decide +kernel)) (by decide) (Nat.le_of_ble_eq_true rfl) rfl h (fun v8 h => ?_)
      refine xr_goto (tgt := 115) (off := 19) (by decide +kernel) (by decide) ?_
      exact xr_ret0 (by decide +kernel) rfl ⟨_, rfl, rfl, h⟩
    · refine ⟨99, 115, by rw [hr]; decide +kernel, by decide, ?_⟩
      replace h := h.2.2.1 hr
      exact xr_ret0 (by decide +kernel) rfl ⟨_, rfl, rfl, h⟩
    · refine ⟨83, 99, by rw [hr]; decide +kernel, by decide, ?_⟩
      replace h := h.2.2.2.1 hr
      refine xr_blk (lv1 := [(0, .ref 67), (1, .int x1)]) (st1 := [.int x1, .ref 67]) (S1 := rt (v_I v 67 11 (x1 + (nI 1)))) (pc1 := 101) [(.aload_n 0, .null, 0, 0), (.iload_n 1, .null, 0, 0)] [] (by decide +kernel) rfl trivial ?_
      refine xk_VV (As := [.int x1]) (bb := 67) (rest := []) (idx := 108) (i0 := 108) (m1 := 98) (ps := [1071, 1073, 31]) (by decide +kernel) (by decide +kernel) (by decide) rfl ((gK_s (by decide)).trans (by decide +kernel)) (by decide) (Nat.le_of_ble_eq_true rfl) rfl h (fun v9 h => ?_)
      refine xr_goto (tgt := 115) (off := 11) (by decide +kernel) (by decide) ?_
      exact xr_ret0 (by decide +kernel) rfl ⟨_, rfl, rfl, h⟩
    · refine ⟨91, 107, by rw [hr]; decide +kernel, by decide, ?_⟩
      replace h := h.2.2.2.2 hr
      refine xr_blk (lv1 := [(0, .ref 67), (1, .int x1)]) (st1 := [.int x1, .ref 67]) (S1 := rt (v_I v 67 11 (x1 + (nI 1)))) (pc1 := 109) [(.aload_n 0, .null, 0, 0), (.iload_n 1, .null, 0, 0)] [] (by decide +kernel) rfl trivial ?_
      refine xk_VV (As := [.int x1]) (bb := 67) (rest := []) (idx := 111) (i0 := 111) (m1 := 99) (ps := [1080, 1082, 33]) (by decide +kernel) (by decide +kernel) (by decide) rfl ((gK_s (by decide)).trans (by decide +kernel)) (by decide) (Nat.le_of_ble_eq_true rfl) rfl h (fun v10 h => ?_)
      refine xr_goto (tgt := 115) (off := 3) (by decide +kernel) (by decide) ?_
      exact xr_ret0 (by decide +kernel) rfl ⟨_, rfl, rfl, h⟩
theorem ok_96 : x_mOK 96 := ⟨x_tm5 (List.mem_of_getElem? (i := 0) rfl) rfl, 112, by decide +kernel⟩
/-! X10_narrow: method 97, ScrawlHouse$Years.narrow(II)V -/
set_option maxRecDepth 100000 in
theorem w_X10_narrow_0 {E : Nat × (Nat → Int32)} {d : Nat} {v : xV} {x1 : Int32} {x2 : Int32} {Q : xV → Prop} (h : vp_in x1 52 ∧ vp_in x2 80 ∧ vp_in x1 52 ∧ vp_in x1 52 ∧ vp_in x2 80 ∧ ∀ f6 : Nat → Int32, f6 = (upd (gA v 68) (x1).toNatClampNeg (if ((gA v 68) (x1).toNatClampNeg) < ((gA v 64) (x2).toNatClampNeg) then ((gA v 64) (x2).toNatClampNeg) else ((gA v 68) (x1).toNatClampNeg))) → vp_in x1 52 ∧ ∀ f8 : Nat → Int32, f8 = (upd (gA v 69) (x1).toNatClampNeg (if ((gA v 65) (x2).toNatClampNeg) < ((gA v 69) (x1).toNatClampNeg) then ((gA v 65) (x2).toNatClampNeg) else ((gA v 69) (x1).toNatClampNeg))) → Q (v_A (v_A v 68 f6) 69 f8)) : RV E (d + 1) 97 0 [(0, .ref 67), (1, .int x1), (2, .int x2)] v Q := by
  unfold RV
  obtain ⟨hb1, h⟩ := h
  obtain ⟨hb2, h⟩ := h
  refine xr_blk (lv1 := [(0, .ref 67), (1, .int x1), (2, .int x2)]) (st1 := [.int ((gA v 64) (x2).toNatClampNeg), .int ((gA v 68) (x1).toNatClampNeg), .int x1, .ref 68]) (S1 := rt v) (pc1 := 20) [(.aload_n 0, .null, 0, 0), (.getfield 9, .null, 10, 4), (.iload_n 1, .null, 0, 0), (.aload_n 0, .null, 0, 0), (.getfield 9, .null, 10, 4), (.iload_n 1, .null, 0, 0), (.iaload, .null, 0, 0), (.aload_n 0, .null, 0, 0), (.getfield 51, .null, 10, 2), (.getfield 114, .null, 0, 3), (.iload_n 2, .null, 0, 0), (.iaload, .null, 0, 0)] [(x1, 52), (x2, 80)] (by decide +kernel) rfl ⟨hb1, hb2, trivial⟩ ?_
  refine xr_mmax (idx := 115) (i0 := 115) (ps := [1069, 963]) (by decide +kernel) (by decide +kernel) (by decide) (Nat.le_of_ble_eq_true rfl) ?_
  obtain ⟨hb3, h⟩ := h
  obtain ⟨hb4, h⟩ := h
  obtain ⟨hb5, h⟩ := h
  refine xr_blk (lv1 := [(0, .ref 67), (1, .int x1), (2, .int x2)]) (st1 := [.int ((gA v 65) (x2).toNatClampNeg), .int ((gA v 69) (x1).toNatClampNeg), .int x1, .ref 69]) (S1 := rt (v_A v 68 (upd (gA v 68) (x1).toNatClampNeg (if ((gA v 68) (x1).toNatClampNeg) < ((gA v 64) (x2).toNatClampNeg) then ((gA v 64) (x2).toNatClampNeg) else ((gA v 68) (x1).toNatClampNeg))))) (pc1 := 44) [(.iastore, .null, 0, 0), (.aload_n 0, .null, 0, 0), (.getfield 15, .null, 10, 5), (.iload_n 1, .null, 0, 0), (.aload_n 0, .null, 0, 0), (.getfield 15, .null, 10, 5), (.iload_n 1, .null, 0, 0), (.iaload, .null, 0, 0), (.aload_n 0, .null, 0, 0), (.getfield 51, .null, 10, 2), (.getfield 120, .null, 0, 4), (.iload_n 2, .null, 0, 0), (.iaload, .null, 0, 0)] [(x1, 52), (x1, 52), (x2, 80)] (by decide +kernel) rfl ⟨hb3, hb4, hb5, trivial⟩ ?_
  refine (fun (k : ∀ f6 : Nat → Int32, f6 = (upd (gA v 68) (x1).toNatClampNeg (if ((gA v 68) (x1).toNatClampNeg) < ((gA v 64) (x2).toNatClampNeg) then ((gA v 64) (x2).toNatClampNeg) else ((gA v 68) (x1).toNatClampNeg))) → x_R E (d + 1) 97 44 [(0, .ref 67), (1, .int x1), (2, .int x2)] [.int ((gA v 65) (x2).toNatClampNeg), .int ((gA v 69) (x1).toNatClampNeg), .int x1, .ref 69] (rt (v_A v 68 f6)) _) => k _ rfl) (fun f6 ef6 => ?_)
  replace h := h f6 ef6
  refine xr_mmin (idx := 121) (i0 := 121) (ps := [1070, 703]) (by decide +kernel) (by decide +kernel) (by decide) (Nat.le_of_ble_eq_true rfl) ?_
  obtain ⟨hb7, h⟩ := h
  refine xr_blk (lv1 := [(0, .ref 67), (1, .int x1), (2, .int x2)]) (st1 := []) (S1 := rt (v_A (v_A v 68 f6) 69 (upd (gA v 69) (x1).toNatClampNeg (if ((gA v 65) (x2).toNatClampNeg) < ((gA v 69) (x1).toNatClampNeg) then ((gA v 65) (x2).toNatClampNeg) else ((gA v 69) (x1).toNatClampNeg))))) (pc1 := 48) [(.iastore, .null, 0, 0)] [(x1, 52)] (by decide +kernel) rfl ⟨hb7, trivial⟩ ?_
  refine (fun (k : ∀ f8 : Nat → Int32, f8 = (upd (gA v 69) (x1).toNatClampNeg (if ((gA v 65) (x2).toNatClampNeg) < ((gA v 69) (x1).toNatClampNeg) then ((gA v 65) (x2).toNatClampNeg) else ((gA v 69) (x1).toNatClampNeg))) → x_R E (d + 1) 97 48 [(0, .ref 67), (1, .int x1), (2, .int x2)] [] (rt (v_A (v_A v 68 f6) 69 f8)) _) => k _ rfl) (fun f8 ef8 => ?_)
  replace h := h f8 ef8
  exact xr_ret0 (by decide +kernel) rfl ⟨_, rfl, rfl, h⟩
theorem ok_97 : x_mOK 97 := ⟨x_tm5 (List.mem_of_getElem? (i := 8) rfl) rfl, 112, by decide +kernel⟩
/-! X10_hearStood: method 98, ScrawlHouse$Years.hearStood(I)V -/
set_option maxRecDepth 100000 in
theorem w_X10_hearStood_0 {E : Nat × (Nat → Int32)} {d : Nat} {v : xV} {x1 : Int32} {Q : xV → Prop} (h : RV E (d + 1) 98 2 [(0, .ref 67), (1, .int x1), (2, .int (nI 0))] v Q) : RV E (d + 1) 98 0 [(0, .ref 67), (1, .int x1)] v Q := by
  unfold RV
  refine xr_blk (lv1 := [(2, .int (nI 0)), (0, .ref 67), (1, .int x1)]) (st1 := []) (S1 := rt v) (pc1 := 2) [(.iconst 0, .int (nI 0), 0, 0), (.istore_n 2, .null, 0, 0)] [] (by decide +kernel) rfl trivial ?_
  exact x_R.sub [1, 2, 0] rfl h
set_option maxRecDepth 100000 in
theorem w_X10_hearStood_2 {E : Nat × (Nat → Int32)} {d : Nat} {v : xV} {x1 : Int32} {x2 : Int32} {Q : xV → Prop} (h : (((gI v 67 10) ≤ x2 → Q v) ∧ (¬ (gI v 67 10) ≤ x2 → KI E d 74 [.ref 38, .int x2, .int (nI 0)] v (fun y2 v1 => vp_in x1 80 ∧ ((¬ y2 = ((gA v1 62) (x1).toNatClampNeg) → (((nI 0) = (nI 0) → RV E (d + 1) 98 2 [(0, .ref 67), (1, .int x1), (2, .int (x2 + (nI 1)))] v1 Q) ∧ (¬ (nI 0) = (nI 0) → KI E d 74 [.ref 38, .int x2, .int (nI 2)] v1 (fun y5 v4 => vp_in x1 80 ∧ ((¬ y5 = ((gA v4 63) (x1).toNatClampNeg) → RV E (d + 1) 98 2 [(0, .ref 67), (1, .int x1), (2, .int (x2 + (nI 1)))] v4 Q) ∧ (y5 = ((gA v4 63) (x1).toNatClampNeg) → vp_in x1 80 ∧ vp_in x1 80 ∧ KV E d 100 [.ref 67, .int (x2 * (nI 7)), .int ((gA v4 64) (x1).toNatClampNeg), .int ((gA v4 64) (x1).toNatClampNeg)] v4 (fun v9 => RV E (d + 1) 98 2 [(0, .ref 67), (1, .int x1), (2, .int (x2 + (nI 1)))] v9 Q))))))) ∧ (y2 = ((gA v1 62) (x1).toNatClampNeg) → (((nI 1) = (nI 0) → RV E (d + 1) 98 2 [(0, .ref 67), (1, .int x1), (2, .int (x2 + (nI 1)))] v1 Q) ∧ (¬ (nI 1) = (nI 0) → KI E d 74 [.ref 38, .int x2, .int (nI 2)] v1 (fun y11 v10 => vp_in x1 80 ∧ ((¬ y11 = ((gA v10 63) (x1).toNatClampNeg) → RV E (d + 1) 98 2 [(0, .ref 67), (1, .int x1), (2, .int (x2 + (nI 1)))] v10 Q) ∧ (y11 = ((gA v10 63) (x1).toNatClampNeg) → vp_in x1 80 ∧ vp_in x1 80 ∧ KV E d 100 [.ref 67, .int (x2 * (nI 7)), .int ((gA v10 64) (x1).toNatClampNeg), .int ((gA v10 64) (x1).toNatClampNeg)] v10 (fun v15 => RV E (d + 1) 98 2 [(0, .ref 67), (1, .int x1), (2, .int (x2 + (nI 1)))] v15 Q)))))))))))) : RV E (d + 1) 98 2 [(0, .ref 67), (1, .int x1), (2, .int x2)] v Q := by
  unfold RV
  refine xr_blk (lv1 := [(0, .ref 67), (1, .int x1), (2, .int x2)]) (st1 := [.int (gI v 67 10), .int x2]) (S1 := rt v) (pc1 := 7) [(.iload_n 2, .null, 0, 0), (.aload_n 0, .null, 0, 0), (.getfield 32, .null, 10, 10)] [] (by decide +kernel) rfl trivial ?_
  refine xr_ic_ge (tgt := 94) (off := 87) (by decide +kernel) (by decide) (fun hc => ?_) (fun hc => ?_)
  · replace h := h.1 hc
    exact xr_ret0 (by decide +kernel) rfl ⟨_, rfl, rfl, h⟩
  · replace h := h.2 hc
    refine xr_blk (lv1 := [(0, .ref 67), (1, .int x1), (2, .int x2)]) (st1 := [.int (nI 0), .int x2, .ref 38]) (S1 := rt v) (pc1 := 16) [(.aload_n 0, .null, 0, 0), (.getfield 55, .null, 10, 3), (.iload_n 2, .null, 0, 0), (.iconst 0, .int (nI 0), 0, 0)] [] (by decide +kernel) rfl trivial ?_
    refine xk_VI (As := [.int x2, .int (nI 0)]) (bb := 38) (rest := []) (idx := 124) (i0 := 124) (m1 := 74) (ps := [1075, 995, 996]) (by decide +kernel) (by decide +kernel) (by decide) rfl ((gK_s (by decide)).trans (by decide +kernel)) (by decide) (Nat.le_of_ble_eq_true rfl) rfl h (fun y2 v1 h => ?_)
    obtain ⟨hb3, h⟩ := h
    refine xr_blk (lv1 := [(0, .ref 67), (1, .int x1), (2, .int x2)]) (st1 := [.int ((gA v1 62) (x1).toNatClampNeg), .int y2]) (S1 := rt v1) (pc1 := 28) [(.aload_n 0, .null, 0, 0), (.getfield 51, .null, 10, 2), (.getfield 94, .null, 0, 1), (.iload_n 1, .null, 0, 0), (.iaload, .null, 0, 0)] [(x1, 80)] (by decide +kernel) rfl ⟨hb3, trivial⟩ ?_
    refine xr_ic_ne (tgt := 35) (off := 7) (by decide +kernel) (by decide) (fun hc => ?_) (fun hc => ?_)
    · replace h := h.1 hc
      refine xr_blk (lv1 := [(3, .int (nI 0)), (0, .ref 67), (1, .int x1), (2, .int x2)]) (st1 := [.int (nI 0)]) (S1 := rt v1) (pc1 := 38) [(.iconst 0, .int (nI 0), 0, 0), (.istore_n 3, .null, 0, 0), (.iload_n 3, .null, 0, 0)] [] (by decide +kernel) rfl trivial ?_
      refine xr_if_eq (tgt := 88) (off := 50) (by decide +kernel) (by decide) (fun hc => ?_) (fun hc => ?_)
      · replace h := h.1 hc
        refine xr_blk (lv1 := [(2, .int (x2 + (nI 1))), (3, .int (nI 0)), (0, .ref 67), (1, .int x1)]) (st1 := []) (S1 := rt v1) (pc1 := 91) [(.iinc 2 1, .int (nI 1), 0, 0)] [] (by decide +kernel) rfl trivial ?_
        refine xr_goto (tgt := 2) (off := -89) (by decide +kernel) (by decide) ?_
        exact x_R.sub [2, 3, 0] rfl h
      · replace h := h.2 hc
        refine xr_blk (lv1 := [(3, .int (nI 0)), (0, .ref 67), (1, .int x1), (2, .int x2)]) (st1 := [.int (nI 2), .int x2, .ref 38]) (S1 := rt v1) (pc1 := 47) [(.aload_n 0, .null, 0, 0), (.getfield 55, .null, 10, 3), (.iload_n 2, .null, 0, 0), (.iconst 2, .int (nI 2), 0, 0)] [] (by decide +kernel) rfl trivial ?_
        refine xk_VI (As := [.int x2, .int (nI 2)]) (bb := 38) (rest := []) (idx := 124) (i0 := 124) (m1 := 74) (ps := [1075, 995, 996]) (by decide +kernel) (by decide +kernel) (by decide) rfl ((gK_s (by decide)).trans (by decide +kernel)) (by decide) (Nat.le_of_ble_eq_true rfl) rfl h (fun y5 v4 h => ?_)
        obtain ⟨hb6, h⟩ := h
        refine xr_blk (lv1 := [(3, .int (nI 0)), (0, .ref 67), (1, .int x1), (2, .int x2)]) (st1 := [.int ((gA v4 63) (x1).toNatClampNeg), .int y5]) (S1 := rt v4) (pc1 := 59) [(.aload_n 0, .null, 0, 0), (.getfield 51, .null, 10, 2), (.getfield 97, .null, 0, 2), (.iload_n 1, .null, 0, 0), (.iaload, .null, 0, 0)] [(x1, 80)] (by decide +kernel) rfl ⟨hb6, trivial⟩ ?_
        refine xr_ic_ne (tgt := 88) (off := 29) (by decide +kernel) (by decide) (fun hc => ?_) (fun hc => ?_)
        · replace h := h.1 hc
          refine xr_blk (lv1 := [(2, .int (x2 + (nI 1))), (3, .int (nI 0)), (0, .ref 67), (1, .int x1)]) (st1 := []) (S1 := rt v4) (pc1 := 91) [(.iinc 2 1, .int (nI 1), 0, 0)] [] (by decide +kernel) rfl trivial ?_
          refine xr_goto (tgt := 2) (off := -89) (by decide +kernel) (by decide) ?_
          exact x_R.sub [2, 3, 0] rfl h
        · replace h := h.2 hc
          obtain ⟨hb7, h⟩ := h
          obtain ⟨hb8, h⟩ := h
          refine xr_blk (lv1 := [(3, .int (nI 0)), (0, .ref 67), (1, .int x1), (2, .int x2)]) (st1 := [.int ((gA v4 64) (x1).toNatClampNeg), .int ((gA v4 64) (x1).toNatClampNeg), .int (x2 * (nI 7)), .ref 67]) (S1 := rt v4) (pc1 := 85) [(.aload_n 0, .null, 0, 0), (.iload_n 2, .null, 0, 0), (.bipush 7, .int (nI 7), 0, 0), (.imul, .null, 0, 0), (.aload_n 0, .null, 0, 0), (.getfield 51, .null, 10, 2), (.getfield 114, .null, 0, 3), (.iload_n 1, .null, 0, 0), (.iaload, .null, 0, 0), (.aload_n 0, .null, 0, 0), (.getfield 51, .null, 10, 2), (.getfield 114, .null, 0, 3), (.iload_n 1, .null, 0, 0), (.iaload, .null, 0, 0)] [(x1, 80), (x1, 80)] (by decide +kernel) rfl ⟨hb7, hb8, trivial⟩ ?_
          refine xk_VV (As := [.int (x2 * (nI 7)), .int ((gA v4 64) (x1).toNatClampNeg), .int ((gA v4 64) (x1).toNatClampNeg)]) (bb := 67) (rest := []) (idx := 129) (i0 := 129) (m1 := 100) (ps := [1076, 1078, 32]) (by decide +kernel) (by decide +kernel) (by decide) rfl ((gK_s (by decide)).trans (by decide +kernel)) (by decide) (Nat.le_of_ble_eq_true rfl) rfl h (fun v9 h => ?_)
          refine xr_blk (lv1 := [(2, .int (x2 + (nI 1))), (3, .int (nI 0)), (0, .ref 67), (1, .int x1)]) (st1 := []) (S1 := rt v9) (pc1 := 91) [(.iinc 2 1, .int (nI 1), 0, 0)] [] (by decide +kernel) rfl trivial ?_
          refine xr_goto (tgt := 2) (off := -89) (by decide +kernel) (by decide) ?_
          exact x_R.sub [2, 3, 0] rfl h
    · replace h := h.2 hc
      refine xr_blk (lv1 := [(0, .ref 67), (1, .int x1), (2, .int x2)]) (st1 := [.int (nI 1)]) (S1 := rt v1) (pc1 := 32) [(.iconst 1, .int (nI 1), 0, 0)] [] (by decide +kernel) rfl trivial ?_
      refine xr_goto (tgt := 36) (off := 4) (by decide +kernel) (by decide) ?_
      refine xr_blk (lv1 := [(3, .int (nI 1)), (0, .ref 67), (1, .int x1), (2, .int x2)]) (st1 := [.int (nI 1)]) (S1 := rt v1) (pc1 := 38) [(.istore_n 3, .null, 0, 0), (.iload_n 3, .null, 0, 0)] [] (by decide +kernel) rfl trivial ?_
      refine xr_if_eq (tgt := 88) (off := 50) (by decide +kernel) (by decide) (fun hc => ?_) (fun hc => ?_)
      · replace h := h.1 hc
        refine xr_blk (lv1 := [(2, .int (x2 + (nI 1))), (3, .int (nI 1)), (0, .ref 67), (1, .int x1)]) (st1 := []) (S1 := rt v1) (pc1 := 91) [(.iinc 2 1, .int (nI 1), 0, 0)] [] (by decide +kernel) rfl trivial ?_
        refine xr_goto (tgt := 2) (off := -89) (by decide +kernel) (by decide) ?_
        exact x_R.sub [2, 3, 0] rfl h
      · replace h := h.2 hc
        refine xr_blk (lv1 := [(3, .int (nI 1)), (0, .ref 67), (1, .int x1), (2, .int x2)]) (st1 := [.int (nI 2), .int x2, .ref 38]) (S1 := rt v1) (pc1 := 47) [(.aload_n 0, .null, 0, 0), (.getfield 55, .null, 10, 3), (.iload_n 2, .null, 0, 0), (.iconst 2, .int (nI 2), 0, 0)] [] (by decide +kernel) rfl trivial ?_
        refine xk_VI (As := [.int x2, .int (nI 2)]) (bb := 38) (rest := []) (idx := 124) (i0 := 124) (m1 := 74) (ps := [1075, 995, 996]) (by decide +kernel) (by decide +kernel) (by decide) rfl ((gK_s (by decide)).trans (by decide +kernel)) (by decide) (Nat.le_of_ble_eq_true rfl) rfl h (fun y11 v10 h => ?_)
        obtain ⟨hb12, h⟩ := h
        refine xr_blk (lv1 := [(3, .int (nI 1)), (0, .ref 67), (1, .int x1), (2, .int x2)]) (st1 := [.int ((gA v10 63) (x1).toNatClampNeg), .int y11]) (S1 := rt v10) (pc1 := 59) [(.aload_n 0, .null, 0, 0), (.getfield 51, .null, 10, 2), (.getfield 97, .null, 0, 2), (.iload_n 1, .null, 0, 0), (.iaload, .null, 0, 0)] [(x1, 80)] (by decide +kernel) rfl ⟨hb12, trivial⟩ ?_
        refine xr_ic_ne (tgt := 88) (off := 29) (by decide +kernel) (by decide) (fun hc => ?_) (fun hc => ?_)
        · replace h := h.1 hc
          refine xr_blk (lv1 := [(2, .int (x2 + (nI 1))), (3, .int (nI 1)), (0, .ref 67), (1, .int x1)]) (st1 := []) (S1 := rt v10) (pc1 := 91) [(.iinc 2 1, .int (nI 1), 0, 0)] [] (by decide +kernel) rfl trivial ?_
          refine xr_goto (tgt := 2) (off := -89) (by decide +kernel) (by decide) ?_
          exact x_R.sub [2, 3, 0] rfl h
        · replace h := h.2 hc
          obtain ⟨hb13, h⟩ := h
          obtain ⟨hb14, h⟩ := h
          refine xr_blk (lv1 := [(3, .int (nI 1)), (0, .ref 67), (1, .int x1), (2, .int x2)]) (st1 := [.int ((gA v10 64) (x1).toNatClampNeg), .int ((gA v10 64) (x1).toNatClampNeg), .int (x2 * (nI 7)), .ref 67]) (S1 := rt v10) (pc1 := 85) [(.aload_n 0, .null, 0, 0), (.iload_n 2, .null, 0, 0), (.bipush 7, .int (nI 7), 0, 0), (.imul, .null, 0, 0), (.aload_n 0, .null, 0, 0), (.getfield 51, .null, 10, 2), (.getfield 114, .null, 0, 3), (.iload_n 1, .null, 0, 0), (.iaload, .null, 0, 0), (.aload_n 0, .null, 0, 0), (.getfield 51, .null, 10, 2), (.getfield 114, .null, 0, 3), (.iload_n 1, .null, 0, 0), (.iaload, .null, 0, 0)] [(x1, 80), (x1, 80)] (by decide +kernel) rfl ⟨hb13, hb14, trivial⟩ ?_
          refine xk_VV (As := [.int (x2 * (nI 7)), .int ((gA v10 64) (x1).toNatClampNeg), .int ((gA v10 64) (x1).toNatClampNeg)]) (bb := 67) (rest := []) (idx := 129) (i0 := 129) (m1 := 100) (ps := [1076, 1078, 32]) (by decide +kernel) (by decide +kernel) (by decide) rfl ((gK_s (by decide)).trans (by decide +kernel)) (by decide) (Nat.le_of_ble_eq_true rfl) rfl h (fun v15 h => ?_)
          refine xr_blk (lv1 := [(2, .int (x2 + (nI 1))), (3, .int (nI 1)), (0, .ref 67), (1, .int x1)]) (st1 := []) (S1 := rt v15) (pc1 := 91) [(.iinc 2 1, .int (nI 1), 0, 0)] [] (by decide +kernel) rfl trivial ?_
          refine xr_goto (tgt := 2) (off := -89) (by decide +kernel) (by decide) ?_
          exact x_R.sub [2, 3, 0] rfl h
theorem ok_98 : x_mOK 98 := ⟨x_tm5 (List.mem_of_getElem? (i := 14) rfl) rfl, 112, by decide +kernel⟩
/-! X10_hearThing: method 99, ScrawlHouse$Years.hearThing(I)V -/
set_option maxRecDepth 100000 in
theorem w_X10_hearThing_0 {E : Nat × (Nat → Int32)} {d : Nat} {v : xV} {x1 : Int32} {Q : xV → Prop} (h : RV E (d + 1) 99 2 [(0, .ref 67), (1, .int x1), (2, .int (nI 0))] v Q) : RV E (d + 1) 99 0 [(0, .ref 67), (1, .int x1)] v Q := by
  unfold RV
  refine xr_blk (lv1 := [(2, .int (nI 0)), (0, .ref 67), (1, .int x1)]) (st1 := []) (S1 := rt v) (pc1 := 2) [(.iconst 0, .int (nI 0), 0, 0), (.istore_n 2, .null, 0, 0)] [] (by decide +kernel) rfl trivial ?_
  exact x_R.sub [1, 2, 0] rfl h
set_option maxRecDepth 100000 in
theorem w_X10_hearThing_2 {E : Nat × (Nat → Int32)} {d : Nat} {v : xV} {x1 : Int32} {x2 : Int32} {Q : xV → Prop} (h : (((gI v 67 10) ≤ x2 → Q v) ∧ (¬ (gI v 67 10) ≤ x2 → RV E (d + 1) 99 12 [(0, .ref 67), (1, .int x1), (2, .int x2), (3, .int (nI 0))] v Q))) : RV E (d + 1) 99 2 [(0, .ref 67), (1, .int x1), (2, .int x2)] v Q := by
  unfold RV
  refine xr_blk (lv1 := [(0, .ref 67), (1, .int x1), (2, .int x2)]) (st1 := [.int (gI v 67 10), .int x2]) (S1 := rt v) (pc1 := 7) [(.iload_n 2, .null, 0, 0), (.aload_n 0, .null, 0, 0), (.getfield 32, .null, 10, 10)] [] (by decide +kernel) rfl trivial ?_
  refine xr_ic_ge (tgt := 93) (off := 86) (by decide +kernel) (by decide) (fun hc => ?_) (fun hc => ?_)
  · replace h := h.1 hc
    exact xr_ret0 (by decide +kernel) rfl ⟨_, rfl, rfl, h⟩
  · replace h := h.2 hc
    refine xr_blk (lv1 := [(3, .int (nI 0)), (0, .ref 67), (1, .int x1), (2, .int x2)]) (st1 := []) (S1 := rt v) (pc1 := 12) [(.iconst 0, .int (nI 0), 0, 0), (.istore_n 3, .null, 0, 0)] [] (by decide +kernel) rfl trivial ?_
    exact x_R.sub [1, 2, 3, 0] rfl h
set_option maxRecDepth 100000 in
theorem w_X10_hearThing_12 {E : Nat × (Nat → Int32)} {d : Nat} {v : xV} {x1 : Int32} {x2 : Int32} {x3 : Int32} {Q : xV → Prop} (h : vp_in x2 20 ∧ ((((gA v 44) (x2).toNatClampNeg) ≤ x3 → RV E (d + 1) 99 2 [(0, .ref 67), (1, .int x1), (2, .int (x2 + (nI 1)))] v Q) ∧ (¬ ((gA v 44) (x2).toNatClampNeg) ≤ x3 → vp_in ((x2 * (nI 6)) + x3) 120 ∧ vp_in x1 80 ∧ ((¬ ((gA v 45) (((x2 * (nI 6)) + x3)).toNatClampNeg) = ((gA v 62) (x1).toNatClampNeg) → RV E (d + 1) 99 12 [(0, .ref 67), (1, .int x1), (2, .int x2), (3, .int (x3 + (nI 1)))] v Q) ∧ (((gA v 45) (((x2 * (nI 6)) + x3)).toNatClampNeg) = ((gA v 62) (x1).toNatClampNeg) → vp_in x1 80 ∧ vp_in x1 80 ∧ KV E d 100 [.ref 67, .int (((x2 * (nI 7)) + (nI 1)) + x3), .int ((gA v 64) (x1).toNatClampNeg), .int ((gA v 65) (x1).toNatClampNeg)] v (fun v6 => RV E (d + 1) 99 12 [(0, .ref 67), (1, .int x1), (2, .int x2), (3, .int (x3 + (nI 1)))] v6 Q)))))) : RV E (d + 1) 99 12 [(0, .ref 67), (1, .int x1), (2, .int x2), (3, .int x3)] v Q := by
  unfold RV
  obtain ⟨hb1, h⟩ := h
  refine xr_blk (lv1 := [(0, .ref 67), (1, .int x1), (2, .int x2), (3, .int x3)]) (st1 := [.int ((gA v 44) (x2).toNatClampNeg), .int x3]) (S1 := rt v) (pc1 := 22) [(.iload_n 3, .null, 0, 0), (.aload_n 0, .null, 0, 0), (.getfield 55, .null, 10, 3), (.getfield 133, .null, 7, 5), (.iload_n 2, .null, 0, 0), (.iaload, .null, 0, 0)] [(x2, 20)] (by decide +kernel) rfl ⟨hb1, trivial⟩ ?_
  refine xr_ic_ge (tgt := 87) (off := 65) (by decide +kernel) (by decide) (fun hc => ?_) (fun hc => ?_)
  · replace h := h.1 hc
    refine xr_blk (lv1 := [(2, .int (x2 + (nI 1))), (0, .ref 67), (1, .int x1), (3, .int x3)]) (st1 := []) (S1 := rt v) (pc1 := 90) [(.iinc 2 1, .int (nI 1), 0, 0)] [] (by decide +kernel) rfl trivial ?_
    refine xr_goto (tgt := 2) (off := -88) (by decide +kernel) (by decide) ?_
    exact x_R.sub [1, 2, 0] rfl h
  · replace h := h.2 hc
    obtain ⟨hb2, h⟩ := h
    obtain ⟨hb3, h⟩ := h
    refine xr_blk (lv1 := [(0, .ref 67), (1, .int x1), (2, .int x2), (3, .int x3)]) (st1 := [.int ((gA v 62) (x1).toNatClampNeg), .int ((gA v 45) (((x2 * (nI 6)) + x3)).toNatClampNeg)]) (S1 := rt v) (pc1 := 48) [(.aload_n 0, .null, 0, 0), (.getfield 55, .null, 10, 3), (.getfield 136, .null, 7, 6), (.iload_n 2, .null, 0, 0), (.bipush 6, .int (nI 6), 0, 0), (.imul, .null, 0, 0), (.iload_n 3, .null, 0, 0), (.iadd, .null, 0, 0), (.iaload, .null, 0, 0), (.aload_n 0, .null, 0, 0), (.getfield 51, .null, 10, 2), (.getfield 94, .null, 0, 1), (.iload_n 1, .null, 0, 0), (.iaload, .null, 0, 0)] [(((x2 * (nI 6)) + x3), 120), (x1, 80)] (by decide +kernel) rfl ⟨hb2, hb3, trivial⟩ ?_
    refine xr_ic_ne (tgt := 81) (off := 33) (by decide +kernel) (by decide) (fun hc => ?_) (fun hc => ?_)
    · replace h := h.1 hc
      refine xr_blk (lv1 := [(3, .int (x3 + (nI 1))), (0, .ref 67), (1, .int x1), (2, .int x2)]) (st1 := []) (S1 := rt v) (pc1 := 84) [(.iinc 3 1, .int (nI 1), 0, 0)] [] (by decide +kernel) rfl trivial ?_
      refine xr_goto (tgt := 12) (off := -72) (by decide +kernel) (by decide) ?_
      exact x_R.sub [1, 2, 3, 0] rfl h
    · replace h := h.2 hc
      obtain ⟨hb4, h⟩ := h
      obtain ⟨hb5, h⟩ := h
      refine xr_blk (lv1 := [(0, .ref 67), (1, .int x1), (2, .int x2), (3, .int x3)]) (st1 := [.int ((gA v 65) (x1).toNatClampNeg), .int ((gA v 64) (x1).toNatClampNeg), .int (((x2 * (nI 7)) + (nI 1)) + x3), .ref 67]) (S1 := rt v) (pc1 := 78) [(.aload_n 0, .null, 0, 0), (.iload_n 2, .null, 0, 0), (.bipush 7, .int (nI 7), 0, 0), (.imul, .null, 0, 0), (.iconst 1, .int (nI 1), 0, 0), (.iadd, .null, 0, 0), (.iload_n 3, .null, 0, 0), (.iadd, .null, 0, 0), (.aload_n 0, .null, 0, 0), (.getfield 51, .null, 10, 2), (.getfield 114, .null, 0, 3), (.iload_n 1, .null, 0, 0), (.iaload, .null, 0, 0), (.aload_n 0, .null, 0, 0), (.getfield 51, .null, 10, 2), (.getfield 120, .null, 0, 4), (.iload_n 1, .null, 0, 0), (.iaload, .null, 0, 0)] [(x1, 80), (x1, 80)] (by decide +kernel) rfl ⟨hb4, hb5, trivial⟩ ?_
      refine xk_VV (As := [.int (((x2 * (nI 7)) + (nI 1)) + x3), .int ((gA v 64) (x1).toNatClampNeg), .int ((gA v 65) (x1).toNatClampNeg)]) (bb := 67) (rest := []) (idx := 129) (i0 := 129) (m1 := 100) (ps := [1076, 1078, 32]) (by decide +kernel) (by decide +kernel) (by decide) rfl ((gK_s (by decide)).trans (by decide +kernel)) (by decide) (Nat.le_of_ble_eq_true rfl) rfl h (fun v6 h => ?_)
      refine xr_blk (lv1 := [(3, .int (x3 + (nI 1))), (0, .ref 67), (1, .int x1), (2, .int x2)]) (st1 := []) (S1 := rt v6) (pc1 := 84) [(.iinc 3 1, .int (nI 1), 0, 0)] [] (by decide +kernel) rfl trivial ?_
      refine xr_goto (tgt := 12) (off := -72) (by decide +kernel) (by decide) ?_
      exact x_R.sub [1, 2, 3, 0] rfl h
theorem ok_99 : x_mOK 99 := ⟨x_tm5 (List.mem_of_getElem? (i := 23) rfl) rfl, 112, by decide +kernel⟩
/-! X10_allow: method 100, ScrawlHouse$Years.allow(III)V -/
set_option maxRecDepth 100000 in
theorem w_X10_allow_0 {E : Nat × (Nat → Int32)} {d : Nat} {v : xV} {x1 : Int32} {x2 : Int32} {x3 : Int32} {Q : xV → Prop} (h : vp_in x1 140 ∧ RV E d 100 10 [(0, .ref 67), (1, .int x1), (3, .int x3), (4, .int x2)] (v_A v 70 (upd (gA v 70) (x1).toNatClampNeg (nI 1))) Q) : RV E d 100 0 [(0, .ref 67), (1, .int x1), (2, .int x2), (3, .int x3)] v Q := by
  unfold RV
  obtain ⟨hb1, h⟩ := h
  refine xr_blk (lv1 := [(4, .int x2), (0, .ref 67), (1, .int x1), (2, .int x2), (3, .int x3)]) (st1 := []) (S1 := rt (v_A v 70 (upd (gA v 70) (x1).toNatClampNeg (nI 1)))) (pc1 := 10) [(.aload_n 0, .null, 0, 0), (.getfield 18, .null, 10, 6), (.iload_n 1, .null, 0, 0), (.iconst 1, .int (nI 1), 0, 0), (.bastore, .null, 0, 0), (.iload_n 2, .null, 0, 0), (.istore 4, .null, 0, 0)] [(x1, 140), ((nI 1), 2)] (by decide +kernel) rfl ⟨hb1, x_inl (by decide), trivial⟩ ?_
  exact x_R.sub [1, 2, 4, 0] rfl h
set_option maxRecDepth 100000 in
theorem w_X10_allow_10 {E : Nat × (Nat → Int32)} {d : Nat} {v : xV} {x1 : Int32} {x3 : Int32} {x4 : Int32} {Q : xV → Prop} (h : ((x3 < x4 → Q v) ∧ (¬ x3 < x4 → (((nI 200) ≤ x4 → Q v) ∧ (¬ (nI 200) ≤ x4 → vp_in ((x1 * (nI 4)) + (x4 >>> ((nI 6) &&& 31))) 560 ∧ vp_in ((x1 * (nI 4)) + (x4 >>> ((nI 6) &&& 31))) 560 ∧ RV E d 100 10 [(0, .ref 67), (1, .int x1), (3, .int x3), (4, .int (x4 + (nI 1)))] (v_B v 71 (vp_updL (gB v 71) (((x1 * (nI 4)) + (x4 >>> ((nI 6) &&& 31)))).toNatClampNeg (((gB v 71) (((x1 * (nI 4)) + (x4 >>> ((nI 6) &&& 31)))).toNatClampNeg) ||| ((1 : Int64) <<< (((x4 &&& (nI 63))).toInt64 &&& 63))))) Q))))) : RV E d 100 10 [(0, .ref 67), (1, .int x1), (3, .int x3), (4, .int x4)] v Q := by
  unfold RV
  refine xr_blk (lv1 := [(0, .ref 67), (1, .int x1), (3, .int x3), (4, .int x4)]) (st1 := [.int x3, .int x4]) (S1 := rt v) (pc1 := 13) [(.iload 4, .null, 0, 0), (.iload_n 3, .null, 0, 0)] [] (by decide +kernel) rfl trivial ?_
  refine xr_ic_gt (tgt := 54) (off := 41) (by decide +kernel) (by decide) (fun hc => ?_) (fun hc => ?_)
  · replace h := h.1 hc
    exact xr_ret0 (by decide +kernel) rfl ⟨_, rfl, rfl, h⟩
  · replace h := h.2 hc
    refine xr_blk (lv1 := [(0, .ref 67), (1, .int x1), (3, .int x3), (4, .int x4)]) (st1 := [.int (nI 200), .int x4]) (S1 := rt v) (pc1 := 21) [(.iload 4, .null, 0, 0), (.sipush 200, .int (nI 200), 0, 0)] [] (by decide +kernel) rfl trivial ?_
    refine xr_ic_ge (tgt := 54) (off := 33) (by decide +kernel) (by decide) (fun hc => ?_) (fun hc => ?_)
    · replace h := h.1 hc
      exact xr_ret0 (by decide +kernel) rfl ⟨_, rfl, rfl, h⟩
    · replace h := h.2 hc
      obtain ⟨hb1, h⟩ := h
      obtain ⟨hb2, h⟩ := h
      refine xr_blk (lv1 := [(4, .int (x4 + (nI 1))), (0, .ref 67), (1, .int x1), (3, .int x3)]) (st1 := []) (S1 := rt (v_B v 71 (vp_updL (gB v 71) (((x1 * (nI 4)) + (x4 >>> ((nI 6) &&& 31)))).toNatClampNeg (((gB v 71) (((x1 * (nI 4)) + (x4 >>> ((nI 6) &&& 31)))).toNatClampNeg) ||| ((1 : Int64) <<< (((x4 &&& (nI 63))).toInt64 &&& 63)))))) (pc1 := 51) [(.aload_n 0, .null, 0, 0), (.getfield 22, .null, 10, 7), (.iload_n 1, .null, 0, 0), (.iconst 4, .int (nI 4), 0, 0), (.imul, .null, 0, 0), (.iload 4, .null, 0, 0), (.bipush 6, .int (nI 6), 0, 0), (.ishr, .null, 0, 0), (.iadd, .null, 0, 0), (.dup2, .null, 0, 0), (.laload, .null, 0, 0), (.lconst 1, .long 1, 0, 0), (.iload 4, .null, 0, 0), (.bipush 63, .int (nI 63), 0, 0), (.iand, .null, 0, 0), (.lshl, .null, 0, 0), (.lor, .null, 0, 0), (.lastore, .null, 0, 0), (.iinc 4 1, .int (nI 1), 0, 0)] [(((x1 * (nI 4)) + (x4 >>> ((nI 6) &&& 31))), 560), (((x1 * (nI 4)) + (x4 >>> ((nI 6) &&& 31))), 560)] (by decide +kernel) rfl ⟨hb1, hb2, trivial⟩ ?_
      refine xr_goto (tgt := 10) (off := -41) (by decide +kernel) (by decide) ?_
      exact x_R.sub [1, 2, 3, 0] rfl h
theorem ok_100 : x_mOK 100 := ⟨x_tm5 (List.mem_of_getElem? (i := 19) rfl) rfl, 112, by decide +kernel⟩
/-! X10_mayBe: method 101, ScrawlHouse$Years.mayBe(II)Z -/
set_option maxRecDepth 100000 in
theorem w_X10_mayBe_0 {E : Nat × (Nat → Int32)} {d : Nat} {v : xV} {x1 : Int32} {x2 : Int32} {Q : Int32 → xV → Prop} (h : vp_in x1 52 ∧ ((x2 < ((gA v 68) (x1).toNatClampNeg) → Q (nI 0) v) ∧ (¬ x2 < ((gA v 68) (x1).toNatClampNeg) → vp_in x1 52 ∧ ((x2 ≤ ((gA v 69) (x1).toNatClampNeg) → ((x1 < (nI 20) → ∀ y3 : Int32, y3 = (x1 * (nI 7)) → RI E d 101 35 [(0, .ref 67), (1, .int x1), (2, .int x2), (3, .int y3)] v Q) ∧ (¬ x1 < (nI 20) → Q (nI 1) v))) ∧ (¬ x2 ≤ ((gA v 69) (x1).toNatClampNeg) → Q (nI 0) v))))) : RI E d 101 0 [(0, .ref 67), (1, .int x1), (2, .int x2)] v Q := by
  unfold RI
  obtain ⟨hb1, h⟩ := h
  refine xr_blk (lv1 := [(0, .ref 67), (1, .int x1), (2, .int x2)]) (st1 := [.int ((gA v 68) (x1).toNatClampNeg), .int x2]) (S1 := rt v) (pc1 := 7) [(.iload_n 2, .null, 0, 0), (.aload_n 0, .null, 0, 0), (.getfield 9, .null, 10, 4), (.iload_n 1, .null, 0, 0), (.iaload, .null, 0, 0)] [(x1, 52)] (by decide +kernel) rfl ⟨hb1, trivial⟩ ?_
  refine xr_ic_lt (tgt := 20) (off := 13) (by decide +kernel) (by decide) (fun hc => ?_) (fun hc => ?_)
  · replace h := h.1 hc
    refine xr_blk (lv1 := [(0, .ref 67), (1, .int x1), (2, .int x2)]) (st1 := [.int (nI 0)]) (S1 := rt v) (pc1 := 21) [(.iconst 0, .int (nI 0), 0, 0)] [] (by decide +kernel) rfl trivial ?_
    exact xr_zret (by decide +kernel) rfl x_in2_0 ⟨_, _, rfl, rfl, h⟩
  · replace h := h.2 hc
    obtain ⟨hb2, h⟩ := h
    refine xr_blk (lv1 := [(0, .ref 67), (1, .int x1), (2, .int x2)]) (st1 := [.int ((gA v 69) (x1).toNatClampNeg), .int x2]) (S1 := rt v) (pc1 := 17) [(.iload_n 2, .null, 0, 0), (.aload_n 0, .null, 0, 0), (.getfield 15, .null, 10, 5), (.iload_n 1, .null, 0, 0), (.iaload, .null, 0, 0)] [(x1, 52)] (by decide +kernel) rfl ⟨hb2, trivial⟩ ?_
    refine xr_ic_le (tgt := 22) (off := 5) (by decide +kernel) (by decide) (fun hc => ?_) (fun hc => ?_)
    · replace h := h.1 hc
      refine xr_blk (lv1 := [(0, .ref 67), (1, .int x1), (2, .int x2)]) (st1 := [.int (nI 20), .int x1]) (S1 := rt v) (pc1 := 25) [(.iload_n 1, .null, 0, 0), (.bipush 20, .int (nI 20), 0, 0)] [] (by decide +kernel) rfl trivial ?_
      refine xr_ic_lt (tgt := 30) (off := 5) (by decide +kernel) (by decide) (fun hc => ?_) (fun hc => ?_)
      · replace h := h.1 hc
        refine xr_blk (lv1 := [(0, .ref 67), (1, .int x1), (2, .int x2)]) (st1 := [.int (x1 * (nI 7))]) (S1 := rt v) (pc1 := 34) [(.iload_n 1, .null, 0, 0), (.bipush 7, .int (nI 7), 0, 0), (.imul, .null, 0, 0)] [] (by decide +kernel) rfl trivial ?_
        refine xr_topi (fun y3 ey3 => ?_)
        replace h := h y3 ey3
        refine xr_blk (lv1 := [(3, .int y3), (0, .ref 67), (1, .int x1), (2, .int x2)]) (st1 := []) (S1 := rt v) (pc1 := 35) [(.istore_n 3, .null, 0, 0)] [] (by decide +kernel) rfl trivial ?_
        exact x_R.sub [1, 2, 3, 0] rfl h
      · replace h := h.2 hc
        refine xr_blk (lv1 := [(0, .ref 67), (1, .int x1), (2, .int x2)]) (st1 := [.int (nI 1)]) (S1 := rt v) (pc1 := 29) [(.iconst 1, .int (nI 1), 0, 0)] [] (by decide +kernel) rfl trivial ?_
        exact xr_zret (by decide +kernel) rfl x_in2_1 ⟨_, _, rfl, rfl, h⟩
    · replace h := h.2 hc
      refine xr_blk (lv1 := [(0, .ref 67), (1, .int x1), (2, .int x2)]) (st1 := [.int (nI 0)]) (S1 := rt v) (pc1 := 21) [(.iconst 0, .int (nI 0), 0, 0)] [] (by decide +kernel) rfl trivial ?_
      exact xr_zret (by decide +kernel) rfl x_in2_0 ⟨_, _, rfl, rfl, h⟩
set_option maxRecDepth 100000 in
theorem w_X10_mayBe_35 {E : Nat × (Nat → Int32)} {d : Nat} {v : xV} {x1 : Int32} {x2 : Int32} {x3 : Int32} {Q : Int32 → xV → Prop} (h : ((((x1 + (nI 1)) * (nI 7)) ≤ x3 → Q (nI 1) v) ∧ (¬ ((x1 + (nI 1)) * (nI 7)) ≤ x3 → vp_in x3 140 ∧ ((((gA v 70) (x3).toNatClampNeg) = (nI 0) → RI E d 101 35 [(0, .ref 67), (1, .int x1), (2, .int x2), (3, .int (x3 + (nI 1)))] v Q) ∧ (¬ ((gA v 70) (x3).toNatClampNeg) = (nI 0) → vp_in ((x3 * (nI 4)) + (x2 >>> ((nI 6) &&& 31))) 560 ∧ ((¬ (lg_cmp (((((gB v 71) (((x3 * (nI 4)) + (x2 >>> ((nI 6) &&& 31)))).toNatClampNeg)).toUInt64 >>> (((x2 &&& (nI 63))).toInt64.toUInt64 &&& Int64.toUInt64 63)).toInt64 &&& (1 : Int64)) (0 : Int64)) = (nI 0) → RI E d 101 35 [(0, .ref 67), (1, .int x1), (2, .int x2), (3, .int (x3 + (nI 1)))] v Q) ∧ ((lg_cmp (((((gB v 71) (((x3 * (nI 4)) + (x2 >>> ((nI 6) &&& 31)))).toNatClampNeg)).toUInt64 >>> (((x2 &&& (nI 63))).toInt64.toUInt64 &&& Int64.toUInt64 63)).toInt64 &&& (1 : Int64)) (0 : Int64)) = (nI 0) → Q (nI 0) v))))))) : RI E d 101 35 [(0, .ref 67), (1, .int x1), (2, .int x2), (3, .int x3)] v Q := by
  unfold RI
  refine xr_blk (lv1 := [(0, .ref 67), (1, .int x1), (2, .int x2), (3, .int x3)]) (st1 := [.int ((x1 + (nI 1)) * (nI 7)), .int x3]) (S1 := rt v) (pc1 := 42) [(.iload_n 3, .null, 0, 0), (.iload_n 1, .null, 0, 0), (.iconst 1, .int (nI 1), 0, 0), (.iadd, .null, 0, 0), (.bipush 7, .int (nI 7), 0, 0), (.imul, .null, 0, 0)] [] (by decide +kernel) rfl trivial ?_
  refine xr_ic_ge (tgt := 87) (off := 45) (by decide +kernel) (by decide) (fun hc => ?_) (fun hc => ?_)
  · replace h := h.1 hc
    refine xr_blk (lv1 := [(0, .ref 67), (1, .int x1), (2, .int x2), (3, .int x3)]) (st1 := [.int (nI 1)]) (S1 := rt v) (pc1 := 88) [(.iconst 1, .int (nI 1), 0, 0)] [] (by decide +kernel) rfl trivial ?_
    exact xr_zret (by decide +kernel) rfl x_in2_1 ⟨_, _, rfl, rfl, h⟩
  · replace h := h.2 hc
    obtain ⟨hb1, h⟩ := h
    refine xr_blk (lv1 := [(0, .ref 67), (1, .int x1), (2, .int x2), (3, .int x3)]) (st1 := [.int ((gA v 70) (x3).toNatClampNeg)]) (S1 := rt v) (pc1 := 51) [(.aload_n 0, .null, 0, 0), (.getfield 18, .null, 10, 6), (.iload_n 3, .null, 0, 0), (.baload, .null, 0, 0)] [(x3, 140)] (by decide +kernel) rfl ⟨hb1, trivial⟩ ?_
    refine xr_if_eq (tgt := 81) (off := 30) (by decide +kernel) (by decide) (fun hc => ?_) (fun hc => ?_)
    · replace h := h.1 hc
      refine xr_blk (lv1 := [(3, .int (x3 + (nI 1))), (0, .ref 67), (1, .int x1), (2, .int x2)]) (st1 := []) (S1 := rt v) (pc1 := 84) [(.iinc 3 1, .int (nI 1), 0, 0)] [] (by decide +kernel) rfl trivial ?_
      refine xr_goto (tgt := 35) (off := -49) (by decide +kernel) (by decide) ?_
      exact x_R.sub [1, 2, 3, 0] rfl h
    · replace h := h.2 hc
      obtain ⟨hb2, h⟩ := h
      refine xr_blk (lv1 := [(0, .ref 67), (1, .int x1), (2, .int x2), (3, .int x3)]) (st1 := [.int (lg_cmp (((((gB v 71) (((x3 * (nI 4)) + (x2 >>> ((nI 6) &&& 31)))).toNatClampNeg)).toUInt64 >>> (((x2 &&& (nI 63))).toInt64.toUInt64 &&& Int64.toUInt64 63)).toInt64 &&& (1 : Int64)) (0 : Int64))]) (S1 := rt v) (pc1 := 76) [(.aload_n 0, .null, 0, 0), (.getfield 22, .null, 10, 7), (.iload_n 3, .null, 0, 0), (.iconst 4, .int (nI 4), 0, 0), (.imul, .null, 0, 0), (.iload_n 2, .null, 0, 0), (.bipush 6, .int (nI 6), 0, 0), (.ishr, .null, 0, 0), (.iadd, .null, 0, 0), (.laload, .null, 0, 0), (.iload_n 2, .null, 0, 0), (.bipush 63, .int (nI 63), 0, 0), (.iand, .null, 0, 0), (.lushr, .null, 0, 0), (.lconst 1, .long 1, 0, 0), (.land, .null, 0, 0), (.lconst 0, .long 0, 0, 0), (.lcmp, .null, 0, 0)] [(((x3 * (nI 4)) + (x2 >>> ((nI 6) &&& 31))), 560)] (by decide +kernel) rfl ⟨hb2, trivial⟩ ?_
      refine xr_if_ne (tgt := 81) (off := 5) (by decide +kernel) (by decide) (fun hc => ?_) (fun hc => ?_)
      · replace h := h.1 hc
        refine xr_blk (lv1 := [(3, .int (x3 + (nI 1))), (0, .ref 67), (1, .int x1), (2, .int x2)]) (st1 := []) (S1 := rt v) (pc1 := 84) [(.iinc 3 1, .int (nI 1), 0, 0)] [] (by decide +kernel) rfl trivial ?_
        refine xr_goto (tgt := 35) (off := -49) (by decide +kernel) (by decide) ?_
        exact x_R.sub [1, 2, 3, 0] rfl h
      · replace h := h.2 hc
        refine xr_blk (lv1 := [(0, .ref 67), (1, .int x1), (2, .int x2), (3, .int x3)]) (st1 := [.int (nI 0)]) (S1 := rt v) (pc1 := 80) [(.iconst 0, .int (nI 0), 0, 0)] [] (by decide +kernel) rfl trivial ?_
        exact xr_zret (by decide +kernel) rfl x_in2_0 ⟨_, _, rfl, rfl, h⟩
theorem ok_101 : x_mOK 101 := ⟨x_tm5 (List.mem_of_getElem? (i := 35) rfl) rfl, 112, by decide +kernel⟩
/-! X10_firstYear: method 102, ScrawlHouse$Years.firstYear(II)I -/
set_option maxRecDepth 100000 in
theorem w_X10_firstYear_0 {E : Nat × (Nat → Int32)} {d : Nat} {v : xV} {x1 : Int32} {x2 : Int32} {Q : Int32 → xV → Prop} (h : RI E (d + 1) 102 2 [(0, .ref 67), (1, .int x1), (3, .int x2)] v Q) : RI E (d + 1) 102 0 [(0, .ref 67), (1, .int x1), (2, .int x2)] v Q := by
  unfold RI
  refine xr_blk (lv1 := [(3, .int x2), (0, .ref 67), (1, .int x1), (2, .int x2)]) (st1 := []) (S1 := rt v) (pc1 := 2) [(.iload_n 2, .null, 0, 0), (.istore_n 3, .null, 0, 0)] [] (by decide +kernel) rfl trivial ?_
  exact x_R.sub [1, 2, 0] rfl h
set_option maxRecDepth 100000 in
theorem w_X10_firstYear_2 {E : Nat × (Nat → Int32)} {d : Nat} {v : xV} {x1 : Int32} {x3 : Int32} {Q : Int32 → xV → Prop} (h : (((nI 200) ≤ x3 → Q (nI 200) v) ∧ (¬ (nI 200) ≤ x3 → KI E d 101 [.ref 67, .int x1, .int x3] v (fun y2 v1 => ((y2 = (nI 0) → RI E (d + 1) 102 2 [(0, .ref 67), (1, .int x1), (3, .int (x3 + (nI 1)))] v1 Q) ∧ (¬ y2 = (nI 0) → Q x3 v1)))))) : RI E (d + 1) 102 2 [(0, .ref 67), (1, .int x1), (3, .int x3)] v Q := by
  unfold RI
  refine xr_blk (lv1 := [(0, .ref 67), (1, .int x1), (3, .int x3)]) (st1 := [.int (nI 200), .int x3]) (S1 := rt v) (pc1 := 6) [(.iload_n 3, .null, 0, 0), (.sipush 200, .int (nI 200), 0, 0)] [] (by decide +kernel) rfl trivial ?_
  refine xr_ic_ge (tgt := 26) (off := 20) (by decide +kernel) (by decide) (fun hc => ?_) (fun hc => ?_)
  · replace h := h.1 hc
    refine xr_blk (lv1 := [(0, .ref 67), (1, .int x1), (3, .int x3)]) (st1 := [.int (nI 200)]) (S1 := rt v) (pc1 := 29) [(.sipush 200, .int (nI 200), 0, 0)] [] (by decide +kernel) rfl trivial ?_
    exact xr_iret (by decide +kernel) rfl ⟨_, _, rfl, rfl, h⟩
  · replace h := h.2 hc
    refine xr_blk (lv1 := [(0, .ref 67), (1, .int x1), (3, .int x3)]) (st1 := [.int x3, .int x1, .ref 67]) (S1 := rt v) (pc1 := 12) [(.aload_n 0, .null, 0, 0), (.iload_n 1, .null, 0, 0), (.iload_n 3, .null, 0, 0)] [] (by decide +kernel) rfl trivial ?_
    refine xk_VI (As := [.int x1, .int x3]) (bb := 67) (rest := []) (idx := 139) (i0 := 139) (m1 := 101) (ps := [1092, 1094, 36]) (by decide +kernel) (by decide +kernel) (by decide) rfl ((gK_s (by decide)).trans (by decide +kernel)) (by decide) (Nat.le_of_ble_eq_true rfl) rfl h (fun y2 v1 h => ?_)
    refine xr_if_eq (tgt := 20) (off := 5) (by decide +kernel) (by decide) (fun hc => ?_) (fun hc => ?_)
    · replace h := h.1 hc
      refine xr_blk (lv1 := [(3, .int (x3 + (nI 1))), (0, .ref 67), (1, .int x1)]) (st1 := []) (S1 := rt v1) (pc1 := 23) [(.iinc 3 1, .int (nI 1), 0, 0)] [] (by decide +kernel) rfl trivial ?_
      refine xr_goto (tgt := 2) (off := -21) (by decide +kernel) (by decide) ?_
      exact x_R.sub [1, 2, 0] rfl h
    · replace h := h.2 hc
      refine xr_blk (lv1 := [(0, .ref 67), (1, .int x1), (3, .int x3)]) (st1 := [.int x3]) (S1 := rt v1) (pc1 := 19) [(.iload_n 3, .null, 0, 0)] [] (by decide +kernel) rfl trivial ?_
      exact xr_iret (by decide +kernel) rfl ⟨_, _, rfl, rfl, h⟩
theorem ok_102 : x_mOK 102 := ⟨x_tm5 (List.mem_of_getElem? (i := 31) rfl) rfl, 112, by decide +kernel⟩
/-! X10_lastYear: method 103, ScrawlHouse$Years.lastYear(II)I -/
set_option maxRecDepth 100000 in
theorem w_X10_lastYear_0 {E : Nat × (Nat → Int32)} {d : Nat} {v : xV} {x1 : Int32} {x2 : Int32} {Q : Int32 → xV → Prop} (h : RI E (d + 1) 103 2 [(0, .ref 67), (1, .int x1), (3, .int x2)] v Q) : RI E (d + 1) 103 0 [(0, .ref 67), (1, .int x1), (2, .int x2)] v Q := by
  unfold RI
  refine xr_blk (lv1 := [(3, .int x2), (0, .ref 67), (1, .int x1), (2, .int x2)]) (st1 := []) (S1 := rt v) (pc1 := 2) [(.iload_n 2, .null, 0, 0), (.istore_n 3, .null, 0, 0)] [] (by decide +kernel) rfl trivial ?_
  exact x_R.sub [1, 2, 0] rfl h
set_option maxRecDepth 100000 in
theorem w_X10_lastYear_2 {E : Nat × (Nat → Int32)} {d : Nat} {v : xV} {x1 : Int32} {x3 : Int32} {Q : Int32 → xV → Prop} (h : ((x3 < (nI 0) → Q (-1 : Int32) v) ∧ (¬ x3 < (nI 0) → KI E d 101 [.ref 67, .int x1, .int x3] v (fun y2 v1 => ((y2 = (nI 0) → RI E (d + 1) 103 2 [(0, .ref 67), (1, .int x1), (3, .int (x3 + (-1 : Int32)))] v1 Q) ∧ (¬ y2 = (nI 0) → Q x3 v1)))))) : RI E (d + 1) 103 2 [(0, .ref 67), (1, .int x1), (3, .int x3)] v Q := by
  unfold RI
  refine xr_blk (lv1 := [(0, .ref 67), (1, .int x1), (3, .int x3)]) (st1 := [.int x3]) (S1 := rt v) (pc1 := 3) [(.iload_n 3, .null, 0, 0)] [] (by decide +kernel) rfl trivial ?_
  refine xr_if_lt (tgt := 23) (off := 20) (by decide +kernel) (by decide) (fun hc => ?_) (fun hc => ?_)
  · replace h := h.1 hc
    refine xr_blk (lv1 := [(0, .ref 67), (1, .int x1), (3, .int x3)]) (st1 := [.int (-1)]) (S1 := rt v) (pc1 := 24) [(.iconst (-1), .int (-1), 0, 0)] [] (by decide +kernel) rfl trivial ?_
    exact xr_iret (by decide +kernel) rfl ⟨_, _, rfl, rfl, h⟩
  · replace h := h.2 hc
    refine xr_blk (lv1 := [(0, .ref 67), (1, .int x1), (3, .int x3)]) (st1 := [.int x3, .int x1, .ref 67]) (S1 := rt v) (pc1 := 9) [(.aload_n 0, .null, 0, 0), (.iload_n 1, .null, 0, 0), (.iload_n 3, .null, 0, 0)] [] (by decide +kernel) rfl trivial ?_
    refine xk_VI (As := [.int x1, .int x3]) (bb := 67) (rest := []) (idx := 139) (i0 := 139) (m1 := 101) (ps := [1092, 1094, 36]) (by decide +kernel) (by decide +kernel) (by decide) rfl ((gK_s (by decide)).trans (by decide +kernel)) (by decide) (Nat.le_of_ble_eq_true rfl) rfl h (fun y2 v1 h => ?_)
    refine xr_if_eq (tgt := 17) (off := 5) (by decide +kernel) (by decide) (fun hc => ?_) (fun hc => ?_)
    · replace h := h.1 hc
      refine xr_blk (lv1 := [(3, .int (x3 + (-1 : Int32))), (0, .ref 67), (1, .int x1)]) (st1 := []) (S1 := rt v1) (pc1 := 20) [(.iinc 3 (-1), .int (-1), 0, 0)] [] (by decide +kernel) rfl trivial ?_
      refine xr_goto (tgt := 2) (off := -18) (by decide +kernel) (by decide) ?_
      exact x_R.sub [1, 2, 0] rfl h
    · replace h := h.2 hc
      refine xr_blk (lv1 := [(0, .ref 67), (1, .int x1), (3, .int x3)]) (st1 := [.int x3]) (S1 := rt v1) (pc1 := 16) [(.iload_n 3, .null, 0, 0)] [] (by decide +kernel) rfl trivial ?_
      exact xr_iret (by decide +kernel) rfl ⟨_, _, rfl, rfl, h⟩
theorem ok_103 : x_mOK 103 := ⟨x_tm5 (List.mem_of_getElem? (i := 60) rfl) rfl, 112, by decide +kernel⟩
/-! X10_settleLeast: method 104, ScrawlHouse$Years.settleLeast()Z -/
set_option maxRecDepth 100000 in
theorem w_X10_settleLeast_0 {E : Nat × (Nat → Int32)} {d : Nat} {v : xV} {Q : Int32 → xV → Prop} (h : RI E (d + 1) 104 2 [(0, .ref 67), (1, .int (nI 0))] v Q) : RI E (d + 1) 104 0 [(0, .ref 67)] v Q := by
  unfold RI
  refine xr_blk (lv1 := [(1, .int (nI 0)), (0, .ref 67)]) (st1 := []) (S1 := rt v) (pc1 := 2) [(.iconst 0, .int (nI 0), 0, 0), (.istore_n 1, .null, 0, 0)] [] (by decide +kernel) rfl trivial ?_
  exact x_R.sub [1, 0] rfl h
set_option maxRecDepth 100000 in
theorem w_X10_settleLeast_2 {E : Nat × (Nat → Int32)} {d : Nat} {v : xV} {x1 : Int32} {Q : Int32 → xV → Prop} (h : (((nI 52) ≤ x1 → RI E (d + 1) 104 30 [(0, .ref 67), (1, .int (nI 1)), (2, .int (nI 0))] v Q) ∧ (¬ (nI 52) ≤ x1 → KI E d 102 [.ref 67, .int x1, .int (nI 0)] v (fun y2 v1 => vp_in x1 52 ∧ RI E (d + 1) 104 2 [(0, .ref 67), (1, .int (x1 + (nI 1)))] (v_A v1 72 (upd (gA v1 72) (x1).toNatClampNeg y2)) Q)))) : RI E (d + 1) 104 2 [(0, .ref 67), (1, .int x1)] v Q := by
  unfold RI
  refine xr_blk (lv1 := [(0, .ref 67), (1, .int x1)]) (st1 := [.int (nI 52), .int x1]) (S1 := rt v) (pc1 := 5) [(.iload_n 1, .null, 0, 0), (.bipush 52, .int (nI 52), 0, 0)] [] (by decide +kernel) rfl trivial ?_
  refine xr_ic_ge (tgt := 26) (off := 21) (by decide +kernel) (by decide) (fun hc => ?_) (fun hc => ?_)
  · replace h := h.1 hc
    refine xr_blk (lv1 := [(2, .int (nI 0)), (1, .int (nI 1)), (0, .ref 67)]) (st1 := []) (S1 := rt v) (pc1 := 30) [(.iconst 1, .int (nI 1), 0, 0), (.istore_n 1, .null, 0, 0), (.iconst 0, .int (nI 0), 0, 0), (.istore_n 2, .null, 0, 0)] [] (by decide +kernel) rfl trivial ?_
    exact x_R.sub [2, 1, 0] rfl h
  · replace h := h.2 hc
    refine xr_blk (lv1 := [(0, .ref 67), (1, .int x1)]) (st1 := [.int (nI 0), .int x1, .ref 67, .int x1, .ref 72]) (S1 := rt v) (pc1 := 16) [(.aload_n 0, .null, 0, 0), (.getfield 26, .null, 10, 8), (.iload_n 1, .null, 0, 0), (.aload_n 0, .null, 0, 0), (.iload_n 1, .null, 0, 0), (.iconst 0, .int (nI 0), 0, 0)] [] (by decide +kernel) rfl trivial ?_
    refine xk_VI (As := [.int x1, .int (nI 0)]) (bb := 67) (rest := [.int x1, .ref 72]) (idx := 143) (i0 := 143) (m1 := 102) (ps := [1088, 1090, 35]) (by decide +kernel) (by decide +kernel) (by decide) rfl ((gK_s (by decide)).trans (by decide +kernel)) (by decide) (Nat.le_of_ble_eq_true rfl) rfl h (fun y2 v1 h => ?_)
    obtain ⟨hb3, h⟩ := h
    refine xr_blk (lv1 := [(1, .int (x1 + (nI 1))), (0, .ref 67)]) (st1 := []) (S1 := rt (v_A v1 72 (upd (gA v1 72) (x1).toNatClampNeg y2))) (pc1 := 23) [(.iastore, .null, 0, 0), (.iinc 1 1, .int (nI 1), 0, 0)] [(x1, 52)] (by decide +kernel) rfl ⟨hb3, trivial⟩ ?_
    refine xr_goto (tgt := 2) (off := -21) (by decide +kernel) (by decide) ?_
    exact x_R.sub [1, 0] rfl h
set_option maxRecDepth 100000 in
theorem w_X10_settleLeast_30 {E : Nat × (Nat → Int32)} {d : Nat} {v : xV} {x1 : Int32} {x2 : Int32} {Q : Int32 → xV → Prop} (h : (((nI 10453) ≤ x2 → RI E (d + 1) 104 67 [(0, .ref 67)] v Q) ∧ (¬ (nI 10453) ≤ x2 → ((x1 = (nI 0) → RI E (d + 1) 104 67 [(0, .ref 67)] v Q) ∧ (¬ x1 = (nI 0) → KI E d 105 [.ref 67] v (fun y2 v1 => ((y2 = (nI 0) → RI E (d + 1) 104 30 [(0, .ref 67), (1, .int (nI 0)), (2, .int (x2 + (nI 1)))] v1 Q) ∧ (¬ y2 = (nI 0) → KI E d 107 [.ref 67] v1 (fun y4 v3 => ((y4 = (nI 0) → RI E (d + 1) 104 30 [(0, .ref 67), (1, .int (nI 0)), (2, .int (x2 + (nI 1)))] v3 Q) ∧ (¬ y4 = (nI 0) → RI E (d + 1) 104 30 [(0, .ref 67), (1, .int (nI 1)), (2, .int (x2 + (nI 1)))] v3 Q))))))))))) : RI E (d + 1) 104 30 [(0, .ref 67), (1, .int x1), (2, .int x2)] v Q := by
  unfold RI
  refine xr_blk (lv1 := [(0, .ref 67), (1, .int x1), (2, .int x2)]) (st1 := [.int (nI 10453), .int x2]) (S1 := rt v) (pc1 := 34) [(.iload_n 2, .null, 0, 0), (.sipush 10453, .int (nI 10453), 0, 0)] [] (by decide +kernel) rfl trivial ?_
  refine xr_ic_ge (tgt := 67) (off := 33) (by decide +kernel) (by decide) (fun hc => ?_) (fun hc => ?_)
  · replace h := h.1 hc
    exact x_R.sub [0] rfl h
  · replace h := h.2 hc
    refine xr_blk (lv1 := [(0, .ref 67), (1, .int x1), (2, .int x2)]) (st1 := [.int x1]) (S1 := rt v) (pc1 := 38) [(.iload_n 1, .null, 0, 0)] [] (by decide +kernel) rfl trivial ?_
    refine xr_if_eq (tgt := 67) (off := 29) (by decide +kernel) (by decide) (fun hc => ?_) (fun hc => ?_)
    · replace h := h.1 hc
      exact x_R.sub [0] rfl h
    · replace h := h.2 hc
      refine xr_blk (lv1 := [(0, .ref 67), (1, .int x1), (2, .int x2)]) (st1 := [.ref 67]) (S1 := rt v) (pc1 := 42) [(.aload_n 0, .null, 0, 0)] [] (by decide +kernel) rfl trivial ?_
      refine xk_VI (As := []) (bb := 67) (rest := []) (idx := 146) (i0 := 146) (m1 := 105) (ps := [1096, 1098, 37]) (by decide +kernel) (by decide +kernel) (by decide) rfl ((gK_s (by decide)).trans (by decide +kernel)) (by decide) (Nat.le_of_ble_eq_true rfl) rfl h (fun y2 v1 h => ?_)
      refine xr_if_eq (tgt := 59) (off := 14) (by decide +kernel) (by decide) (fun hc => ?_) (fun hc => ?_)
      · replace h := h.1 hc
        refine xr_blk (lv1 := [(2, .int (x2 + (nI 1))), (1, .int (nI 0)), (0, .ref 67)]) (st1 := []) (S1 := rt v1) (pc1 := 64) [(.iconst 0, .int (nI 0), 0, 0), (.istore_n 1, .null, 0, 0), (.iinc 2 1, .int (nI 1), 0, 0)] [] (by decide +kernel) rfl trivial ?_
        refine xr_goto (tgt := 30) (off := -34) (by decide +kernel) (by decide) ?_
        exact x_R.sub [2, 1, 0] rfl h
      · replace h := h.2 hc
        refine xr_blk (lv1 := [(0, .ref 67), (1, .int x1), (2, .int x2)]) (st1 := [.ref 67]) (S1 := rt v1) (pc1 := 49) [(.aload_n 0, .null, 0, 0)] [] (by decide +kernel) rfl trivial ?_
        refine xk_VI (As := []) (bb := 67) (rest := []) (idx := 149) (i0 := 149) (m1 := 107) (ps := [1100, 1102, 38]) (by decide +kernel) (by decide +kernel) (by decide) rfl ((gK_s (by decide)).trans (by decide +kernel)) (by decide) (Nat.le_of_ble_eq_true rfl) rfl h (fun y4 v3 h => ?_)
        refine xr_if_eq (tgt := 59) (off := 7) (by decide +kernel) (by decide) (fun hc => ?_) (fun hc => ?_)
        · replace h := h.1 hc
          refine xr_blk (lv1 := [(2, .int (x2 + (nI 1))), (1, .int (nI 0)), (0, .ref 67)]) (st1 := []) (S1 := rt v3) (pc1 := 64) [(.iconst 0, .int (nI 0), 0, 0), (.istore_n 1, .null, 0, 0), (.iinc 2 1, .int (nI 1), 0, 0)] [] (by decide +kernel) rfl trivial ?_
          refine xr_goto (tgt := 30) (off := -34) (by decide +kernel) (by decide) ?_
          exact x_R.sub [2, 1, 0] rfl h
        · replace h := h.2 hc
          refine xr_blk (lv1 := [(0, .ref 67), (1, .int x1), (2, .int x2)]) (st1 := [.int (nI 1)]) (S1 := rt v3) (pc1 := 56) [(.iconst 1, .int (nI 1), 0, 0)] [] (by decide +kernel) rfl trivial ?_
          refine xr_goto (tgt := 60) (off := 4) (by decide +kernel) (by decide) ?_
          refine xr_blk (lv1 := [(2, .int (x2 + (nI 1))), (1, .int (nI 1)), (0, .ref 67)]) (st1 := []) (S1 := rt v3) (pc1 := 64) [(.istore_n 1, .null, 0, 0), (.iinc 2 1, .int (nI 1), 0, 0)] [] (by decide +kernel) rfl trivial ?_
          refine xr_goto (tgt := 30) (off := -34) (by decide +kernel) (by decide) ?_
          exact x_R.sub [2, 1, 0] rfl h
set_option maxRecDepth 100000 in
theorem w_X10_settleLeast_67 {E : Nat × (Nat → Int32)} {d : Nat} {v : xV} {Q : Int32 → xV → Prop} (h : KI E d 105 [.ref 67] v (fun y2 v1 => vp_in y2 2 ∧ Q y2 v1)) : RI E (d + 1) 104 67 [(0, .ref 67)] v Q := by
  unfold RI
  refine xr_blk (lv1 := [(0, .ref 67)]) (st1 := [.ref 67]) (S1 := rt v) (pc1 := 68) [(.aload_n 0, .null, 0, 0)] [] (by decide +kernel) rfl trivial ?_
  refine xk_VI (As := []) (bb := 67) (rest := []) (idx := 146) (i0 := 146) (m1 := 105) (ps := [1096, 1098, 37]) (by decide +kernel) (by decide +kernel) (by decide) rfl ((gK_s (by decide)).trans (by decide +kernel)) (by decide) (Nat.le_of_ble_eq_true rfl) rfl h (fun y2 v1 h => ?_)
  obtain ⟨hz, h⟩ := h
  exact xr_zret (by decide +kernel) rfl hz ⟨_, _, rfl, rfl, h⟩
theorem ok_104 : x_mOK 104 := ⟨x_tm5 (List.mem_of_getElem? (i := 27) rfl) rfl, 112, by decide +kernel⟩
/-! X10_allHaveYears: method 105, ScrawlHouse$Years.allHaveYears()Z -/
set_option maxRecDepth 100000 in
theorem w_X10_allHaveYears_0 {E : Nat × (Nat → Int32)} {d : Nat} {v : xV} {Q : Int32 → xV → Prop} (h : RI E d 105 2 [(0, .ref 67), (1, .int (nI 0))] v Q) : RI E d 105 0 [(0, .ref 67)] v Q := by
  unfold RI
  refine xr_blk (lv1 := [(1, .int (nI 0)), (0, .ref 67)]) (st1 := []) (S1 := rt v) (pc1 := 2) [(.iconst 0, .int (nI 0), 0, 0), (.istore_n 1, .null, 0, 0)] [] (by decide +kernel) rfl trivial ?_
  exact x_R.sub [1, 0] rfl h
set_option maxRecDepth 100000 in
theorem w_X10_allHaveYears_2 {E : Nat × (Nat → Int32)} {d : Nat} {v : xV} {x1 : Int32} {Q : Int32 → xV → Prop} (h : (((nI 52) ≤ x1 → Q (nI 1) v) ∧ (¬ (nI 52) ≤ x1 → vp_in x1 52 ∧ ((((gA v 72) (x1).toNatClampNeg) < (nI 200) → RI E d 105 2 [(0, .ref 67), (1, .int (x1 + (nI 1)))] v Q) ∧ (¬ ((gA v 72) (x1).toNatClampNeg) < (nI 200) → Q (nI 0) v))))) : RI E d 105 2 [(0, .ref 67), (1, .int x1)] v Q := by
  unfold RI
  refine xr_blk (lv1 := [(0, .ref 67), (1, .int x1)]) (st1 := [.int (nI 52), .int x1]) (S1 := rt v) (pc1 := 5) [(.iload_n 1, .null, 0, 0), (.bipush 52, .int (nI 52), 0, 0)] [] (by decide +kernel) rfl trivial ?_
  refine xr_ic_ge (tgt := 28) (off := 23) (by decide +kernel) (by decide) (fun hc => ?_) (fun hc => ?_)
  · replace h := h.1 hc
    refine xr_blk (lv1 := [(0, .ref 67), (1, .int x1)]) (st1 := [.int (nI 1)]) (S1 := rt v) (pc1 := 29) [(.iconst 1, .int (nI 1), 0, 0)] [] (by decide +kernel) rfl trivial ?_
    exact xr_zret (by decide +kernel) rfl x_in2_1 ⟨_, _, rfl, rfl, h⟩
  · replace h := h.2 hc
    obtain ⟨hb1, h⟩ := h
    refine xr_blk (lv1 := [(0, .ref 67), (1, .int x1)]) (st1 := [.int (nI 200), .int ((gA v 72) (x1).toNatClampNeg)]) (S1 := rt v) (pc1 := 17) [(.aload_n 0, .null, 0, 0), (.getfield 26, .null, 10, 8), (.iload_n 1, .null, 0, 0), (.iaload, .null, 0, 0), (.sipush 200, .int (nI 200), 0, 0)] [(x1, 52)] (by decide +kernel) rfl ⟨hb1, trivial⟩ ?_
    refine xr_ic_lt (tgt := 22) (off := 5) (by decide +kernel) (by decide) (fun hc => ?_) (fun hc => ?_)
    · replace h := h.1 hc
      refine xr_blk (lv1 := [(1, .int (x1 + (nI 1))), (0, .ref 67)]) (st1 := []) (S1 := rt v) (pc1 := 25) [(.iinc 1 1, .int (nI 1), 0, 0)] [] (by decide +kernel) rfl trivial ?_
      refine xr_goto (tgt := 2) (off := -23) (by decide +kernel) (by decide) ?_
      exact x_R.sub [1, 0] rfl h
    · replace h := h.2 hc
      refine xr_blk (lv1 := [(0, .ref 67), (1, .int x1)]) (st1 := [.int (nI 0)]) (S1 := rt v) (pc1 := 21) [(.iconst 0, .int (nI 0), 0, 0)] [] (by decide +kernel) rfl trivial ?_
      exact xr_zret (by decide +kernel) rfl x_in2_0 ⟨_, _, rfl, rfl, h⟩
theorem ok_105 : x_mOK 105 := ⟨x_tm5 (List.mem_of_getElem? (i := 39) rfl) rfl, 112, by decide +kernel⟩
/-! X10_settleGreatest: method 106, ScrawlHouse$Years.settleGreatest()V -/
set_option maxRecDepth 100000 in
theorem w_X10_settleGreatest_0 {E : Nat × (Nat → Int32)} {d : Nat} {v : xV} {Q : xV → Prop} (h : RV E (d + 1) 106 2 [(0, .ref 67), (1, .int (nI 0))] v Q) : RV E (d + 1) 106 0 [(0, .ref 67)] v Q := by
  unfold RV
  refine xr_blk (lv1 := [(1, .int (nI 0)), (0, .ref 67)]) (st1 := []) (S1 := rt v) (pc1 := 2) [(.iconst 0, .int (nI 0), 0, 0), (.istore_n 1, .null, 0, 0)] [] (by decide +kernel) rfl trivial ?_
  exact x_R.sub [1, 0] rfl h
set_option maxRecDepth 100000 in
theorem w_X10_settleGreatest_2 {E : Nat × (Nat → Int32)} {d : Nat} {v : xV} {x1 : Int32} {Q : xV → Prop} (h : (((nI 52) ≤ x1 → RV E (d + 1) 106 32 [(0, .ref 67), (1, .int (nI 1)), (2, .int (nI 0))] v Q) ∧ (¬ (nI 52) ≤ x1 → KI E d 103 [.ref 67, .int x1, .int (nI 199)] v (fun y2 v1 => vp_in x1 52 ∧ RV E (d + 1) 106 2 [(0, .ref 67), (1, .int (x1 + (nI 1)))] (v_A v1 73 (upd (gA v1 73) (x1).toNatClampNeg y2)) Q)))) : RV E (d + 1) 106 2 [(0, .ref 67), (1, .int x1)] v Q := by
  unfold RV
  refine xr_blk (lv1 := [(0, .ref 67), (1, .int x1)]) (st1 := [.int (nI 52), .int x1]) (S1 := rt v) (pc1 := 5) [(.iload_n 1, .null, 0, 0), (.bipush 52, .int (nI 52), 0, 0)] [] (by decide +kernel) rfl trivial ?_
  refine xr_ic_ge (tgt := 28) (off := 23) (by decide +kernel) (by decide) (fun hc => ?_) (fun hc => ?_)
  · replace h := h.1 hc
    refine xr_blk (lv1 := [(2, .int (nI 0)), (1, .int (nI 1)), (0, .ref 67)]) (st1 := []) (S1 := rt v) (pc1 := 32) [(.iconst 1, .int (nI 1), 0, 0), (.istore_n 1, .null, 0, 0), (.iconst 0, .int (nI 0), 0, 0), (.istore_n 2, .null, 0, 0)] [] (by decide +kernel) rfl trivial ?_
    exact x_R.sub [2, 1, 0] rfl h
  · replace h := h.2 hc
    refine xr_blk (lv1 := [(0, .ref 67), (1, .int x1)]) (st1 := [.int (nI 199), .int x1, .ref 67, .int x1, .ref 73]) (S1 := rt v) (pc1 := 18) [(.aload_n 0, .null, 0, 0), (.getfield 29, .null, 10, 9), (.iload_n 1, .null, 0, 0), (.aload_n 0, .null, 0, 0), (.iload_n 1, .null, 0, 0), (.sipush 199, .int (nI 199), 0, 0)] [] (by decide +kernel) rfl trivial ?_
    refine xk_VI (As := [.int x1, .int (nI 199)]) (bb := 67) (rest := [.int x1, .ref 73]) (idx := 152) (i0 := 152) (m1 := 103) (ps := [1117, 1119, 42]) (by decide +kernel) (by decide +kernel) (by decide) rfl ((gK_s (by decide)).trans (by decide +kernel)) (by decide) (Nat.le_of_ble_eq_true rfl) rfl h (fun y2 v1 h => ?_)
    obtain ⟨hb3, h⟩ := h
    refine xr_blk (lv1 := [(1, .int (x1 + (nI 1))), (0, .ref 67)]) (st1 := []) (S1 := rt (v_A v1 73 (upd (gA v1 73) (x1).toNatClampNeg y2))) (pc1 := 25) [(.iastore, .null, 0, 0), (.iinc 1 1, .int (nI 1), 0, 0)] [(x1, 52)] (by decide +kernel) rfl ⟨hb3, trivial⟩ ?_
    refine xr_goto (tgt := 2) (off := -23) (by decide +kernel) (by decide) ?_
    exact x_R.sub [1, 0] rfl h
set_option maxRecDepth 100000 in
theorem w_X10_settleGreatest_32 {E : Nat × (Nat → Int32)} {d : Nat} {v : xV} {x1 : Int32} {x2 : Int32} {Q : xV → Prop} (h : (((nI 10453) ≤ x2 → Q v) ∧ (¬ (nI 10453) ≤ x2 → ((x1 = (nI 0) → Q v) ∧ (¬ x1 = (nI 0) → KI E d 108 [.ref 67] v (fun y2 v1 => RV E (d + 1) 106 32 [(0, .ref 67), (1, .int y2), (2, .int (x2 + (nI 1)))] v1 Q)))))) : RV E (d + 1) 106 32 [(0, .ref 67), (1, .int x1), (2, .int x2)] v Q := by
  unfold RV
  refine xr_blk (lv1 := [(0, .ref 67), (1, .int x1), (2, .int x2)]) (st1 := [.int (nI 10453), .int x2]) (S1 := rt v) (pc1 := 36) [(.iload_n 2, .null, 0, 0), (.sipush 10453, .int (nI 10453), 0, 0)] [] (by decide +kernel) rfl trivial ?_
  refine xr_ic_ge (tgt := 54) (off := 18) (by decide +kernel) (by decide) (fun hc => ?_) (fun hc => ?_)
  · replace h := h.1 hc
    exact xr_ret0 (by decide +kernel) rfl ⟨_, rfl, rfl, h⟩
  · replace h := h.2 hc
    refine xr_blk (lv1 := [(0, .ref 67), (1, .int x1), (2, .int x2)]) (st1 := [.int x1]) (S1 := rt v) (pc1 := 40) [(.iload_n 1, .null, 0, 0)] [] (by decide +kernel) rfl trivial ?_
    refine xr_if_eq (tgt := 54) (off := 14) (by decide +kernel) (by decide) (fun hc => ?_) (fun hc => ?_)
    · replace h := h.1 hc
      exact xr_ret0 (by decide +kernel) rfl ⟨_, rfl, rfl, h⟩
    · replace h := h.2 hc
      refine xr_blk (lv1 := [(0, .ref 67), (1, .int x1), (2, .int x2)]) (st1 := [.ref 67]) (S1 := rt v) (pc1 := 44) [(.aload_n 0, .null, 0, 0)] [] (by decide +kernel) rfl trivial ?_
      refine xk_VI (As := []) (bb := 67) (rest := []) (idx := 155) (i0 := 155) (m1 := 108) (ps := [1121, 1123, 43]) (by decide +kernel) (by decide +kernel) (by decide) rfl ((gK_s (by decide)).trans (by decide +kernel)) (by decide) (Nat.le_of_ble_eq_true rfl) rfl h (fun y2 v1 h => ?_)
      refine xr_blk (lv1 := [(2, .int (x2 + (nI 1))), (1, .int y2), (0, .ref 67)]) (st1 := []) (S1 := rt v1) (pc1 := 51) [(.istore_n 1, .null, 0, 0), (.iinc 2 1, .int (nI 1), 0, 0)] [] (by decide +kernel) rfl trivial ?_
      refine xr_goto (tgt := 32) (off := -19) (by decide +kernel) (by decide) ?_
      exact x_R.sub [2, 1, 0] rfl h
theorem ok_106 : x_mOK 106 := ⟨x_tm5 (List.mem_of_getElem? (i := 56) rfl) rfl, 112, by decide +kernel⟩
/-! X10_sweepUp: method 107, ScrawlHouse$Years.sweepUp()Z -/
set_option maxRecDepth 100000 in
theorem w_X10_sweepUp_0 {E : Nat × (Nat → Int32)} {d : Nat} {v : xV} {Q : Int32 → xV → Prop} (h : RI E (d + 1) 107 4 [(0, .ref 67), (1, .int (nI 0)), (2, .int (nI 0))] v Q) : RI E (d + 1) 107 0 [(0, .ref 67)] v Q := by
  unfold RI
  refine xr_blk (lv1 := [(2, .int (nI 0)), (1, .int (nI 0)), (0, .ref 67)]) (st1 := []) (S1 := rt v) (pc1 := 4) [(.iconst 0, .int (nI 0), 0, 0), (.istore_n 1, .null, 0, 0), (.iconst 0, .int (nI 0), 0, 0), (.istore_n 2, .null, 0, 0)] [] (by decide +kernel) rfl trivial ?_
  exact x_R.sub [2, 1, 0] rfl h
set_option maxRecDepth 100000 in
theorem w_X10_sweepUp_4 {E : Nat × (Nat → Int32)} {d : Nat} {v : xV} {x1 : Int32} {x2 : Int32} {Q : Int32 → xV → Prop} (h : (((gI v 11 7) ≤ x2 → RI E (d + 1) 107 75 [(0, .ref 67), (1, .int x1), (2, .int (nI 0))] v Q) ∧ (¬ (gI v 11 7) ≤ x2 → RI E (d + 1) 107 17 [(0, .ref 67), (1, .int x1), (2, .int x2), (3, .int (nI 1))] v Q))) : RI E (d + 1) 107 4 [(0, .ref 67), (1, .int x1), (2, .int x2)] v Q := by
  unfold RI
  refine xr_blk (lv1 := [(0, .ref 67), (1, .int x1), (2, .int x2)]) (st1 := [.int (gI v 11 7), .int x2]) (S1 := rt v) (pc1 := 12) [(.iload_n 2, .null, 0, 0), (.aload_n 0, .null, 0, 0), (.getfield 43, .null, 10, 0), (.getfield 158, .null, 9, 7)] [] (by decide +kernel) rfl trivial ?_
  refine xr_ic_ge (tgt := 73) (off := 61) (by decide +kernel) (by decide) (fun hc => ?_) (fun hc => ?_)
  · replace h := h.1 hc
    refine xr_blk (lv1 := [(2, .int (nI 0)), (0, .ref 67), (1, .int x1)]) (st1 := []) (S1 := rt v) (pc1 := 75) [(.iconst 0, .int (nI 0), 0, 0), (.istore_n 2, .null, 0, 0)] [] (by decide +kernel) rfl trivial ?_
    exact x_R.sub [1, 2, 0] rfl h
  · replace h := h.2 hc
    refine xr_blk (lv1 := [(3, .int (nI 1)), (0, .ref 67), (1, .int x1), (2, .int x2)]) (st1 := []) (S1 := rt v) (pc1 := 17) [(.iconst 1, .int (nI 1), 0, 0), (.istore_n 3, .null, 0, 0)] [] (by decide +kernel) rfl trivial ?_
    exact x_R.sub [1, 2, 3, 0] rfl h
set_option maxRecDepth 100000 in
theorem w_X10_sweepUp_17 {E : Nat × (Nat → Int32)} {d : Nat} {v : xV} {x1 : Int32} {x2 : Int32} {x3 : Int32} {Q : Int32 → xV → Prop} (h : vp_in x2 8 ∧ ((((gA v 14) (x2).toNatClampNeg) ≤ x3 → RI E (d + 1) 107 4 [(0, .ref 67), (1, .int x1), (2, .int (x2 + (nI 1)))] v Q) ∧ (¬ ((gA v 14) (x2).toNatClampNeg) ≤ x3 → KI E d 94 [.ref 67, .int x2, .int x3] v (fun y3 v2 => KI E d 94 [.ref 67, .int x2, .int (x3 - (nI 1))] v2 (fun y5 v4 => KI E d 110 [.ref 67, .int y3, .int y5] v4 (fun y7 v6 => ((¬ y7 = (nI 0) → RI E (d + 1) 107 17 [(0, .ref 67), (1, .int (nI 1)), (2, .int x2), (3, .int (x3 + (nI 1)))] v6 Q) ∧ (y7 = (nI 0) → ((x1 = (nI 0) → RI E (d + 1) 107 17 [(0, .ref 67), (1, .int (nI 0)), (2, .int x2), (3, .int (x3 + (nI 1)))] v6 Q) ∧ (¬ x1 = (nI 0) → RI E (d + 1) 107 17 [(0, .ref 67), (1, .int (nI 1)), (2, .int x2), (3, .int (x3 + (nI 1)))] v6 Q)))))))))) : RI E (d + 1) 107 17 [(0, .ref 67), (1, .int x1), (2, .int x2), (3, .int x3)] v Q := by
  unfold RI
  obtain ⟨hb1, h⟩ := h
  refine xr_blk (lv1 := [(0, .ref 67), (1, .int x1), (2, .int x2), (3, .int x3)]) (st1 := [.int ((gA v 14) (x2).toNatClampNeg), .int x3]) (S1 := rt v) (pc1 := 27) [(.iload_n 3, .null, 0, 0), (.aload_n 0, .null, 0, 0), (.getfield 43, .null, 10, 0), (.getfield 163, .null, 9, 2), (.iload_n 2, .null, 0, 0), (.iaload, .null, 0, 0)] [(x2, 8)] (by decide +kernel) rfl ⟨hb1, trivial⟩ ?_
  refine xr_ic_ge (tgt := 67) (off := 40) (by decide +kernel) (by decide) (fun hc => ?_) (fun hc => ?_)
  · replace h := h.1 hc
    refine xr_blk (lv1 := [(2, .int (x2 + (nI 1))), (0, .ref 67), (1, .int x1), (3, .int x3)]) (st1 := []) (S1 := rt v) (pc1 := 70) [(.iinc 2 1, .int (nI 1), 0, 0)] [] (by decide +kernel) rfl trivial ?_
    refine xr_goto (tgt := 4) (off := -66) (by decide +kernel) (by decide) ?_
    exact x_R.sub [1, 2, 0] rfl h
  · replace h := h.2 hc
    refine xr_blk (lv1 := [(0, .ref 67), (1, .int x1), (2, .int x2), (3, .int x3)]) (st1 := [.int x3, .int x2, .ref 67, .ref 67]) (S1 := rt v) (pc1 := 34) [(.aload_n 0, .null, 0, 0), (.aload_n 0, .null, 0, 0), (.iload_n 2, .null, 0, 0), (.iload_n 3, .null, 0, 0)] [] (by decide +kernel) rfl trivial ?_
    refine xk_VI (As := [.int x2, .int x3]) (bb := 67) (rest := [.ref 67]) (idx := 100) (i0 := 100) (m1 := 94) (ps := [1061, 1062, 1063]) (by decide +kernel) (by decide +kernel) (by decide) rfl ((gK_s (by decide)).trans (by decide +kernel)) (by decide) (Nat.le_of_ble_eq_true rfl) rfl h (fun y3 v2 h => ?_)
    refine xr_blk (lv1 := [(0, .ref 67), (1, .int x1), (2, .int x2), (3, .int x3)]) (st1 := [.int (x3 - (nI 1)), .int x2, .ref 67, .int y3, .ref 67]) (S1 := rt v2) (pc1 := 42) [(.aload_n 0, .null, 0, 0), (.iload_n 2, .null, 0, 0), (.iload_n 3, .null, 0, 0), (.iconst 1, .int (nI 1), 0, 0), (.isub, .null, 0, 0)] [] (by decide +kernel) rfl trivial ?_
    refine xk_VI (As := [.int x2, .int (x3 - (nI 1))]) (bb := 67) (rest := [.int y3, .ref 67]) (idx := 100) (i0 := 100) (m1 := 94) (ps := [1061, 1062, 1063]) (by decide +kernel) (by decide +kernel) (by decide) rfl ((gK_s (by decide)).trans (by decide +kernel)) (by decide) (Nat.le_of_ble_eq_true rfl) rfl h (fun y5 v4 h => ?_)
    refine xk_VI (As := [.int y3, .int y5]) (bb := 67) (rest := []) (idx := 166) (i0 := 166) (m1 := 110) (ps := [1104, 1106, 39]) (by decide +kernel) (by decide +kernel) (by decide) rfl ((gK_s (by decide)).trans (by decide +kernel)) (by decide) (Nat.le_of_ble_eq_true rfl) rfl h (fun y7 v6 h => ?_)
    refine xr_if_ne (tgt := 55) (off := 7) (by decide +kernel) (by decide) (fun hc => ?_) (fun hc => ?_)
    · replace h := h.1 hc
      refine xr_blk (lv1 := [(0, .ref 67), (1, .int x1), (2, .int x2), (3, .int x3)]) (st1 := [.int (nI 1)]) (S1 := rt v6) (pc1 := 56) [(.iconst 1, .int (nI 1), 0, 0)] [] (by decide +kernel) rfl trivial ?_
      refine xr_goto (tgt := 60) (off := 4) (by decide +kernel) (by decide) ?_
      refine xr_blk (lv1 := [(3, .int (x3 + (nI 1))), (1, .int (nI 1)), (0, .ref 67), (2, .int x2)]) (st1 := []) (S1 := rt v6) (pc1 := 64) [(.istore_n 1, .null, 0, 0), (.iinc 3 1, .int (nI 1), 0, 0)] [] (by decide +kernel) rfl trivial ?_
      refine xr_goto (tgt := 17) (off := -47) (by decide +kernel) (by decide) ?_
      exact x_R.sub [2, 1, 3, 0] rfl h
    · replace h := h.2 hc
      refine xr_blk (lv1 := [(0, .ref 67), (1, .int x1), (2, .int x2), (3, .int x3)]) (st1 := [.int x1]) (S1 := rt v6) (pc1 := 52) [(.iload_n 1, .null, 0, 0)] [] (by decide +kernel) rfl trivial ?_
      refine xr_if_eq (tgt := 59) (off := 7) (by decide +kernel) (by decide) (fun hc => ?_) (fun hc => ?_)
      · replace h := h.1 hc
        refine xr_blk (lv1 := [(3, .int (x3 + (nI 1))), (1, .int (nI 0)), (0, .ref 67), (2, .int x2)]) (st1 := []) (S1 := rt v6) (pc1 := 64) [(.iconst 0, .int (nI 0), 0, 0), (.istore_n 1, .null, 0, 0), (.iinc 3 1, .int (nI 1), 0, 0)] [] (by decide +kernel) rfl trivial ?_
        refine xr_goto (tgt := 17) (off := -47) (by decide +kernel) (by decide) ?_
        exact x_R.sub [2, 1, 3, 0] rfl h
      · replace h := h.2 hc
        refine xr_blk (lv1 := [(0, .ref 67), (1, .int x1), (2, .int x2), (3, .int x3)]) (st1 := [.int (nI 1)]) (S1 := rt v6) (pc1 := 56) [(.iconst 1, .int (nI 1), 0, 0)] [] (by decide +kernel) rfl trivial ?_
        refine xr_goto (tgt := 60) (off := 4) (by decide +kernel) (by decide) ?_
        refine xr_blk (lv1 := [(3, .int (x3 + (nI 1))), (1, .int (nI 1)), (0, .ref 67), (2, .int x2)]) (st1 := []) (S1 := rt v6) (pc1 := 64) [(.istore_n 1, .null, 0, 0), (.iinc 3 1, .int (nI 1), 0, 0)] [] (by decide +kernel) rfl trivial ?_
        refine xr_goto (tgt := 17) (off := -47) (by decide +kernel) (by decide) ?_
        exact x_R.sub [2, 1, 3, 0] rfl h
set_option maxRecDepth 100000 in
theorem w_X10_sweepUp_75 {E : Nat × (Nat → Int32)} {d : Nat} {v : xV} {x1 : Int32} {x2 : Int32} {Q : Int32 → xV → Prop} (h : (((gI v 67 10) ≤ x2 → RI E (d + 1) 107 162 [(0, .ref 67), (1, .int x1), (2, .int (nI 0))] v Q) ∧ (¬ (gI v 67 10) ≤ x2 → vp_in x2 20 ∧ vp_in x2 20 ∧ KI E d 94 [.ref 67, .int ((gA v 26) (x2).toNatClampNeg), .int ((gA v 27) (x2).toNatClampNeg)] v (fun y4 v3 => KI E d 110 [.ref 67, .int x2, .int y4] v3 (fun y6 v5 => ((¬ y6 = (nI 0) → RI E (d + 1) 107 119 [(0, .ref 67), (2, .int x2), (3, .int y4)] v5 Q) ∧ (y6 = (nI 0) → ((x1 = (nI 0) → KI E d 109 [.ref 67, .int x2] v5 (fun y8 v7 => ((y8 = (nI 0) → RI E (d + 1) 107 75 [(0, .ref 67), (1, .int (nI 0)), (2, .int (x2 + (nI 1)))] v7 Q) ∧ (¬ y8 = (nI 0) → KI E d 110 [.ref 67, .int (y4 + (nI 1)), .int x2] v7 (fun y10 v9 => ((¬ y10 = (nI 0) → RI E (d + 1) 107 75 [(0, .ref 67), (1, .int (nI 1)), (2, .int (x2 + (nI 1)))] v9 Q) ∧ (y10 = (nI 0) → (((nI 0) = (nI 0) → RI E (d + 1) 107 75 [(0, .ref 67), (1, .int (nI 0)), (2, .int (x2 + (nI 1)))] v9 Q) ∧ (¬ (nI 0) = (nI 0) → RI E (d + 1) 107 75 [(0, .ref 67), (1, .int (nI 1)), (2, .int (x2 + (nI 1)))] v9 Q))))))))) ∧ (¬ x1 = (nI 0) → RI E (d + 1) 107 119 [(0, .ref 67), (2, .int x2), (3, .int y4)] v5 Q))))))))) : RI E (d + 1) 107 75 [(0, .ref 67), (1, .int x1), (2, .int x2)] v Q := by
  unfold RI
  refine xr_blk (lv1 := [(0, .ref 67), (1, .int x1), (2, .int x2)]) (st1 := [.int (gI v 67 10), .int x2]) (S1 := rt v) (pc1 := 80) [(.iload_n 2, .null, 0, 0), (.aload_n 0, .null, 0, 0), (.getfield 32, .null, 10, 10)] [] (by decide +kernel) rfl trivial ?_
  refine xr_ic_ge (tgt := 160) (off := 80) (by decide +kernel) (by decide) (fun hc => ?_) (fun hc => ?_)
  · replace h := h.1 hc
    refine xr_blk (lv1 := [(2, .int (nI 0)), (0, .ref 67), (1, .int x1)]) (st1 := []) (S1 := rt v) (pc1 := 162) [(.iconst 0, .int (nI 0), 0, 0), (.istore_n 2, .null, 0, 0)] [] (by decide +kernel) rfl trivial ?_
    exact x_R.sub [1, 2, 0] rfl h
  · replace h := h.2 hc
    obtain ⟨hb1, h⟩ := h
    obtain ⟨hb2, h⟩ := h
    refine xr_blk (lv1 := [(0, .ref 67), (1, .int x1), (2, .int x2)]) (st1 := [.int ((gA v 27) (x2).toNatClampNeg), .int ((gA v 26) (x2).toNatClampNeg), .ref 67]) (S1 := rt v) (pc1 := 102) [(.aload_n 0, .null, 0, 0), (.aload_n 0, .null, 0, 0), (.getfield 47, .null, 10, 1), (.getfield 169, .null, 1, 0), (.iload_n 2, .null, 0, 0), (.iaload, .null, 0, 0), (.aload_n 0, .null, 0, 0), (.getfield 47, .null, 10, 1), (.getfield 172, .null, 1, 1), (.iload_n 2, .null, 0, 0), (.iaload, .null, 0, 0)] [(x2, 20), (x2, 20)] (by decide +kernel) rfl ⟨hb1, hb2, trivial⟩ ?_
    refine xk_VI (As := [.int ((gA v 26) (x2).toNatClampNeg), .int ((gA v 27) (x2).toNatClampNeg)]) (bb := 67) (rest := []) (idx := 100) (i0 := 100) (m1 := 94) (ps := [1061, 1062, 1063]) (by decide +kernel) (by decide +kernel) (by decide) rfl ((gK_s (by decide)).trans (by decide +kernel)) (by decide) (Nat.le_of_ble_eq_true rfl) rfl h (fun y4 v3 h => ?_)
    refine xr_blk (lv1 := [(3, .int y4), (0, .ref 67), (1, .int x1), (2, .int x2)]) (st1 := [.int y4, .int x2, .ref 67]) (S1 := rt v3) (pc1 := 109) [(.istore_n 3, .null, 0, 0), (.aload_n 0, .null, 0, 0), (.iload_n 2, .null, 0, 0), (.iload_n 3, .null, 0, 0)] [] (by decide +kernel) rfl trivial ?_
    refine xk_VI (As := [.int x2, .int y4]) (bb := 67) (rest := []) (idx := 166) (i0 := 166) (m1 := 110) (ps := [1104, 1106, 39]) (by decide +kernel) (by decide +kernel) (by decide) rfl ((gK_s (by decide)).trans (by decide +kernel)) (by decide) (Nat.le_of_ble_eq_true rfl) rfl h (fun y6 v5 h => ?_)
    refine xr_if_ne (tgt := 119) (off := 7) (by decide +kernel) (by decide) (fun hc => ?_) (fun hc => ?_)
    · replace h := h.1 hc
      exact x_R.sub [1, 3, 0] rfl h
    · replace h := h.2 hc
      refine xr_blk (lv1 := [(3, .int y4), (0, .ref 67), (1, .int x1), (2, .int x2)]) (st1 := [.int x1]) (S1 := rt v5) (pc1 := 116) [(.iload_n 1, .null, 0, 0)] [] (by decide +kernel) rfl trivial ?_
      refine xr_if_eq (tgt := 123) (off := 7) (by decide +kernel) (by decide) (fun hc => ?_) (fun hc => ?_)
      · replace h := h.1 hc
        refine xr_blk (lv1 := [(1, .int (nI 0)), (3, .int y4), (0, .ref 67), (2, .int x2)]) (st1 := [.int x2, .ref 67]) (S1 := rt v5) (pc1 := 127) [(.iconst 0, .int (nI 0), 0, 0), (.istore_n 1, .null, 0, 0), (.aload_n 0, .null, 0, 0), (.iload_n 2, .null, 0, 0)] [] (by decide +kernel) rfl trivial ?_
        refine xk_VI (As := [.int x2]) (bb := 67) (rest := []) (idx := 175) (i0 := 175) (m1 := 109) (ps := [1108, 1110, 40]) (by decide +kernel) (by decide +kernel) (by decide) rfl ((gK_s (by decide)).trans (by decide +kernel)) (by decide) (Nat.le_of_ble_eq_true rfl) rfl h (fun y8 v7 h => ?_)
        refine xr_if_eq (tgt := 154) (off := 24) (by decide +kernel) (by decide) (fun hc => ?_) (fun hc => ?_)
        · replace h := h.1 hc
          refine xr_blk (lv1 := [(2, .int (x2 + (nI 1))), (1, .int (nI 0)), (3, .int y4), (0, .ref 67)]) (st1 := []) (S1 := rt v7) (pc1 := 157) [(.iinc 2 1, .int (nI 1), 0, 0)] [] (by decide +kernel) rfl trivial ?_
          refine xr_goto (tgt := 75) (off := -82) (by decide +kernel) (by decide) ?_
          exact x_R.sub [3, 1, 0] rfl h
        · replace h := h.2 hc
          refine xr_blk (lv1 := [(1, .int (nI 0)), (3, .int y4), (0, .ref 67), (2, .int x2)]) (st1 := [.int x2, .int (y4 + (nI 1)), .ref 67]) (S1 := rt v7) (pc1 := 138) [(.aload_n 0, .null, 0, 0), (.iload_n 3, .null, 0, 0), (.iconst 1, .int (nI 1), 0, 0), (.iadd, .null, 0, 0), (.iload_n 2, .null, 0, 0)] [] (by decide +kernel) rfl trivial ?_
          refine xk_VI (As := [.int (y4 + (nI 1)), .int x2]) (bb := 67) (rest := []) (idx := 166) (i0 := 166) (m1 := 110) (ps := [1104, 1106, 39]) (by decide +kernel) (by decide +kernel) (by decide) rfl ((gK_s (by decide)).trans (by decide +kernel)) (by decide) (Nat.le_of_ble_eq_true rfl) rfl h (fun y10 v9 h => ?_)
          refine xr_if_ne (tgt := 148) (off := 7) (by decide +kernel) (by decide) (fun hc => ?_) (fun hc => ?_)
          · replace h := h.1 hc
            refine xr_blk (lv1 := [(1, .int (nI 0)), (3, .int y4), (0, .ref 67), (2, .int x2)]) (st1 := [.int (nI 1)]) (S1 := rt v9) (pc1 := 149) [(.iconst 1, .int (nI 1), 0, 0)] [] (by decide +kernel) rfl trivial ?_
            refine xr_goto (tgt := 153) (off := 4) (by decide +kernel) (by decide) ?_
            refine xr_blk (lv1 := [(2, .int (x2 + (nI 1))), (1, .int (nI 1)), (3, .int y4), (0, .ref 67)]) (st1 := []) (S1 := rt v9) (pc1 := 157) [(.istore_n 1, .null, 0, 0), (.iinc 2 1, .int (nI 1), 0, 0)] [] (by decide +kernel) rfl trivial ?_
            refine xr_goto (tgt := 75) (off := -82) (by decide +kernel) (by decide) ?_
            exact x_R.sub [3, 1, 0] rfl h
          · replace h := h.2 hc
            refine xr_blk (lv1 := [(1, .int (nI 0)), (3, .int y4), (0, .ref 67), (2, .int x2)]) (st1 := [.int (nI 0)]) (S1 := rt v9) (pc1 := 145) [(.iload_n 1, .null, 0, 0)] [] (by decide +kernel) rfl trivial ?_
            refine xr_if_eq (tgt := 152) (off := 7) (by decide +kernel) (by decide) (fun hc => ?_) (fun hc => ?_)
            · replace h := h.1 hc
              refine xr_blk (lv1 := [(2, .int (x2 + (nI 1))), (1, .int (nI 0)), (3, .int y4), (0, .ref 67)]) (st1 := []) (S1 := rt v9) (pc1 := 157) [(.iconst 0, .int (nI 0), 0, 0), (.istore_n 1, .null, 0, 0), (.iinc 2 1, .int (nI 1), 0, 0)] [] (by decide +kernel) rfl trivial ?_
              refine xr_goto (tgt := 75) (off := -82) (by decide +kernel) (by decide) ?_
              exact x_R.sub [3, 1, 0] rfl h
            · replace h := h.2 hc
              refine xr_blk (lv1 := [(1, .int (nI 0)), (3, .int y4), (0, .ref 67), (2, .int x2)]) (st1 := [.int (nI 1)]) (S1 := rt v9) (pc1 := 149) [(.iconst 1, .int (nI 1), 0, 0)] [] (by decide +kernel) rfl trivial ?_
              refine xr_goto (tgt := 153) (off := 4) (by decide +kernel) (by decide) ?_
              refine xr_blk (lv1 := [(2, .int (x2 + (nI 1))), (1, .int (nI 1)), (3, .int y4), (0, .ref 67)]) (st1 := []) (S1 := rt v9) (pc1 := 157) [(.istore_n 1, .null, 0, 0), (.iinc 2 1, .int (nI 1), 0, 0)] [] (by decide +kernel) rfl trivial ?_
              refine xr_goto (tgt := 75) (off := -82) (by decide +kernel) (by decide) ?_
              exact x_R.sub [3, 1, 0] rfl h
      · replace h := h.2 hc
        exact x_R.sub [1, 3, 0] rfl h
set_option maxRecDepth 100000 in
theorem w_X10_sweepUp_119 {E : Nat × (Nat → Int32)} {d : Nat} {v : xV} {x2 : Int32} {x3 : Int32} {Q : Int32 → xV → Prop} (h : KI E d 109 [.ref 67, .int x2] v (fun y2 v1 => ((y2 = (nI 0) → RI E (d + 1) 107 75 [(0, .ref 67), (1, .int (nI 1)), (2, .int (x2 + (nI 1)))] v1 Q) ∧ (¬ y2 = (nI 0) → KI E d 110 [.ref 67, .int (x3 + (nI 1)), .int x2] v1 (fun y4 v3 => ((¬ y4 = (nI 0) → RI E (d + 1) 107 75 [(0, .ref 67), (1, .int (nI 1)), (2, .int (x2 + (nI 1)))] v3 Q) ∧ (y4 = (nI 0) → (((nI 1) = (nI 0) → RI E (d + 1) 107 75 [(0, .ref 67), (1, .int (nI 0)), (2, .int (x2 + (nI 1)))] v3 Q) ∧ (¬ (nI 1) = (nI 0) → RI E (d + 1) 107 75 [(0, .ref 67), (1, .int (nI 1)), (2, .int (x2 + (nI 1)))] v3 Q))))))))) : RI E (d + 1) 107 119 [(0, .ref 67), (2, .int x2), (3, .int x3)] v Q := by
  unfold RI
  refine xr_blk (lv1 := [(0, .ref 67), (2, .int x2), (3, .int x3)]) (st1 := [.int (nI 1)]) (S1 := rt v) (pc1 := 120) [(.iconst 1, .int (nI 1), 0, 0)] [] (by decide +kernel) rfl trivial ?_
  refine xr_goto (tgt := 124) (off := 4) (by decide +kernel) (by decide) ?_
  refine xr_blk (lv1 := [(1, .int (nI 1)), (0, .ref 67), (2, .int x2), (3, .int x3)]) (st1 := [.int x2, .ref 67]) (S1 := rt v) (pc1 := 127) [(.istore_n 1, .null, 0, 0), (.aload_n 0, .null, 0, 0), (.iload_n 2, .null, 0, 0)] [] (by decide +kernel) rfl trivial ?_
  refine xk_VI (As := [.int x2]) (bb := 67) (rest := []) (idx := 175) (i0 := 175) (m1 := 109) (ps := [1108, 1110, 40]) (by decide +kernel) (by decide +kernel) (by decide) rfl ((gK_s (by decide)).trans (by decide +kernel)) (by decide) (Nat.le_of_ble_eq_true rfl) rfl h (fun y2 v1 h => ?_)
  refine xr_if_eq (tgt := 154) (off := 24) (by decide +kernel) (by decide) (fun hc => ?_) (fun hc => ?_)
  · replace h := h.1 hc
    refine xr_blk (lv1 := [(2, .int (x2 + (nI 1))), (1, .int (nI 1)), (0, .ref 67), (3, .int x3)]) (st1 := []) (S1 := rt v1) (pc1 := 157) [(.iinc 2 1, .int (nI 1), 0, 0)] [] (by decide +kernel) rfl trivial ?_
    refine xr_goto (tgt := 75) (off := -82) (by decide +kernel) (by decide) ?_
    exact x_R.sub [2, 1, 0] rfl h
  · replace h := h.2 hc
    refine xr_blk (lv1 := [(1, .int (nI 1)), (0, .ref 67), (2, .int x2), (3, .int x3)]) (st1 := [.int x2, .int (x3 + (nI 1)), .ref 67]) (S1 := rt v1) (pc1 := 138) [(.aload_n 0, .null, 0, 0), (.iload_n 3, .null, 0, 0), (.iconst 1, .int (nI 1), 0, 0), (.iadd, .null, 0, 0), (.iload_n 2, .null, 0, 0)] [] (by decide +kernel) rfl trivial ?_
    refine xk_VI (As := [.int (x3 + (nI 1)), .int x2]) (bb := 67) (rest := []) (idx := 166) (i0 := 166) (m1 := 110) (ps := [1104, 1106, 39]) (by decide +kernel) (by decide +kernel) (by decide) rfl ((gK_s (by decide)).trans (by decide +kernel)) (by decide) (Nat.le_of_ble_eq_true rfl) rfl h (fun y4 v3 h => ?_)
    refine xr_if_ne (tgt := 148) (off := 7) (by decide +kernel) (by decide) (fun hc => ?_) (fun hc => ?_)
    · replace h := h.1 hc
      refine xr_blk (lv1 := [(1, .int (nI 1)), (0, .ref 67), (2, .int x2), (3, .int x3)]) (st1 := [.int (nI 1)]) (S1 := rt v3) (pc1 := 149) [(.iconst 1, .int (nI 1), 0, 0)] [] (by decide +kernel) rfl trivial ?_
      refine xr_goto (tgt := 153) (off := 4) (by decide +kernel) (by decide) ?_
      refine xr_blk (lv1 := [(2, .int (x2 + (nI 1))), (1, .int (nI 1)), (0, .ref 67), (3, .int x3)]) (st1 := []) (S1 := rt v3) (pc1 := 157) [(.istore_n 1, .null, 0, 0), (.iinc 2 1, .int (nI 1), 0, 0)] [] (by decide +kernel) rfl trivial ?_
      refine xr_goto (tgt := 75) (off := -82) (by decide +kernel) (by decide) ?_
      exact x_R.sub [2, 1, 0] rfl h
    · replace h := h.2 hc
      refine xr_blk (lv1 := [(1, .int (nI 1)), (0, .ref 67), (2, .int x2), (3, .int x3)]) (st1 := [.int (nI 1)]) (S1 := rt v3) (pc1 := 145) [(.iload_n 1, .null, 0, 0)] [] (by decide +kernel) rfl trivial ?_
      refine xr_if_eq (tgt := 152) (off := 7) (by decide +kernel) (by decide) (fun hc => ?_) (fun hc => ?_)
      · replace h := h.1 hc
        refine xr_blk (lv1 := [(2, .int (x2 + (nI 1))), (1, .int (nI 0)), (0, .ref 67), (3, .int x3)]) (st1 := []) (S1 := rt v3) (pc1 := 157) [(.iconst 0, .int (nI 0), 0, 0), (.istore_n 1, .null, 0, 0), (.iinc 2 1, .int (nI 1), 0, 0)] [] (by decide +kernel) rfl trivial ?_
        refine xr_goto (tgt := 75) (off := -82) (by decide +kernel) (by decide) ?_
        exact x_R.sub [2, 1, 0] rfl h
      · replace h := h.2 hc
        refine xr_blk (lv1 := [(1, .int (nI 1)), (0, .ref 67), (2, .int x2), (3, .int x3)]) (st1 := [.int (nI 1)]) (S1 := rt v3) (pc1 := 149) [(.iconst 1, .int (nI 1), 0, 0)] [] (by decide +kernel) rfl trivial ?_
        refine xr_goto (tgt := 153) (off := 4) (by decide +kernel) (by decide) ?_
        refine xr_blk (lv1 := [(2, .int (x2 + (nI 1))), (1, .int (nI 1)), (0, .ref 67), (3, .int x3)]) (st1 := []) (S1 := rt v3) (pc1 := 157) [(.istore_n 1, .null, 0, 0), (.iinc 2 1, .int (nI 1), 0, 0)] [] (by decide +kernel) rfl trivial ?_
        refine xr_goto (tgt := 75) (off := -82) (by decide +kernel) (by decide) ?_
        exact x_R.sub [2, 1, 0] rfl h
set_option maxRecDepth 100000 in
theorem w_X10_sweepUp_162 {E : Nat × (Nat → Int32)} {d : Nat} {v : xV} {x1 : Int32} {x2 : Int32} {Q : Int32 → xV → Prop} (h : (((gI v 67 11) ≤ x2 → vp_in x1 2 ∧ Q x1 v) ∧ (¬ (gI v 67 11) ≤ x2 → vp_in x2 80 ∧ ((¬ ((gA v 61) (x2).toNatClampNeg) = (nI 2) → RI E (d + 1) 107 162 [(0, .ref 67), (1, .int x1), (2, .int (x2 + (nI 1)))] v Q) ∧ (((gA v 61) (x2).toNatClampNeg) = (nI 2) → vp_in x2 80 ∧ vp_in x2 80 ∧ KI E d 110 [.ref 67, .int ((gA v 63) (x2).toNatClampNeg), .int ((gA v 62) (x2).toNatClampNeg)] v (fun y5 v4 => ((¬ y5 = (nI 0) → RI E (d + 1) 107 162 [(0, .ref 67), (1, .int (nI 1)), (2, .int (x2 + (nI 1)))] v4 Q) ∧ (y5 = (nI 0) → ((x1 = (nI 0) → RI E (d + 1) 107 162 [(0, .ref 67), (1, .int (nI 0)), (2, .int (x2 + (nI 1)))] v4 Q) ∧ (¬ x1 = (nI 0) → RI E (d + 1) 107 162 [(0, .ref 67), (1, .int (nI 1)), (2, .int (x2 + (nI 1)))] v4 Q)))))))))) : RI E (d + 1) 107 162 [(0, .ref 67), (1, .int x1), (2, .int x2)] v Q := by
  unfold RI
  refine xr_blk (lv1 := [(0, .ref 67), (1, .int x1), (2, .int x2)]) (st1 := [.int (gI v 67 11), .int x2]) (S1 := rt v) (pc1 := 167) [(.iload_n 2, .null, 0, 0), (.aload_n 0, .null, 0, 0), (.getfield 36, .null, 10, 11)] [] (by decide +kernel) rfl trivial ?_
  refine xr_ic_ge (tgt := 224) (off := 57) (by decide +kernel) (by decide) (fun hc => ?_) (fun hc => ?_)
  · replace h := h.1 hc
    refine xr_blk (lv1 := [(0, .ref 67), (1, .int x1), (2, .int x2)]) (st1 := [.int x1]) (S1 := rt v) (pc1 := 225) [(.iload_n 1, .null, 0, 0)] [] (by decide +kernel) rfl trivial ?_
    obtain ⟨hz, h⟩ := h
    exact xr_zret (by decide +kernel) rfl hz ⟨_, _, rfl, rfl, h⟩
  · replace h := h.2 hc
    obtain ⟨hb1, h⟩ := h
    refine xr_blk (lv1 := [(0, .ref 67), (1, .int x1), (2, .int x2)]) (st1 := [.int (nI 2), .int ((gA v 61) (x2).toNatClampNeg)]) (S1 := rt v) (pc1 := 180) [(.aload_n 0, .null, 0, 0), (.getfield 51, .null, 10, 2), (.getfield 91, .null, 0, 0), (.iload_n 2, .null, 0, 0), (.iaload, .null, 0, 0), (.iconst 2, .int (nI 2), 0, 0)] [(x2, 80)] (by decide +kernel) rfl ⟨hb1, trivial⟩ ?_
    refine xr_ic_ne (tgt := 218) (off := 38) (by decide +kernel) (by decide) (fun hc => ?_) (fun hc => ?_)
    · replace h := h.1 hc
      refine xr_blk (lv1 := [(2, .int (x2 + (nI 1))), (0, .ref 67), (1, .int x1)]) (st1 := []) (S1 := rt v) (pc1 := 221) [(.iinc 2 1, .int (nI 1), 0, 0)] [] (by decide +kernel) rfl trivial ?_
      refine xr_goto (tgt := 162) (off := -59) (by decide +kernel) (by decide) ?_
      exact x_R.sub [1, 2, 0] rfl h
    · replace h := h.2 hc
      obtain ⟨hb2, h⟩ := h
      obtain ⟨hb3, h⟩ := h
      refine xr_blk (lv1 := [(0, .ref 67), (1, .int x1), (2, .int x2)]) (st1 := [.int ((gA v 62) (x2).toNatClampNeg), .int ((gA v 63) (x2).toNatClampNeg), .ref 67]) (S1 := rt v) (pc1 := 202) [(.aload_n 0, .null, 0, 0), (.aload_n 0, .null, 0, 0), (.getfield 51, .null, 10, 2), (.getfield 97, .null, 0, 2), (.iload_n 2, .null, 0, 0), (.iaload, .null, 0, 0), (.aload_n 0, .null, 0, 0), (.getfield 51, .null, 10, 2), (.getfield 94, .null, 0, 1), (.iload_n 2, .null, 0, 0), (.iaload, .null, 0, 0)] [(x2, 80), (x2, 80)] (by decide +kernel) rfl ⟨hb2, hb3, trivial⟩ ?_
      refine xk_VI (As := [.int ((gA v 63) (x2).toNatClampNeg), .int ((gA v 62) (x2).toNatClampNeg)]) (bb := 67) (rest := []) (idx := 166) (i0 := 166) (m1 := 110) (ps := [1104, 1106, 39]) (by decide +kernel) (by decide +kernel) (by decide) rfl ((gK_s (by decide)).trans (by decide +kernel)) (by decide) (Nat.le_of_ble_eq_true rfl) rfl h (fun y5 v4 h => ?_)
      refine xr_if_ne (tgt := 212) (off := 7) (by decide +kernel) (by decide) (fun hc => ?_) (fun hc => ?_)
      · replace h := h.1 hc
        refine xr_blk (lv1 := [(0, .ref 67), (1, .int x1), (2, .int x2)]) (st1 := [.int (nI 1)]) (S1 := rt v4) (pc1 := 213) [(.iconst 1, .int (nI 1), 0, 0)] [] (by decide +kernel) rfl trivial ?_
        refine xr_goto (tgt := 217) (off := 4) (by decide +kernel) (by decide) ?_
        refine xr_blk (lv1 := [(2, .int (x2 + (nI 1))), (1, .int (nI 1)), (0, .ref 67)]) (st1 := []) (S1 := rt v4) (pc1 := 221) [(.istore_n 1, .null, 0, 0), (.iinc 2 1, .int (nI 1), 0, 0)] [] (by decide +kernel) rfl trivial ?_
        refine xr_goto (tgt := 162) (off := -59) (by decide +kernel) (by decide) ?_
        exact x_R.sub [2, 1, 0] rfl h
      · replace h := h.2 hc
        refine xr_blk (lv1 := [(0, .ref 67), (1, .int x1), (2, .int x2)]) (st1 := [.int x1]) (S1 := rt v4) (pc1 := 209) [(.iload_n 1, .null, 0, 0)] [] (by decide +kernel) rfl trivial ?_
        refine xr_if_eq (tgt := 216) (off := 7) (by decide +kernel) (by decide) (fun hc => ?_) (fun hc => ?_)
        · replace h := h.1 hc
          refine xr_blk (lv1 := [(2, .int (x2 + (nI 1))), (1, .int (nI 0)), (0, .ref 67)]) (st1 := []) (S1 := rt v4) (pc1 := 221) [(.iconst 0, .int (nI 0), 0, 0), (.istore_n 1, .null, 0, 0), (.iinc 2 1, .int (nI 1), 0, 0)] [] (by decide +kernel) rfl trivial ?_
          refine xr_goto (tgt := 162) (off := -59) (by decide +kernel) (by decide) ?_
          exact x_R.sub [2, 1, 0] rfl h
        · replace h := h.2 hc
          refine xr_blk (lv1 := [(0, .ref 67), (1, .int x1), (2, .int x2)]) (st1 := [.int (nI 1)]) (S1 := rt v4) (pc1 := 213) [(.iconst 1, .int (nI 1), 0, 0)] [] (by decide +kernel) rfl trivial ?_
          refine xr_goto (tgt := 217) (off := 4) (by decide +kernel) (by decide) ?_
          refine xr_blk (lv1 := [(2, .int (x2 + (nI 1))), (1, .int (nI 1)), (0, .ref 67)]) (st1 := []) (S1 := rt v4) (pc1 := 221) [(.istore_n 1, .null, 0, 0), (.iinc 2 1, .int (nI 1), 0, 0)] [] (by decide +kernel) rfl trivial ?_
          refine xr_goto (tgt := 162) (off := -59) (by decide +kernel) (by decide) ?_
          exact x_R.sub [2, 1, 0] rfl h
theorem ok_107 : x_mOK 107 := ⟨x_tm5 (List.mem_of_getElem? (i := 43) rfl) rfl, 112, by decide +kernel⟩

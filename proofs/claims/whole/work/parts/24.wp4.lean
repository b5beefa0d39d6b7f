/-! X10_sweepDown: method 108, ScrawlHouse$Years.sweepDown()Z -/
set_option maxRecDepth 100000 in
theorem w_X10_sweepDown_0 {E : Nat × (Nat → Int32)} {d : Nat} {v : xV} {Q : Int32 → xV → Prop} (h : ∀ y1 : Int32, y1 = ((gI v 67 11) - (nI 1)) → RI E (d + 1) 108 9 [(0, .ref 67), (1, .int (nI 0)), (2, .int y1)] v Q) : RI E (d + 1) 108 0 [(0, .ref 67)] v Q := by
  unfold RI
  refine xr_blk (lv1 := [(1, .int (nI 0)), (0, .ref 67)]) (st1 := [.int ((gI v 67 11) - (nI 1))]) (S1 := rt v) (pc1 := 8) [(.iconst 0, .int (nI 0), 0, 0), (.istore_n 1, .null, 0, 0), (.aload_n 0, .null, 0, 0), (.getfield 36, .null, 10, 11), (.iconst 1, .int (nI 1), 0, 0), (.isub, .null, 0, 0)] [] (by decide +kernel) rfl trivial ?_
  refine xr_topi (fun y1 ey1 => ?_)
  replace h := h y1 ey1
  refine xr_blk (lv1 := [(2, .int y1), (1, .int (nI 0)), (0, .ref 67)]) (st1 := []) (S1 := rt v) (pc1 := 9) [(.istore_n 2, .null, 0, 0)] [] (by decide +kernel) rfl trivial ?_
  exact x_R.sub [2, 1, 0] rfl h
set_option maxRecDepth 100000 in
theorem w_X10_sweepDown_9 {E : Nat × (Nat → Int32)} {d : Nat} {v : xV} {x1 : Int32} {x2 : Int32} {Q : Int32 → xV → Prop} (h : ((x2 < (nI 0) → ∀ y1 : Int32, y1 = ((gI v 67 10) - (nI 1)) → RI E (d + 1) 108 74 [(0, .ref 67), (1, .int x1), (2, .int y1)] v Q) ∧ (¬ x2 < (nI 0) → vp_in x2 80 ∧ ((¬ ((gA v 61) (x2).toNatClampNeg) = (nI 2) → RI E (d + 1) 108 9 [(0, .ref 67), (1, .int x1), (2, .int (x2 + (-1 : Int32)))] v Q) ∧ (((gA v 61) (x2).toNatClampNeg) = (nI 2) → vp_in x2 80 ∧ vp_in x2 80 ∧ KI E d 111 [.ref 67, .int ((gA v 62) (x2).toNatClampNeg), .int ((gA v 63) (x2).toNatClampNeg)] v (fun y6 v5 => ((¬ y6 = (nI 0) → RI E (d + 1) 108 9 [(0, .ref 67), (1, .int (nI 1)), (2, .int (x2 + (-1 : Int32)))] v5 Q) ∧ (y6 = (nI 0) → ((x1 = (nI 0) → RI E (d + 1) 108 9 [(0, .ref 67), (1, .int (nI 0)), (2, .int (x2 + (-1 : Int32)))] v5 Q) ∧ (¬ x1 = (nI 0) → RI E (d + 1) 108 9 [(0, .ref 67), (1, .int (nI 1)), (2, .int (x2 + (-1 : Int32)))] v5 Q)))))))))) : RI E (d + 1) 108 9 [(0, .ref 67), (1, .int x1), (2, .int x2)] v Q := by
  unfold RI
  refine xr_blk (lv1 := [(0, .ref 67), (1, .int x1), (2, .int x2)]) (st1 := [.int x2]) (S1 := rt v) (pc1 := 10) [(.iload_n 2, .null, 0, 0)] [] (by decide +kernel) rfl trivial ?_
  refine xr_if_lt (tgt := 67) (off := 57) (by decide +kernel) (by decide) (fun hc => ?_) (fun hc => ?_)
  · replace h := h.1 hc
    refine xr_blk (lv1 := [(0, .ref 67), (1, .int x1), (2, .int x2)]) (st1 := [.int ((gI v 67 10) - (nI 1))]) (S1 := rt v) (pc1 := 73) [(.aload_n 0, .null, 0, 0), (.getfield 32, .null, 10, 10), (.iconst 1, .int (nI 1), 0, 0), (.isub, .null, 0, 0)] [] (by decide +kernel) rfl trivial ?_
    refine xr_topi (fun y1 ey1 => ?_)
    replace h := h y1 ey1
    refine xr_blk (lv1 := [(2, .int y1), (0, .ref 67), (1, .int x1)]) (st1 := []) (S1 := rt v) (pc1 := 74) [(.istore_n 2, .null, 0, 0)] [] (by decide +kernel) rfl trivial ?_
    exact x_R.sub [1, 2, 0] rfl h
  · replace h := h.2 hc
    obtain ⟨hb2, h⟩ := h
    refine xr_blk (lv1 := [(0, .ref 67), (1, .int x1), (2, .int x2)]) (st1 := [.int (nI 2), .int ((gA v 61) (x2).toNatClampNeg)]) (S1 := rt v) (pc1 := 23) [(.aload_n 0, .null, 0, 0), (.getfield 51, .null, 10, 2), (.getfield 91, .null, 0, 0), (.iload_n 2, .null, 0, 0), (.iaload, .null, 0, 0), (.iconst 2, .int (nI 2), 0, 0)] [(x2, 80)] (by decide +kernel) rfl ⟨hb2, trivial⟩ ?_
    refine xr_ic_ne (tgt := 61) (off := 38) (by decide +kernel) (by decide) (fun hc => ?_) (fun hc => ?_)
    · replace h := h.1 hc
      refine xr_blk (lv1 := [(2, .int (x2 + (-1 : Int32))), (0, .ref 67), (1, .int x1)]) (st1 := []) (S1 := rt v) (pc1 := 64) [(.iinc 2 (-1), .int (-1), 0, 0)] [] (by decide +kernel) rfl trivial ?_
      refine xr_goto (tgt := 9) (off := -55) (by decide +kernel) (by decide) ?_
      exact x_R.sub [1, 2, 0] rfl h
    · replace h := h.2 hc
      obtain ⟨hb3, h⟩ := h
      obtain ⟨hb4, h⟩ := h
      refine xr_blk (lv1 := [(0, .ref 67), (1, .int x1), (2, .int x2)]) (st1 := [.int ((gA v 63) (x2).toNatClampNeg), .int ((gA v 62) (x2).toNatClampNeg), .ref 67]) (S1 := rt v) (pc1 := 45) [(.aload_n 0, .null, 0, 0), (.aload_n 0, .null, 0, 0), (.getfield 51, .null, 10, 2), (.getfield 94, .null, 0, 1), (.iload_n 2, .null, 0, 0), (.iaload, .null, 0, 0), (.aload_n 0, .null, 0, 0), (.getfield 51, .null, 10, 2), (.getfield 97, .null, 0, 2), (.iload_n 2, .null, 0, 0), (.iaload, .null, 0, 0)] [(x2, 80), (x2, 80)] (by decide +kernel) rfl ⟨hb3, hb4, trivial⟩ ?_
      refine xk_VI (As := [.int ((gA v 62) (x2).toNatClampNeg), .int ((gA v 63) (x2).toNatClampNeg)]) (bb := 67) (rest := []) (idx := 179) (i0 := 179) (m1 := 111) (ps := [1125, 1127, 44]) (by decide +kernel) (by decide +kernel) (by decide) rfl ((gK_s (by decide)).trans (by decide +kernel)) (by decide) (Nat.le_of_ble_eq_true rfl) rfl h (fun y6 v5 h => ?_)
      refine xr_if_ne (tgt := 55) (off := 7) (by decide +kernel) (by decide) (fun hc => ?_) (fun hc => ?_)
      · replace h := h.1 hc
        refine xr_blk (lv1 := [(0, .ref 67), (1, .int x1), (2, .int x2)]) (st1 := [.int (nI 1)]) (S1 := rt v5) (pc1 := 56) [(.iconst 1, .int (nI 1), 0, 0)] [] (by decide +kernel) rfl trivial ?_
        refine xr_goto (tgt := 60) (off := 4) (by decide +kernel) (by decide) ?_
        refine xr_blk (lv1 := [(2, .int (x2 + (-1 : Int32))), (1, .int (nI 1)), (0, .ref 67)]) (st1 := []) (S1 := rt v5) (pc1 := 64) [(.istore_n 1, .null, 0, 0), (.iinc 2 (-1), .int (-1), 0, 0)] [] (by decide +kernel) rfl trivial ?_
        refine xr_goto (tgt := 9) (off := -55) (by decide +kernel) (by decide) ?_
        exact x_R.sub [2, 1, 0] rfl h
      · replace h := h.2 hc
        refine xr_blk (lv1 := [(0, .ref 67), (1, .int x1), (2, .int x2)]) (st1 := [.int x1]) (S1 := rt v5) (pc1 := 52) [(.iload_n 1, .null, 0, 0)] [] (by decide +kernel) rfl trivial ?_
        refine xr_if_eq (tgt := 59) (off := 7) (by decide +kernel) (by decide) (fun hc => ?_) (fun hc => ?_)
        · replace h := h.1 hc
          refine xr_blk (lv1 := [(2, .int (x2 + (-1 : Int32))), (1, .int (nI 0)), (0, .ref 67)]) (st1 := []) (S1 := rt v5) (pc1 := 64) [(.iconst 0, .int (nI 0), 0, 0), (.istore_n 1, .null, 0, 0), (.iinc 2 (-1), .int (-1), 0, 0)] [] (by decide +kernel) rfl trivial ?_
          refine xr_goto (tgt := 9) (off := -55) (by decide +kernel) (by decide) ?_
          exact x_R.sub [2, 1, 0] rfl h
        · replace h := h.2 hc
          refine xr_blk (lv1 := [(0, .ref 67), (1, .int x1), (2, .int x2)]) (st1 := [.int (nI 1)]) (S1 := rt v5) (pc1 := 56) [(.iconst 1, .int (nI 1), 0, 0)] [] (by decide +kernel) rfl trivial ?_
          refine xr_goto (tgt := 60) (off := 4) (by decide +kernel) (by decide) ?_
          refine xr_blk (lv1 := [(2, .int (x2 + (-1 : Int32))), (1, .int (nI 1)), (0, .ref 67)]) (st1 := []) (S1 := rt v5) (pc1 := 64) [(.istore_n 1, .null, 0, 0), (.iinc 2 (-1), .int (-1), 0, 0)] [] (by decide +kernel) rfl trivial ?_
          refine xr_goto (tgt := 9) (off := -55) (by decide +kernel) (by decide) ?_
          exact x_R.sub [2, 1, 0] rfl h
set_option maxRecDepth 100000 in
theorem w_X10_sweepDown_74 {E : Nat × (Nat → Int32)} {d : Nat} {v : xV} {x1 : Int32} {x2 : Int32} {Q : Int32 → xV → Prop} (h : ((x2 < (nI 0) → RI E (d + 1) 108 157 [(0, .ref 67), (1, .int x1), (2, .int (nI 0))] v Q) ∧ (¬ x2 < (nI 0) → vp_in x2 20 ∧ vp_in x2 20 ∧ KI E d 94 [.ref 67, .int ((gA v 26) (x2).toNatClampNeg), .int ((gA v 27) (x2).toNatClampNeg)] v (fun y4 v3 => KI E d 109 [.ref 67, .int x2] v3 (fun y6 v5 => ((y6 = (nI 0) → RI E (d + 1) 108 130 [(0, .ref 67), (1, .int x1), (2, .int x2), (3, .int y4)] v5 Q) ∧ (¬ y6 = (nI 0) → KI E d 111 [.ref 67, .int x2, .int (y4 + (nI 1))] v5 (fun y8 v7 => ((¬ y8 = (nI 0) → RI E (d + 1) 108 124 [(0, .ref 67), (2, .int x2), (3, .int y4)] v7 Q) ∧ (y8 = (nI 0) → ((x1 = (nI 0) → RI E (d + 1) 108 130 [(0, .ref 67), (1, .int (nI 0)), (2, .int x2), (3, .int y4)] v7 Q) ∧ (¬ x1 = (nI 0) → RI E (d + 1) 108 124 [(0, .ref 67), (2, .int x2), (3, .int y4)] v7 Q)))))))))))) : RI E (d + 1) 108 74 [(0, .ref 67), (1, .int x1), (2, .int x2)] v Q := by
  unfold RI
  refine xr_blk (lv1 := [(0, .ref 67), (1, .int x1), (2, .int x2)]) (st1 := [.int x2]) (S1 := rt v) (pc1 := 75) [(.iload_n 2, .null, 0, 0)] [] (by decide +kernel) rfl trivial ?_
  refine xr_if_lt (tgt := 155) (off := 80) (by decide +kernel) (by decide) (fun hc => ?_) (fun hc => ?_)
  · replace h := h.1 hc
    refine xr_blk (lv1 := [(2, .int (nI 0)), (0, .ref 67), (1, .int x1)]) (st1 := []) (S1 := rt v) (pc1 := 157) [(.iconst 0, .int (nI 0), 0, 0), (.istore_n 2, .null, 0, 0)] [] (by decide +kernel) rfl trivial ?_
    exact x_R.sub [1, 2, 0] rfl h
  · replace h := h.2 hc
    obtain ⟨hb1, h⟩ := h
    obtain ⟨hb2, h⟩ := h
    refine xr_blk (lv1 := [(0, .ref 67), (1, .int x1), (2, .int x2)]) (st1 := [.int ((gA v 27) (x2).toNatClampNeg), .int ((gA v 26) (x2).toNatClampNeg), .ref 67]) (S1 := rt v) (pc1 := 97) [(.aload_n 0, .null, 0, 0), (.aload_n 0, .null, 0, 0), (.getfield 47, .null, 10, 1), (.getfield 169, .null, 1, 0), (.iload_n 2, .null, 0, 0), (.iaload, .null, 0, 0), (.aload_n 0, .null, 0, 0), (.getfield 47, .null, 10, 1), (.getfield 172, .null, 1, 1), (.iload_n 2, .null, 0, 0), (.iaload, .null, 0, 0)] [(x2, 20), (x2, 20)] (by decide +kernel) rfl ⟨hb1, hb2, trivial⟩ ?_
    refine xk_VI (As := [.int ((gA v 26) (x2).toNatClampNeg), .int ((gA v 27) (x2).toNatClampNeg)]) (bb := 67) (rest := []) (idx := 100) (i0 := 100) (m1 := 94) (ps := [1061, 1062, 1063]) (by decide +kernel) (by decide +kernel) (by decide) rfl ((gK_s (by decide)).trans (by decide +kernel)) (by decide) (Nat.le_of_ble_eq_true rfl) rfl h (fun y4 v3 h => ?_)
    refine xr_blk (lv1 := [(3, .int y4), (0, .ref 67), (1, .int x1), (2, .int x2)]) (st1 := [.int x2, .ref 67]) (S1 := rt v3) (pc1 := 103) [(.istore_n 3, .null, 0, 0), (.aload_n 0, .null, 0, 0), (.iload_n 2, .null, 0, 0)] [] (by decide +kernel) rfl trivial ?_
    refine xk_VI (As := [.int x2]) (bb := 67) (rest := []) (idx := 175) (i0 := 175) (m1 := 109) (ps := [1108, 1110, 40]) (by decide +kernel) (by decide +kernel) (by decide) rfl ((gK_s (by decide)).trans (by decide +kernel)) (by decide) (Nat.le_of_ble_eq_true rfl) rfl h (fun y6 v5 h => ?_)
    refine xr_if_eq (tgt := 130) (off := 24) (by decide +kernel) (by decide) (fun hc => ?_) (fun hc => ?_)
    · replace h := h.1 hc
      exact x_R.sub [1, 2, 3, 0] rfl h
    · replace h := h.2 hc
      refine xr_blk (lv1 := [(3, .int y4), (0, .ref 67), (1, .int x1), (2, .int x2)]) (st1 := [.int (y4 + (nI 1)), .int x2, .ref 67]) (S1 := rt v5) (pc1 := 114) [(.aload_n 0, .null, 0, 0), (.iload_n 2, .null, 0, 0), (.iload_n 3, .null, 0, 0), (.iconst 1, .int (nI 1), 0, 0), (.iadd, .null, 0, 0)] [] (by decide +kernel) rfl trivial ?_
      refine xk_VI (As := [.int x2, .int (y4 + (nI 1))]) (bb := 67) (rest := []) (idx := 179) (i0 := 179) (m1 := 111) (ps := [1125, 1127, 44]) (by decide +kernel) (by decide +kernel) (by decide) rfl ((gK_s (by decide)).trans (by decide +kernel)) (by decide) (Nat.le_of_ble_eq_true rfl) rfl h (fun y8 v7 h => ?_)
      refine xr_if_ne (tgt := 124) (off := 7) (by decide +kernel) (by decide) (fun hc => ?_) (fun hc => ?_)
      · replace h := h.1 hc
        exact x_R.sub [1, 3, 0] rfl h
      · replace h := h.2 hc
        refine xr_blk (lv1 := [(3, .int y4), (0, .ref 67), (1, .int x1), (2, .int x2)]) (st1 := [.int x1]) (S1 := rt v7) (pc1 := 121) [(.iload_n 1, .null, 0, 0)] [] (by decide +kernel) rfl trivial ?_
        refine xr_if_eq (tgt := 128) (off := 7) (by decide +kernel) (by decide) (fun hc => ?_) (fun hc => ?_)
        · replace h := h.1 hc
          refine xr_blk (lv1 := [(1, .int (nI 0)), (3, .int y4), (0, .ref 67), (2, .int x2)]) (st1 := []) (S1 := rt v7) (pc1 := 130) [(.iconst 0, .int (nI 0), 0, 0), (.istore_n 1, .null, 0, 0)] [] (by decide +kernel) rfl trivial ?_
          exact x_R.sub [2, 0, 3, 1] rfl h
        · replace h := h.2 hc
          exact x_R.sub [1, 3, 0] rfl h
set_option maxRecDepth 100000 in
theorem w_X10_sweepDown_124 {E : Nat × (Nat → Int32)} {d : Nat} {v : xV} {x2 : Int32} {x3 : Int32} {Q : Int32 → xV → Prop} (h : RI E (d + 1) 108 130 [(0, .ref 67), (1, .int (nI 1)), (2, .int x2), (3, .int x3)] v Q) : RI E (d + 1) 108 124 [(0, .ref 67), (2, .int x2), (3, .int x3)] v Q := by
  unfold RI
  refine xr_blk (lv1 := [(0, .ref 67), (2, .int x2), (3, .int x3)]) (st1 := [.int (nI 1)]) (S1 := rt v) (pc1 := 125) [(.iconst 1, .int (nI 1), 0, 0)] [] (by decide +kernel) rfl trivial ?_
  refine xr_goto (tgt := 129) (off := 4) (by decide +kernel) (by decide) ?_
  refine xr_blk (lv1 := [(1, .int (nI 1)), (0, .ref 67), (2, .int x2), (3, .int x3)]) (st1 := []) (S1 := rt v) (pc1 := 130) [(.istore_n 1, .null, 0, 0)] [] (by decide +kernel) rfl trivial ?_
  exact x_R.sub [1, 0, 2, 3] rfl h
set_option maxRecDepth 100000 in
theorem w_X10_sweepDown_130 {E : Nat × (Nat → Int32)} {d : Nat} {v : xV} {x1 : Int32} {x2 : Int32} {x3 : Int32} {Q : Int32 → xV → Prop} (h : KI E d 111 [.ref 67, .int x3, .int x2] v (fun y2 v1 => ((¬ y2 = (nI 0) → RI E (d + 1) 108 74 [(0, .ref 67), (1, .int (nI 1)), (2, .int (x2 + (-1 : Int32)))] v1 Q) ∧ (y2 = (nI 0) → ((x1 = (nI 0) → RI E (d + 1) 108 74 [(0, .ref 67), (1, .int (nI 0)), (2, .int (x2 + (-1 : Int32)))] v1 Q) ∧ (¬ x1 = (nI 0) → RI E (d + 1) 108 74 [(0, .ref 67), (1, .int (nI 1)), (2, .int (x2 + (-1 : Int32)))] v1 Q)))))) : RI E (d + 1) 108 130 [(0, .ref 67), (1, .int x1), (2, .int x2), (3, .int x3)] v Q := by
  unfold RI
  refine xr_blk (lv1 := [(0, .ref 67), (1, .int x1), (2, .int x2), (3, .int x3)]) (st1 := [.int x2, .int x3, .ref 67]) (S1 := rt v) (pc1 := 133) [(.aload_n 0, .null, 0, 0), (.iload_n 3, .null, 0, 0), (.iload_n 2, .null, 0, 0)] [] (by decide +kernel) rfl trivial ?_
  refine xk_VI (As := [.int x3, .int x2]) (bb := 67) (rest := []) (idx := 179) (i0 := 179) (m1 := 111) (ps := [1125, 1127, 44]) (by decide +kernel) (by decide +kernel) (by decide) rfl ((gK_s (by decide)).trans (by decide +kernel)) (by decide) (Nat.le_of_ble_eq_true rfl) rfl h (fun y2 v1 h => ?_)
  refine xr_if_ne (tgt := 143) (off := 7) (by decide +kernel) (by decide) (fun hc => ?_) (fun hc => ?_)
  · replace h := h.1 hc
    refine xr_blk (lv1 := [(0, .ref 67), (1, .int x1), (2, .int x2), (3, .int x3)]) (st1 := [.int (nI 1)]) (S1 := rt v1) (pc1 := 144) [(.iconst 1, .int (nI 1), 0, 0)] [] (by decide +kernel) rfl trivial ?_
    refine xr_goto (tgt := 148) (off := 4) (by decide +kernel) (by decide) ?_
    refine xr_blk (lv1 := [(2, .int (x2 + (-1 : Int32))), (1, .int (nI 1)), (0, .ref 67), (3, .int x3)]) (st1 := []) (S1 := rt v1) (pc1 := 152) [(.istore_n 1, .null, 0, 0), (.iinc 2 (-1), .int (-1), 0, 0)] [] (by decide +kernel) rfl trivial ?_
    refine xr_goto (tgt := 74) (off := -78) (by decide +kernel) (by decide) ?_
    exact x_R.sub [2, 1, 0] rfl h
  · replace h := h.2 hc
    refine xr_blk (lv1 := [(0, .ref 67), (1, .int x1), (2, .int x2), (3, .int x3)]) (st1 := [.int x1]) (S1 := rt v1) (pc1 := 140) [(.iload_n 1, .null, 0, 0)] [] (by decide +kernel) rfl trivial ?_
    refine xr_if_eq (tgt := 147) (off := 7) (by decide +kernel) (by decide) (fun hc => ?_) (fun hc => ?_)
    · replace h := h.1 hc
      refine xr_blk (lv1 := [(2, .int (x2 + (-1 : Int32))), (1, .int (nI 0)), (0, .ref 67), (3, .int x3)]) (st1 := []) (S1 := rt v1) (pc1 := 152) [(.iconst 0, .int (nI 0), 0, 0), (.istore_n 1, .null, 0, 0), (.iinc 2 (-1), .int (-1), 0, 0)] [] (by decide +kernel) rfl trivial ?_
      refine xr_goto (tgt := 74) (off := -78) (by decide +kernel) (by decide) ?_
      exact x_R.sub [2, 1, 0] rfl h
    · replace h := h.2 hc
      refine xr_blk (lv1 := [(0, .ref 67), (1, .int x1), (2, .int x2), (3, .int x3)]) (st1 := [.int (nI 1)]) (S1 := rt v1) (pc1 := 144) [(.iconst 1, .int (nI 1), 0, 0)] [] (by decide +kernel) rfl trivial ?_
      refine xr_goto (tgt := 148) (off := 4) (by decide +kernel) (by decide) ?_
      refine xr_blk (lv1 := [(2, .int (x2 + (-1 : Int32))), (1, .int (nI 1)), (0, .ref 67), (3, .int x3)]) (st1 := []) (S1 := rt v1) (pc1 := 152) [(.istore_n 1, .null, 0, 0), (.iinc 2 (-1), .int (-1), 0, 0)] [] (by decide +kernel) rfl trivial ?_
      refine xr_goto (tgt := 74) (off := -78) (by decide +kernel) (by decide) ?_
      exact x_R.sub [2, 1, 0] rfl h
set_option maxRecDepth 100000 in
theorem w_X10_sweepDown_157 {E : Nat × (Nat → Int32)} {d : Nat} {v : xV} {x1 : Int32} {x2 : Int32} {Q : Int32 → xV → Prop} (h : (((gI v 11 7) ≤ x2 → vp_in x1 2 ∧ Q x1 v) ∧ (¬ (gI v 11 7) ≤ x2 → vp_in x2 8 ∧ ∀ y2 : Int32, y2 = (((gA v 14) (x2).toNatClampNeg) - (nI 1)) → RI E (d + 1) 108 180 [(0, .ref 67), (1, .int x1), (2, .int x2), (3, .int y2)] v Q))) : RI E (d + 1) 108 157 [(0, .ref 67), (1, .int x1), (2, .int x2)] v Q := by
  unfold RI
  refine xr_blk (lv1 := [(0, .ref 67), (1, .int x1), (2, .int x2)]) (st1 := [.int (gI v 11 7), .int x2]) (S1 := rt v) (pc1 := 165) [(.iload_n 2, .null, 0, 0), (.aload_n 0, .null, 0, 0), (.getfield 43, .null, 10, 0), (.getfield 158, .null, 9, 7)] [] (by decide +kernel) rfl trivial ?_
  refine xr_ic_ge (tgt := 228) (off := 63) (by decide +kernel) (by decide) (fun hc => ?_) (fun hc => ?_)
  · replace h := h.1 hc
    refine xr_blk (lv1 := [(0, .ref 67), (1, .int x1), (2, .int x2)]) (st1 := [.int x1]) (S1 := rt v) (pc1 := 229) [(.iload_n 1, .null, 0, 0)] [] (by decide +kernel) rfl trivial ?_
    obtain ⟨hz, h⟩ := h
    exact xr_zret (by decide +kernel) rfl hz ⟨_, _, rfl, rfl, h⟩
  · replace h := h.2 hc
    obtain ⟨hb1, h⟩ := h
    refine xr_blk (lv1 := [(0, .ref 67), (1, .int x1), (2, .int x2)]) (st1 := [.int (((gA v 14) (x2).toNatClampNeg) - (nI 1))]) (S1 := rt v) (pc1 := 179) [(.aload_n 0, .null, 0, 0), (.getfield 43, .null, 10, 0), (.getfield 163, .null, 9, 2), (.iload_n 2, .null, 0, 0), (.iaload, .null, 0, 0), (.iconst 1, .int (nI 1), 0, 0), (.isub, .null, 0, 0)] [(x2, 8)] (by decide +kernel) rfl ⟨hb1, trivial⟩ ?_
    refine xr_topi (fun y2 ey2 => ?_)
    replace h := h y2 ey2
    refine xr_blk (lv1 := [(3, .int y2), (0, .ref 67), (1, .int x1), (2, .int x2)]) (st1 := []) (S1 := rt v) (pc1 := 180) [(.istore_n 3, .null, 0, 0)] [] (by decide +kernel) rfl trivial ?_
    exact x_R.sub [1, 2, 3, 0] rfl h
set_option maxRecDepth 100000 in
theorem w_X10_sweepDown_180 {E : Nat × (Nat → Int32)} {d : Nat} {v : xV} {x1 : Int32} {x2 : Int32} {x3 : Int32} {Q : Int32 → xV → Prop} (h : ((x3 < (nI 1) → RI E (d + 1) 108 157 [(0, .ref 67), (1, .int x1), (2, .int (x2 + (nI 1)))] v Q) ∧ (¬ x3 < (nI 1) → KI E d 94 [.ref 67, .int x2, .int (x3 - (nI 1))] v (fun y2 v1 => KI E d 94 [.ref 67, .int x2, .int x3] v1 (fun y4 v3 => KI E d 111 [.ref 67, .int y2, .int y4] v3 (fun y6 v5 => ((¬ y6 = (nI 0) → RI E (d + 1) 108 180 [(0, .ref 67), (1, .int (nI 1)), (2, .int x2), (3, .int (x3 + (-1 : Int32)))] v5 Q) ∧ (y6 = (nI 0) → ((x1 = (nI 0) → RI E (d + 1) 108 180 [(0, .ref 67), (1, .int (nI 0)), (2, .int x2), (3, .int (x3 + (-1 : Int32)))] v5 Q) ∧ (¬ x1 = (nI 0) → RI E (d + 1) 108 180 [(0, .ref 67), (1, .int (nI 1)), (2, .int x2), (3, .int (x3 + (-1 : Int32)))] v5 Q)))))))))) : RI E (d + 1) 108 180 [(0, .ref 67), (1, .int x1), (2, .int x2), (3, .int x3)] v Q := by
  unfold RI
  refine xr_blk (lv1 := [(0, .ref 67), (1, .int x1), (2, .int x2), (3, .int x3)]) (st1 := [.int (nI 1), .int x3]) (S1 := rt v) (pc1 := 182) [(.iload_n 3, .null, 0, 0), (.iconst 1, .int (nI 1), 0, 0)] [] (by decide +kernel) rfl trivial ?_
  refine xr_ic_lt (tgt := 222) (off := 40) (by decide +kernel) (by decide) (fun hc => ?_) (fun hc => ?_)
  · replace h := h.1 hc
    refine xr_blk (lv1 := [(2, .int (x2 + (nI 1))), (0, .ref 67), (1, .int x1), (3, .int x3)]) (st1 := []) (S1 := rt v) (pc1 := 225) [(.iinc 2 1, .int (nI 1), 0, 0)] [] (by decide +kernel) rfl trivial ?_
    refine xr_goto (tgt := 157) (off := -68) (by decide +kernel) (by decide) ?_
    exact x_R.sub [1, 2, 0] rfl h
  · replace h := h.2 hc
    refine xr_blk (lv1 := [(0, .ref 67), (1, .int x1), (2, .int x2), (3, .int x3)]) (st1 := [.int (x3 - (nI 1)), .int x2, .ref 67, .ref 67]) (S1 := rt v) (pc1 := 191) [(.aload_n 0, .null, 0, 0), (.aload_n 0, .null, 0, 0), (.iload_n 2, .null, 0, 0), (.iload_n 3, .null, 0, 0), (.iconst 1, .int (nI 1), 0, 0), (.isub, .null, 0, 0)] [] (by decide +kernel) rfl trivial ?_
    refine xk_VI (As := [.int x2, .int (x3 - (nI 1))]) (bb := 67) (rest := [.ref 67]) (idx := 100) (i0 := 100) (m1 := 94) (ps := [1061, 1062, 1063]) (by decide +kernel) (by decide +kernel) (by decide) rfl ((gK_s (by decide)).trans (by decide +kernel)) (by decide) (Nat.le_of_ble_eq_true rfl) rfl h (fun y2 v1 h => ?_)
    refine xr_blk (lv1 := [(0, .ref 67), (1, .int x1), (2, .int x2), (3, .int x3)]) (st1 := [.int x3, .int x2, .ref 67, .int y2, .ref 67]) (S1 := rt v1) (pc1 := 197) [(.aload_n 0, .null, 0, 0), (.iload_n 2, .null, 0, 0), (.iload_n 3, .null, 0, 0)] [] (by decide +kernel) rfl trivial ?_
    refine xk_VI (As := [.int x2, .int x3]) (bb := 67) (rest := [.int y2, .ref 67]) (idx := 100) (i0 := 100) (m1 := 94) (ps := [1061, 1062, 1063]) (by decide +kernel) (by decide +kernel) (by decide) rfl ((gK_s (by decide)).trans (by decide +kernel)) (by decide) (Nat.le_of_ble_eq_true rfl) rfl h (fun y4 v3 h => ?_)
    refine xk_VI (As := [.int y2, .int y4]) (bb := 67) (rest := []) (idx := 179) (i0 := 179) (m1 := 111) (ps := [1125, 1127, 44]) (by decide +kernel) (by decide +kernel) (by decide) rfl ((gK_s (by decide)).trans (by decide +kernel)) (by decide) (Nat.le_of_ble_eq_true rfl) rfl h (fun y6 v5 h => ?_)
    refine xr_if_ne (tgt := 210) (off := 7) (by decide +kernel) (by decide) (fun hc => ?_) (fun hc => ?_)
    · replace h := h.1 hc
      refine xr_blk (lv1 := [(0, .ref 67), (1, .int x1), (2, .int x2), (3, .int x3)]) (st1 := [.int (nI 1)]) (S1 := rt v5) (pc1 := 211) [(.iconst 1, .int (nI 1), 0, 0)] [] (by decide +kernel) rfl trivial ?_
      refine xr_goto (tgt := 215) (off := 4) (by decide +kernel) (by decide) ?_
      refine xr_blk (lv1 := [(3, .int (x3 + (-1 : Int32))), (1, .int (nI 1)), (0, .ref 67), (2, .int x2)]) (st1 := []) (S1 := rt v5) (pc1 := 219) [(.istore_n 1, .null, 0, 0), (.iinc 3 (-1), .int (-1), 0, 0)] [] (by decide +kernel) rfl trivial ?_
      refine xr_goto (tgt := 180) (off := -39) (by decide +kernel) (by decide) ?_
      exact x_R.sub [2, 1, 3, 0] rfl h
    · replace h := h.2 hc
      refine xr_blk (lv1 := [(0, .ref 67), (1, .int x1), (2, .int x2), (3, .int x3)]) (st1 := [.int x1]) (S1 := rt v5) (pc1 := 207) [(.iload_n 1, .null, 0, 0)] [] (by decide +kernel) rfl trivial ?_
      refine xr_if_eq (tgt := 214) (off := 7) (by decide +kernel) (by decide) (fun hc => ?_) (fun hc => ?_)
      · replace h := h.1 hc
        refine xr_blk (lv1 := [(3, .int (x3 + (-1 : Int32))), (1, .int (nI 0)), (0, .ref 67), (2, .int x2)]) (st1 := []) (S1 := rt v5) (pc1 := 219) [(.iconst 0, .int (nI 0), 0, 0), (.istore_n 1, .null, 0, 0), (.iinc 3 (-1), .int (-1), 0, 0)] [] (by decide +kernel) rfl trivial ?_
        refine xr_goto (tgt := 180) (off := -39) (by decide +kernel) (by decide) ?_
        exact x_R.sub [2, 1, 3, 0] rfl h
      · replace h := h.2 hc
        refine xr_blk (lv1 := [(0, .ref 67), (1, .int x1), (2, .int x2), (3, .int x3)]) (st1 := [.int (nI 1)]) (S1 := rt v5) (pc1 := 211) [(.iconst 1, .int (nI 1), 0, 0)] [] (by decide +kernel) rfl trivial ?_
        refine xr_goto (tgt := 215) (off := 4) (by decide +kernel) (by decide) ?_
        refine xr_blk (lv1 := [(3, .int (x3 + (-1 : Int32))), (1, .int (nI 1)), (0, .ref 67), (2, .int x2)]) (st1 := []) (S1 := rt v5) (pc1 := 219) [(.istore_n 1, .null, 0, 0), (.iinc 3 (-1), .int (-1), 0, 0)] [] (by decide +kernel) rfl trivial ?_
        refine xr_goto (tgt := 180) (off := -39) (by decide +kernel) (by decide) ?_
        exact x_R.sub [2, 1, 3, 0] rfl h
theorem ok_108 : x_mOK 108 := ⟨x_tm5 (List.mem_of_getElem? (i := 64) rfl) rfl, 112, by decide +kernel⟩
/-! X10_isCovered: method 109, ScrawlHouse$Years.isCovered(I)Z -/
set_option maxRecDepth 100000 in
theorem w_X10_isCovered_0 {E : Nat × (Nat → Int32)} {d : Nat} {v : xV} {x1 : Int32} {Q : Int32 → xV → Prop} (h : vp_in x1 20 ∧ vp_in x1 20 ∧ KI E d 83 [.ref 11, .int ((gA v 26) (x1).toNatClampNeg), .int (((gA v 27) (x1).toNatClampNeg) + (nI 1))] v (fun y4 v3 => vp_in y4 2 ∧ Q y4 v3)) : RI E (d + 1) 109 0 [(0, .ref 67), (1, .int x1)] v Q := by
  unfold RI
  obtain ⟨hb1, h⟩ := h
  obtain ⟨hb2, h⟩ := h
  refine xr_blk (lv1 := [(0, .ref 67), (1, .int x1)]) (st1 := [.int (((gA v 27) (x1).toNatClampNeg) + (nI 1)), .int ((gA v 26) (x1).toNatClampNeg), .ref 11]) (S1 := rt v) (pc1 := 24) [(.aload_n 0, .null, 0, 0), (.getfield 43, .null, 10, 0), (.aload_n 0, .null, 0, 0), (.getfield 47, .null, 10, 1), (.getfield 169, .null, 1, 0), (.iload_n 1, .null, 0, 0), (.iaload, .null, 0, 0), (.aload_n 0, .null, 0, 0), (.getfield 47, .null, 10, 1), (.getfield 172, .null, 1, 1), (.iload_n 1, .null, 0, 0), (.iaload, .null, 0, 0), (.iconst 1, .int (nI 1), 0, 0), (.iadd, .null, 0, 0)] [(x1, 20), (x1, 20)] (by decide +kernel) rfl ⟨hb1, hb2, trivial⟩ ?_
  refine xk_VI (As := [.int ((gA v 26) (x1).toNatClampNeg), .int (((gA v 27) (x1).toNatClampNeg) + (nI 1))]) (bb := 11) (rest := []) (idx := 182) (i0 := 182) (m1 := 83) (ps := [1112, 855, 856]) (by decide +kernel) (by decide +kernel) (by decide) rfl ((gK_s (by decide)).trans (by decide +kernel)) (by decide) (Nat.le_of_ble_eq_true rfl) rfl h (fun y4 v3 h => ?_)
  obtain ⟨hz, h⟩ := h
  exact xr_zret (by decide +kernel) rfl hz ⟨_, _, rfl, rfl, h⟩
theorem ok_109 : x_mOK 109 := ⟨x_tm5 (List.mem_of_getElem? (i := 51) rfl) rfl, 112, by decide +kernel⟩
/-! X10_raise: method 110, ScrawlHouse$Years.raise(II)Z -/
set_option maxRecDepth 100000 in
theorem w_X10_raise_0 {E : Nat × (Nat → Int32)} {d : Nat} {v : xV} {x1 : Int32} {x2 : Int32} {Q : Int32 → xV → Prop} (h : vp_in x1 52 ∧ vp_in x2 52 ∧ ((((gA v 72) (x1).toNatClampNeg) < ((gA v 72) (x2).toNatClampNeg) → vp_in x2 52 ∧ KI E d 102 [.ref 67, .int x1, .int ((gA v 72) (x2).toNatClampNeg)] v (fun y5 v4 => vp_in x1 52 ∧ Q (nI 1) (v_A v4 72 (upd (gA v4 72) (x1).toNatClampNeg y5)))) ∧ (¬ ((gA v 72) (x1).toNatClampNeg) < ((gA v 72) (x2).toNatClampNeg) → Q (nI 0) v))) : RI E (d + 1) 110 0 [(0, .ref 67), (1, .int x1), (2, .int x2)] v Q := by
  unfold RI
  obtain ⟨hb1, h⟩ := h
  obtain ⟨hb2, h⟩ := h
  refine xr_blk (lv1 := [(0, .ref 67), (1, .int x1), (2, .int x2)]) (st1 := [.int ((gA v 72) (x2).toNatClampNeg), .int ((gA v 72) (x1).toNatClampNeg)]) (S1 := rt v) (pc1 := 12) [(.aload_n 0, .null, 0, 0), (.getfield 26, .null, 10, 8), (.iload_n 1, .null, 0, 0), (.iaload, .null, 0, 0), (.aload_n 0, .null, 0, 0), (.getfield 26, .null, 10, 8), (.iload_n 2, .null, 0, 0), (.iaload, .null, 0, 0)] [(x1, 52), (x2, 52)] (by decide +kernel) rfl ⟨hb1, hb2, trivial⟩ ?_
  refine xr_ic_lt (tgt := 17) (off := 5) (by decide +kernel) (by decide) (fun hc => ?_) (fun hc => ?_)
  · replace h := h.1 hc
    obtain ⟨hb3, h⟩ := h
    refine xr_blk (lv1 := [(0, .ref 67), (1, .int x1), (2, .int x2)]) (st1 := [.int ((gA v 72) (x2).toNatClampNeg), .int x1, .ref 67, .int x1, .ref 72]) (S1 := rt v) (pc1 := 30) [(.aload_n 0, .null, 0, 0), (.getfield 26, .null, 10, 8), (.iload_n 1, .null, 0, 0), (.aload_n 0, .null, 0, 0), (.iload_n 1, .null, 0, 0), (.aload_n 0, .null, 0, 0), (.getfield 26, .null, 10, 8), (.iload_n 2, .null, 0, 0), (.iaload, .null, 0, 0)] [(x2, 52)] (by decide +kernel) rfl ⟨hb3, trivial⟩ ?_
    refine xk_VI (As := [.int x1, .int ((gA v 72) (x2).toNatClampNeg)]) (bb := 67) (rest := [.int x1, .ref 72]) (idx := 143) (i0 := 143) (m1 := 102) (ps := [1088, 1090, 35]) (by decide +kernel) (by decide +kernel) (by decide) rfl ((gK_s (by decide)).trans (by decide +kernel)) (by decide) (Nat.le_of_ble_eq_true rfl) rfl h (fun y5 v4 h => ?_)
    obtain ⟨hb6, h⟩ := h
    refine xr_blk (lv1 := [(0, .ref 67), (1, .int x1), (2, .int x2)]) (st1 := [.int (nI 1)]) (S1 := rt (v_A v4 72 (upd (gA v4 72) (x1).toNatClampNeg y5))) (pc1 := 35) [(.iastore, .null, 0, 0), (.iconst 1, .int (nI 1), 0, 0)] [(x1, 52)] (by decide +kernel) rfl ⟨hb6, trivial⟩ ?_
    exact xr_zret (by decide +kernel) rfl x_in2_1 ⟨_, _, rfl, rfl, h⟩
  · replace h := h.2 hc
    refine xr_blk (lv1 := [(0, .ref 67), (1, .int x1), (2, .int x2)]) (st1 := [.int (nI 0)]) (S1 := rt v) (pc1 := 16) [(.iconst 0, .int (nI 0), 0, 0)] [] (by decide +kernel) rfl trivial ?_
    exact xr_zret (by decide +kernel) rfl x_in2_0 ⟨_, _, rfl, rfl, h⟩
theorem ok_110 : x_mOK 110 := ⟨x_tm5 (List.mem_of_getElem? (i := 47) rfl) rfl, 112, by decide +kernel⟩
/-! X10_lower: method 111, ScrawlHouse$Years.lower(II)Z -/
set_option maxRecDepth 100000 in
theorem w_X10_lower_0 {E : Nat × (Nat → Int32)} {d : Nat} {v : xV} {x1 : Int32} {x2 : Int32} {Q : Int32 → xV → Prop} (h : vp_in x1 52 ∧ vp_in x2 52 ∧ ((((gA v 73) (x2).toNatClampNeg) < ((gA v 73) (x1).toNatClampNeg) → vp_in x2 52 ∧ KI E d 103 [.ref 67, .int x1, .int ((gA v 73) (x2).toNatClampNeg)] v (fun y5 v4 => vp_in x1 52 ∧ Q (nI 1) (v_A v4 73 (upd (gA v4 73) (x1).toNatClampNeg y5)))) ∧ (¬ ((gA v 73) (x2).toNatClampNeg) < ((gA v 73) (x1).toNatClampNeg) → Q (nI 0) v))) : RI E (d + 1) 111 0 [(0, .ref 67), (1, .int x1), (2, .int x2)] v Q := by
  unfold RI
  obtain ⟨hb1, h⟩ := h
  obtain ⟨hb2, h⟩ := h
  refine xr_blk (lv1 := [(0, .ref 67), (1, .int x1), (2, .int x2)]) (st1 := [.int ((gA v 73) (x2).toNatClampNeg), .int ((gA v 73) (x1).toNatClampNeg)]) (S1 := rt v) (pc1 := 12) [(.aload_n 0, .null, 0, 0), (.getfield 29, .null, 10, 9), (.iload_n 1, .null, 0, 0), (.iaload, .null, 0, 0), (.aload_n 0, .null, 0, 0), (.getfield 29, .null, 10, 9), (.iload_n 2, .null, 0, 0), (.iaload, .null, 0, 0)] [(x1, 52), (x2, 52)] (by decide +kernel) rfl ⟨hb1, hb2, trivial⟩ ?_
  refine xr_ic_gt (tgt := 17) (off := 5) (by decide +kernel) (by decide) (fun hc => ?_) (fun hc => ?_)
  · replace h := h.1 hc
    obtain ⟨hb3, h⟩ := h
    refine xr_blk (lv1 := [(0, .ref 67), (1, .int x1), (2, .int x2)]) (st1 := [.int ((gA v 73) (x2).toNatClampNeg), .int x1, .ref 67, .int x1, .ref 73]) (S1 := rt v) (pc1 := 30) [(.aload_n 0, .null, 0, 0), (.getfield 29, .null, 10, 9), (.iload_n 1, .null, 0, 0), (.aload_n 0, .null, 0, 0), (.iload_n 1, .null, 0, 0), (.aload_n 0, .null, 0, 0), (.getfield 29, .null, 10, 9), (.iload_n 2, .null, 0, 0), (.iaload, .null, 0, 0)] [(x2, 52)] (by decide +kernel) rfl ⟨hb3, trivial⟩ ?_
    refine xk_VI (As := [.int x1, .int ((gA v 73) (x2).toNatClampNeg)]) (bb := 67) (rest := [.int x1, .ref 73]) (idx := 152) (i0 := 152) (m1 := 103) (ps := [1117, 1119, 42]) (by decide +kernel) (by decide +kernel) (by decide) rfl ((gK_s (by decide)).trans (by decide +kernel)) (by decide) (Nat.le_of_ble_eq_true rfl) rfl h (fun y5 v4 h => ?_)
    obtain ⟨hb6, h⟩ := h
    refine xr_blk (lv1 := [(0, .ref 67), (1, .int x1), (2, .int x2)]) (st1 := [.int (nI 1)]) (S1 := rt (v_A v4 73 (upd (gA v4 73) (x1).toNatClampNeg y5))) (pc1 := 35) [(.iastore, .null, 0, 0), (.iconst 1, .int (nI 1), 0, 0)] [(x1, 52)] (by decide +kernel) rfl ⟨hb6, trivial⟩ ?_
    exact xr_zret (by decide +kernel) rfl x_in2_1 ⟨_, _, rfl, rfl, h⟩
  · replace h := h.2 hc
    refine xr_blk (lv1 := [(0, .ref 67), (1, .int x1), (2, .int x2)]) (st1 := [.int (nI 0)]) (S1 := rt v) (pc1 := 16) [(.iconst 0, .int (nI 0), 0, 0)] [] (by decide +kernel) rfl trivial ?_
    exact xr_zret (by decide +kernel) rfl x_in2_0 ⟨_, _, rfl, rfl, h⟩
theorem ok_111 : x_mOK 111 := ⟨x_tm5 (List.mem_of_getElem? (i := 68) rfl) rfl, 112, by decide +kernel⟩
/-! X11_feed: method 113, ScrawlHouse.feed(IIIII)I -/
set_option maxRecDepth 100000 in
theorem w_X11_feed_0 {E : Nat × (Nat → Int32)} {d : Nat} {v : xV} {x1 : Int32} {x2 : Int32} {x3 : Int32} {x4 : Int32} {x5 : Int32} {Q : Int32 → xV → Prop} (h : ((((gI v 1 1) + (nI 20)) ≤ (nI 240) → KV E d 77 [.ref 1, .int x1] v (fun v1 => KV E d 77 [.ref 1, .int x2] v1 (fun v2 => KV E d 77 [.ref 1, .int x3] v2 (fun v3 => KV E d 77 [.ref 1, .int x4] v3 (fun v4 => KV E d 77 [.ref 1, .int x5] v4 (fun v5 => Q (gI v5 1 1) v5)))))) ∧ (¬ ((gI v 1 1) + (nI 20)) ≤ (nI 240) → Q (-1 : Int32) v))) : RI E (d + 1) 113 0 [(0, .ref 0), (1, .int x1), (2, .int x2), (3, .int x3), (4, .int x4), (5, .int x5)] v Q := by
  unfold RI
  refine xr_blk (lv1 := [(0, .ref 0), (1, .int x1), (2, .int x2), (3, .int x3), (4, .int x4), (5, .int x5)]) (st1 := [.int (nI 240), .int ((gI v 1 1) + (nI 20))]) (S1 := rt v) (pc1 := 13) [(.aload_n 0, .null, 0, 0), (.getfield 12, .null, 11, 0), (.getfield 105, .null, 8, 1), (.bipush 20, .int (nI 20), 0, 0), (.iadd, .null, 0, 0), (.sipush 240, .int (nI 240), 0, 0)] [] (by decide +kernel) rfl trivial ?_
  refine xr_ic_le (tgt := 18) (off := 5) (by decide +kernel) (by decide) (fun hc => ?_) (fun hc => ?_)
  · replace h := h.1 hc
    refine xr_blk (lv1 := [(0, .ref 0), (1, .int x1), (2, .int x2), (3, .int x3), (4, .int x4), (5, .int x5)]) (st1 := [.int x1, .ref 1]) (S1 := rt v) (pc1 := 23) [(.aload_n 0, .null, 0, 0), (.getfield 12, .null, 11, 0), (.iload_n 1, .null, 0, 0)] [] (by decide +kernel) rfl trivial ?_
    refine xk_VV (As := [.int x1]) (bb := 1) (rest := []) (idx := 108) (i0 := 108) (m1 := 77) (ps := [637, 638, 639]) (by decide +kernel) (by decide +kernel) (by decide) rfl ((gK_s (by decide)).trans (by decide +kernel)) (by decide) (Nat.le_of_ble_eq_true rfl) rfl h (fun v1 h => ?_)
    refine xr_blk (lv1 := [(0, .ref 0), (1, .int x1), (2, .int x2), (3, .int x3), (4, .int x4), (5, .int x5)]) (st1 := [.int x2, .ref 1]) (S1 := rt v1) (pc1 := 31) [(.aload_n 0, .null, 0, 0), (.getfield 12, .null, 11, 0), (.iload_n 2, .null, 0, 0)] [] (by decide +kernel) rfl trivial ?_
    refine xk_VV (As := [.int x2]) (bb := 1) (rest := []) (idx := 108) (i0 := 108) (m1 := 77) (ps := [637, 638, 639]) (by decide +kernel) (by decide +kernel) (by decide) rfl ((gK_s (by decide)).trans (by decide +kernel)) (by decide) (Nat.le_of_ble_eq_true rfl) rfl h (fun v2 h => ?_)
    refine xr_blk (lv1 := [(0, .ref 0), (1, .int x1), (2, .int x2), (3, .int x3), (4, .int x4), (5, .int x5)]) (st1 := [.int x3, .ref 1]) (S1 := rt v2) (pc1 := 39) [(.aload_n 0, .null, 0, 0), (.getfield 12, .null, 11, 0), (.iload_n 3, .null, 0, 0)] [] (by decide +kernel) rfl trivial ?_
    refine xk_VV (As := [.int x3]) (bb := 1) (rest := []) (idx := 108) (i0 := 108) (m1 := 77) (ps := [637, 638, 639]) (by decide +kernel) (by decide +kernel) (by decide) rfl ((gK_s (by decide)).trans (by decide +kernel)) (by decide) (Nat.le_of_ble_eq_true rfl) rfl h (fun v3 h => ?_)
    refine xr_blk (lv1 := [(0, .ref 0), (1, .int x1), (2, .int x2), (3, .int x3), (4, .int x4), (5, .int x5)]) (st1 := [.int x4, .ref 1]) (S1 := rt v3) (pc1 := 48) [(.aload_n 0, .null, 0, 0), (.getfield 12, .null, 11, 0), (.iload 4, .null, 0, 0)] [] (by decide +kernel) rfl trivial ?_
    refine xk_VV (As := [.int x4]) (bb := 1) (rest := []) (idx := 108) (i0 := 108) (m1 := 77) (ps := [637, 638, 639]) (by decide +kernel) (by decide +kernel) (by decide) rfl ((gK_s (by decide)).trans (by decide +kernel)) (by decide) (Nat.le_of_ble_eq_true rfl) rfl h (fun v4 h => ?_)
    refine xr_blk (lv1 := [(0, .ref 0), (1, .int x1), (2, .int x2), (3, .int x3), (4, .int x4), (5, .int x5)]) (st1 := [.int x5, .ref 1]) (S1 := rt v4) (pc1 := 57) [(.aload_n 0, .null, 0, 0), (.getfield 12, .null, 11, 0), (.iload 5, .null, 0, 0)] [] (by decide +kernel) rfl trivial ?_
    refine xk_VV (As := [.int x5]) (bb := 1) (rest := []) (idx := 108) (i0 := 108) (m1 := 77) (ps := [637, 638, 639]) (by decide +kernel) (by decide +kernel) (by decide) rfl ((gK_s (by decide)).trans (by decide +kernel)) (by decide) (Nat.le_of_ble_eq_true rfl) rfl h (fun v5 h => ?_)
    refine xr_blk (lv1 := [(0, .ref 0), (1, .int x1), (2, .int x2), (3, .int x3), (4, .int x4), (5, .int x5)]) (st1 := [.int (gI v5 1 1)]) (S1 := rt v5) (pc1 := 67) [(.aload_n 0, .null, 0, 0), (.getfield 12, .null, 11, 0), (.getfield 105, .null, 8, 1)] [] (by decide +kernel) rfl trivial ?_
    exact xr_iret (by decide +kernel) rfl ⟨_, _, rfl, rfl, h⟩
  · replace h := h.2 hc
    refine xr_blk (lv1 := [(0, .ref 0), (1, .int x1), (2, .int x2), (3, .int x3), (4, .int x4), (5, .int x5)]) (st1 := [.int (-1)]) (S1 := rt v) (pc1 := 17) [(.iconst (-1), .int (-1), 0, 0)] [] (by decide +kernel) rfl trivial ?_
    exact xr_iret (by decide +kernel) rfl ⟨_, _, rfl, rfl, h⟩
theorem ok_113 : x_mOK 113 := ⟨x_tm3 (List.mem_of_getElem? (i := 56) rfl) rfl, 101, by decide +kernel⟩
/-! X11_end: method 114, ScrawlHouse.end(I)Z -/
set_option maxRecDepth 100000 in
theorem w_X11_end_0 {E : Nat × (Nat → Int32)} {d : Nat} {v : xV} {x1 : Int32} {Q : Int32 → xV → Prop} (h : ((x1 < (nI 0) → Q (nI 0) v) ∧ (¬ x1 < (nI 0) → ((x1 ≤ (gI v 1 1) → Q (nI 1) (v_I v 1 1 x1)) ∧ (¬ x1 ≤ (gI v 1 1) → Q (nI 0) v))))) : RI E d 114 0 [(0, .ref 0), (1, .int x1)] v Q := by
  unfold RI
  refine xr_blk (lv1 := [(0, .ref 0), (1, .int x1)]) (st1 := [.int x1]) (S1 := rt v) (pc1 := 1) [(.iload_n 1, .null, 0, 0)] [] (by decide +kernel) rfl trivial ?_
  refine xr_if_lt (tgt := 15) (off := 14) (by decide +kernel) (by decide) (fun hc => ?_) (fun hc => ?_)
  · replace h := h.1 hc
    refine xr_blk (lv1 := [(0, .ref 0), (1, .int x1)]) (st1 := [.int (nI 0)]) (S1 := rt v) (pc1 := 16) [(.iconst 0, .int (nI 0), 0, 0)] [] (by decide +kernel) rfl trivial ?_
    exact xr_zret (by decide +kernel) rfl x_in2_0 ⟨_, _, rfl, rfl, h⟩
  · replace h := h.2 hc
    refine xr_blk (lv1 := [(0, .ref 0), (1, .int x1)]) (st1 := [.int (gI v 1 1), .int x1]) (S1 := rt v) (pc1 := 12) [(.iload_n 1, .null, 0, 0), (.aload_n 0, .null, 0, 0), (.getfield 12, .null, 11, 0), (.getfield 105, .null, 8, 1)] [] (by decide +kernel) rfl trivial ?_
    refine xr_ic_le (tgt := 17) (off := 5) (by decide +kernel) (by decide) (fun hc => ?_) (fun hc => ?_)
    · replace h := h.1 hc
      refine xr_blk (lv1 := [(0, .ref 0), (1, .int x1)]) (st1 := [.int (nI 1)]) (S1 := rt (v_I v 1 1 x1)) (pc1 := 26) [(.aload_n 0, .null, 0, 0), (.getfield 12, .null, 11, 0), (.iload_n 1, .null, 0, 0), (.putfield 105, .null, 8, 1), (.iconst 1, .int (nI 1), 0, 0)] [] (by decide +kernel) rfl trivial ?_
      exact xr_zret (by decide +kernel) rfl x_in2_1 ⟨_, _, rfl, rfl, h⟩
    · replace h := h.2 hc
      refine xr_blk (lv1 := [(0, .ref 0), (1, .int x1)]) (st1 := [.int (nI 0)]) (S1 := rt v) (pc1 := 16) [(.iconst 0, .int (nI 0), 0, 0)] [] (by decide +kernel) rfl trivial ?_
      exact xr_zret (by decide +kernel) rfl x_in2_0 ⟨_, _, rfl, rfl, h⟩
theorem ok_114 : x_mOK 114 := ⟨x_tm3 (List.mem_of_getElem? (i := 64) rfl) rfl, 101, by decide +kernel⟩
/-! X11_next: method 115, ScrawlHouse.next(I)I -/
set_option maxRecDepth 100000 in
theorem w_X11_next_0 {E : Nat × (Nat → Int32)} {d : Nat} {v : xV} {x1 : Int32} {Q : Int32 → xV → Prop} (h : ((x1 < (nI 0) → Q (-1 : Int32) v) ∧ (¬ x1 < (nI 0) → (((nI 999) < x1 → Q (-1 : Int32) v) ∧ (¬ (nI 999) < x1 → ((((gI v 0 13) + x1) ≤ (nI 999) → Q ((gI v 0 13) + x1) (v_I v 0 13 ((gI v 0 13) + x1))) ∧ (¬ ((gI v 0 13) + x1) ≤ (nI 999) → Q (-1 : Int32) v))))))) : RI E d 115 0 [(0, .ref 0), (1, .int x1)] v Q := by
  unfold RI
  refine xr_blk (lv1 := [(0, .ref 0), (1, .int x1)]) (st1 := [.int x1]) (S1 := rt v) (pc1 := 1) [(.iload_n 1, .null, 0, 0)] [] (by decide +kernel) rfl trivial ?_
  refine xr_if_lt (tgt := 23) (off := 22) (by decide +kernel) (by decide) (fun hc => ?_) (fun hc => ?_)
  · replace h := h.1 hc
    refine xr_blk (lv1 := [(0, .ref 0), (1, .int x1)]) (st1 := [.int (-1)]) (S1 := rt v) (pc1 := 24) [(.iconst (-1), .int (-1), 0, 0)] [] (by decide +kernel) rfl trivial ?_
    exact xr_iret (by decide +kernel) rfl ⟨_, _, rfl, rfl, h⟩
  · replace h := h.2 hc
    refine xr_blk (lv1 := [(0, .ref 0), (1, .int x1)]) (st1 := [.int (nI 999), .int x1]) (S1 := rt v) (pc1 := 8) [(.iload_n 1, .null, 0, 0), (.sipush 999, .int (nI 999), 0, 0)] [] (by decide +kernel) rfl trivial ?_
    refine xr_ic_gt (tgt := 23) (off := 15) (by decide +kernel) (by decide) (fun hc => ?_) (fun hc => ?_)
    · replace h := h.1 hc
      refine xr_blk (lv1 := [(0, .ref 0), (1, .int x1)]) (st1 := [.int (-1)]) (S1 := rt v) (pc1 := 24) [(.iconst (-1), .int (-1), 0, 0)] [] (by decide +kernel) rfl trivial ?_
      exact xr_iret (by decide +kernel) rfl ⟨_, _, rfl, rfl, h⟩
    · replace h := h.2 hc
      refine xr_blk (lv1 := [(0, .ref 0), (1, .int x1)]) (st1 := [.int (nI 999), .int ((gI v 0 13) + x1)]) (S1 := rt v) (pc1 := 20) [(.aload_n 0, .null, 0, 0), (.getfield 102, .null, 11, 13), (.iload_n 1, .null, 0, 0), (.iadd, .null, 0, 0), (.sipush 999, .int (nI 999), 0, 0)] [] (by decide +kernel) rfl trivial ?_
      refine xr_ic_le (tgt := 25) (off := 5) (by decide +kernel) (by decide) (fun hc => ?_) (fun hc => ?_)
      · replace h := h.1 hc
        refine xr_blk (lv1 := [(0, .ref 0), (1, .int x1)]) (st1 := [.int ((gI v 0 13) + x1)]) (S1 := rt (v_I v 0 13 ((gI v 0 13) + x1))) (pc1 := 39) [(.aload_n 0, .null, 0, 0), (.dup, .null, 0, 0), (.getfield 102, .null, 11, 13), (.iload_n 1, .null, 0, 0), (.iadd, .null, 0, 0), (.putfield 102, .null, 11, 13), (.aload_n 0, .null, 0, 0), (.getfield 102, .null, 11, 13)] [] (by decide +kernel) rfl trivial ?_
        exact xr_iret (by decide +kernel) rfl ⟨_, _, rfl, rfl, h⟩
      · replace h := h.2 hc
        refine xr_blk (lv1 := [(0, .ref 0), (1, .int x1)]) (st1 := [.int (-1)]) (S1 := rt v) (pc1 := 24) [(.iconst (-1), .int (-1), 0, 0)] [] (by decide +kernel) rfl trivial ?_
        exact xr_iret (by decide +kernel) rfl ⟨_, _, rfl, rfl, h⟩
theorem ok_115 : x_mOK 115 := ⟨x_tm3 (List.mem_of_getElem? (i := 68) rfl) rfl, 101, by decide +kernel⟩
/-! X11_form: method 116, ScrawlHouse.form(II)I -/
set_option maxRecDepth 100000 in
theorem w_X11_form_0 {E : Nat × (Nat → Int32)} {d : Nat} {v : xV} {x1 : Int32} {x2 : Int32} {Q : Int32 → xV → Prop} (h : KI E d 25 [.ref 3, .int x1, .int x2] v (fun y2 v1 => ((y2 = (-1 : Int32) → Q y2 v1) ∧ (¬ y2 = (-1 : Int32) → KV E d 72 [.ref 38] v1 (fun v3 => Q y2 v3))))) : RI E (d + 1) 116 0 [(0, .ref 0), (1, .int x1), (2, .int x2)] v Q := by
  unfold RI
  refine xr_blk (lv1 := [(0, .ref 0), (1, .int x1), (2, .int x2)]) (st1 := [.int x2, .int x1, .ref 3]) (S1 := rt v) (pc1 := 6) [(.aload_n 0, .null, 0, 0), (.getfield 19, .null, 11, 1), (.iload_n 1, .null, 0, 0), (.iload_n 2, .null, 0, 0)] [] (by decide +kernel) rfl trivial ?_
  refine xk_VI (As := [.int x1, .int x2]) (bb := 3) (rest := []) (idx := 112) (i0 := 112) (m1 := 25) (ps := [653, 654, 655]) (by decide +kernel) (by decide +kernel) (by decide) rfl ((gK_s (by decide)).trans (by decide +kernel)) (by decide) (Nat.le_of_ble_eq_true rfl) rfl h (fun y2 v1 h => ?_)
  refine xr_blk (lv1 := [(3, .int y2), (0, .ref 0), (1, .int x1), (2, .int x2)]) (st1 := [.int (-1), .int y2]) (S1 := rt v1) (pc1 := 12) [(.istore_n 3, .null, 0, 0), (.iload_n 3, .null, 0, 0), (.iconst (-1), .int (-1), 0, 0)] [] (by decide +kernel) rfl trivial ?_
  refine xr_ic_eq (tgt := 22) (off := 10) (by decide +kernel) (by decide) (fun hc => ?_) (fun hc => ?_)
  · replace h := h.1 hc
    refine xr_blk (lv1 := [(3, .int y2), (0, .ref 0), (1, .int x1), (2, .int x2)]) (st1 := [.int y2]) (S1 := rt v1) (pc1 := 23) [(.iload_n 3, .null, 0, 0)] [] (by decide +kernel) rfl trivial ?_
    exact xr_iret (by decide +kernel) rfl ⟨_, _, rfl, rfl, h⟩
  · replace h := h.2 hc
    refine xr_blk (lv1 := [(3, .int y2), (0, .ref 0), (1, .int x1), (2, .int x2)]) (st1 := [.ref 38]) (S1 := rt v1) (pc1 := 19) [(.aload_n 0, .null, 0, 0), (.getfield 56, .null, 11, 6)] [] (by decide +kernel) rfl trivial ?_
    refine xk_VV (As := []) (bb := 38) (rest := []) (idx := 116) (i0 := 116) (m1 := 72) (ps := [660, 661, 662]) (by decide +kernel) (by decide +kernel) (by decide) rfl ((gK_s (by decide)).trans (by decide +kernel)) (by decide) (Nat.le_of_ble_eq_true rfl) rfl h (fun v3 h => ?_)
    refine xr_blk (lv1 := [(3, .int y2), (0, .ref 0), (1, .int x1), (2, .int x2)]) (st1 := [.int y2]) (S1 := rt v3) (pc1 := 23) [(.iload_n 3, .null, 0, 0)] [] (by decide +kernel) rfl trivial ?_
    exact xr_iret (by decide +kernel) rfl ⟨_, _, rfl, rfl, h⟩
theorem ok_116 : x_mOK 116 := ⟨x_tm3 (List.mem_of_getElem? (i := 72) rfl) rfl, 101, by decide +kernel⟩
/-! X11_word: method 117, ScrawlHouse.word(I)I -/
set_option maxRecDepth 100000 in
theorem w_X11_word_0 {E : Nat × (Nat → Int32)} {d : Nat} {v : xV} {x1 : Int32} {Q : Int32 → xV → Prop} (h : KI E d 26 [.ref 3, .ref 1, .int x1] v (fun y2 v1 => ((y2 = (-1 : Int32) → Q y2 (v_I v1 1 1 (nI 0))) ∧ (¬ y2 = (-1 : Int32) → KV E d 72 [.ref 38] (v_I v1 1 1 (nI 0)) (fun v3 => Q y2 v3))))) : RI E (d + 1) 117 0 [(0, .ref 0), (1, .int x1)] v Q := by
  unfold RI
  refine xr_blk (lv1 := [(0, .ref 0), (1, .int x1)]) (st1 := [.int x1, .ref 1, .ref 3]) (S1 := rt v) (pc1 := 9) [(.aload_n 0, .null, 0, 0), (.getfield 19, .null, 11, 1), (.aload_n 0, .null, 0, 0), (.getfield 12, .null, 11, 0), (.iload_n 1, .null, 0, 0)] [] (by decide +kernel) rfl trivial ?_
  refine xk_VI (As := [.ref 1, .int x1]) (bb := 3) (rest := []) (idx := 119) (i0 := 119) (m1 := 26) (ps := [668, 669, 670]) (by decide +kernel) (by decide +kernel) (by decide) rfl ((gK_s (by decide)).trans (by decide +kernel)) (by decide) (Nat.le_of_ble_eq_true rfl) rfl h (fun y2 v1 h => ?_)
  refine xr_blk (lv1 := [(2, .int y2), (0, .ref 0), (1, .int x1)]) (st1 := [.int (-1), .int y2]) (S1 := rt (v_I v1 1 1 (nI 0))) (pc1 := 23) [(.istore_n 2, .null, 0, 0), (.aload_n 0, .null, 0, 0), (.getfield 12, .null, 11, 0), (.iconst 0, .int (nI 0), 0, 0), (.putfield 105, .null, 8, 1), (.iload_n 2, .null, 0, 0), (.iconst (-1), .int (-1), 0, 0)] [] (by decide +kernel) rfl trivial ?_
  refine xr_ic_eq (tgt := 33) (off := 10) (by decide +kernel) (by decide) (fun hc => ?_) (fun hc => ?_)
  · replace h := h.1 hc
    refine xr_blk (lv1 := [(2, .int y2), (0, .ref 0), (1, .int x1)]) (st1 := [.int y2]) (S1 := rt (v_I v1 1 1 (nI 0))) (pc1 := 34) [(.iload_n 2, .null, 0, 0)] [] (by decide +kernel) rfl trivial ?_
    exact xr_iret (by decide +kernel) rfl ⟨_, _, rfl, rfl, h⟩
  · replace h := h.2 hc
    refine xr_blk (lv1 := [(2, .int y2), (0, .ref 0), (1, .int x1)]) (st1 := [.ref 38]) (S1 := rt (v_I v1 1 1 (nI 0))) (pc1 := 30) [(.aload_n 0, .null, 0, 0), (.getfield 56, .null, 11, 6)] [] (by decide +kernel) rfl trivial ?_
    refine xk_VV (As := []) (bb := 38) (rest := []) (idx := 116) (i0 := 116) (m1 := 72) (ps := [660, 661, 662]) (by decide +kernel) (by decide +kernel) (by decide) rfl ((gK_s (by decide)).trans (by decide +kernel)) (by decide) (Nat.le_of_ble_eq_true rfl) rfl h (fun v3 h => ?_)
    refine xr_blk (lv1 := [(2, .int y2), (0, .ref 0), (1, .int x1)]) (st1 := [.int y2]) (S1 := rt v3) (pc1 := 34) [(.iload_n 2, .null, 0, 0)] [] (by decide +kernel) rfl trivial ?_
    exact xr_iret (by decide +kernel) rfl ⟨_, _, rfl, rfl, h⟩
theorem ok_117 : x_mOK 117 := ⟨x_tm3 (List.mem_of_getElem? (i := 87) rfl) rfl, 101, by decide +kernel⟩
/-! X11_street: method 118, ScrawlHouse.street(III)Z -/
set_option maxRecDepth 100000 in
theorem w_X11_street_0 {E : Nat × (Nat → Int32)} {d : Nat} {v : xV} {x1 : Int32} {x2 : Int32} {x3 : Int32} {Q : Int32 → xV → Prop} (h : KI E d 80 [.ref 11, .int x1, .int x2, .int x3] v (fun y2 v1 => vp_in y2 2 ∧ Q y2 v1)) : RI E (d + 1) 118 0 [(0, .ref 0), (1, .int x1), (2, .int x2), (3, .int x3)] v Q := by
  unfold RI
  refine xr_blk (lv1 := [(0, .ref 0), (1, .int x1), (2, .int x2), (3, .int x3)]) (st1 := [.int x3, .int x2, .int x1, .ref 11]) (S1 := rt v) (pc1 := 7) [(.aload_n 0, .null, 0, 0), (.getfield 26, .null, 11, 2), (.iload_n 1, .null, 0, 0), (.iload_n 2, .null, 0, 0), (.iload_n 3, .null, 0, 0)] [] (by decide +kernel) rfl trivial ?_
  refine xk_VI (As := [.int x1, .int x2, .int x3]) (bb := 11) (rest := []) (idx := 123) (i0 := 123) (m1 := 80) (ps := [691, 692, 693]) (by decide +kernel) (by decide +kernel) (by decide) rfl ((gK_s (by decide)).trans (by decide +kernel)) (by decide) (Nat.le_of_ble_eq_true rfl) rfl h (fun y2 v1 h => ?_)
  obtain ⟨hz, h⟩ := h
  exact xr_zret (by decide +kernel) rfl hz ⟨_, _, rfl, rfl, h⟩
theorem ok_118 : x_mOK 118 := ⟨x_tm3 (List.mem_of_getElem? (i := 110) rfl) rfl, 101, by decide +kernel⟩
/-! X11_wall: method 119, ScrawlHouse.wall(II)I -/
set_option maxRecDepth 100000 in
theorem w_X11_wall_0 {E : Nat × (Nat → Int32)} {d : Nat} {v : xV} {x1 : Int32} {x2 : Int32} {Q : Int32 → xV → Prop} (h : KI E d 82 [.ref 11, .int x1, .int x2] v (fun y2 v1 => Q y2 v1)) : RI E (d + 1) 119 0 [(0, .ref 0), (1, .int x1), (2, .int x2)] v Q := by
  unfold RI
  refine xr_blk (lv1 := [(0, .ref 0), (1, .int x1), (2, .int x2)]) (st1 := [.int x2, .int x1, .ref 11]) (S1 := rt v) (pc1 := 6) [(.aload_n 0, .null, 0, 0), (.getfield 26, .null, 11, 2), (.iload_n 1, .null, 0, 0), (.iload_n 2, .null, 0, 0)] [] (by decide +kernel) rfl trivial ?_
  refine xk_VI (As := [.int x1, .int x2]) (bb := 11) (rest := []) (idx := 127) (i0 := 127) (m1 := 82) (ps := [709, 710, 711]) (by decide +kernel) (by decide +kernel) (by decide) rfl ((gK_s (by decide)).trans (by decide +kernel)) (by decide) (Nat.le_of_ble_eq_true rfl) rfl h (fun y2 v1 h => ?_)
  exact xr_iret (by decide +kernel) rfl ⟨_, _, rfl, rfl, h⟩
theorem ok_119 : x_mOK 119 := ⟨x_tm3 (List.mem_of_getElem? (i := 128) rfl) rfl, 101, by decide +kernel⟩
/-! X11_habit: method 120, ScrawlHouse.habit(III)I -/
set_option maxRecDepth 100000 in
theorem w_X11_habit_0 {E : Nat × (Nat → Int32)} {d : Nat} {v : xV} {x1 : Int32} {x2 : Int32} {x3 : Int32} {Q : Int32 → xV → Prop} (h : KI E d 29 [.ref 3, .int x1, .int x2, .int x3] v (fun y2 v1 => ((y2 = (-1 : Int32) → Q y2 v1) ∧ (¬ y2 = (-1 : Int32) → KV E d 72 [.ref 38] v1 (fun v3 => Q y2 v3))))) : RI E (d + 1) 120 0 [(0, .ref 0), (1, .int x1), (2, .int x2), (3, .int x3)] v Q := by
  unfold RI
  refine xr_blk (lv1 := [(0, .ref 0), (1, .int x1), (2, .int x2), (3, .int x3)]) (st1 := [.int x3, .int x2, .int x1, .ref 3]) (S1 := rt v) (pc1 := 7) [(.aload_n 0, .null, 0, 0), (.getfield 19, .null, 11, 1), (.iload_n 1, .null, 0, 0), (.iload_n 2, .null, 0, 0), (.iload_n 3, .null, 0, 0)] [] (by decide +kernel) rfl trivial ?_
  refine xk_VI (As := [.int x1, .int x2, .int x3]) (bb := 3) (rest := []) (idx := 130) (i0 := 130) (m1 := 29) (ps := [717, 718, 719]) (by decide +kernel) (by decide +kernel) (by decide) rfl ((gK_s (by decide)).trans (by decide +kernel)) (by decide) (Nat.le_of_ble_eq_true rfl) rfl h (fun y2 v1 h => ?_)
  refine xr_blk (lv1 := [(4, .int y2), (0, .ref 0), (1, .int x1), (2, .int x2), (3, .int x3)]) (st1 := [.int (-1), .int y2]) (S1 := rt v1) (pc1 := 15) [(.istore 4, .null, 0, 0), (.iload 4, .null, 0, 0), (.iconst (-1), .int (-1), 0, 0)] [] (by decide +kernel) rfl trivial ?_
  refine xr_ic_eq (tgt := 25) (off := 10) (by decide +kernel) (by decide) (fun hc => ?_) (fun hc => ?_)
  · replace h := h.1 hc
    refine xr_blk (lv1 := [(4, .int y2), (0, .ref 0), (1, .int x1), (2, .int x2), (3, .int x3)]) (st1 := [.int y2]) (S1 := rt v1) (pc1 := 27) [(.iload 4, .null, 0, 0)] [] (by decide +kernel) rfl trivial ?_
    exact xr_iret (by decide +kernel) rfl ⟨_, _, rfl, rfl, h⟩
  · replace h := h.2 hc
    refine xr_blk (lv1 := [(4, .int y2), (0, .ref 0), (1, .int x1), (2, .int x2), (3, .int x3)]) (st1 := [.ref 38]) (S1 := rt v1) (pc1 := 22) [(.aload_n 0, .null, 0, 0), (.getfield 56, .null, 11, 6)] [] (by decide +kernel) rfl trivial ?_
    refine xk_VV (As := []) (bb := 38) (rest := []) (idx := 116) (i0 := 116) (m1 := 72) (ps := [660, 661, 662]) (by decide +kernel) (by decide +kernel) (by decide) rfl ((gK_s (by decide)).trans (by decide +kernel)) (by decide) (Nat.le_of_ble_eq_true rfl) rfl h (fun v3 h => ?_)
    refine xr_blk (lv1 := [(4, .int y2), (0, .ref 0), (1, .int x1), (2, .int x2), (3, .int x3)]) (st1 := [.int y2]) (S1 := rt v3) (pc1 := 27) [(.iload 4, .null, 0, 0)] [] (by decide +kernel) rfl trivial ?_
    exact xr_iret (by decide +kernel) rfl ⟨_, _, rfl, rfl, h⟩
theorem ok_120 : x_mOK 120 := ⟨x_tm3 (List.mem_of_getElem? (i := 136) rfl) rfl, 101, by decide +kernel⟩
/-! X11_patterns: method 121, ScrawlHouse.patterns()I -/
set_option maxRecDepth 100000 in
theorem w_X11_patterns_0 {E : Nat × (Nat → Int32)} {d : Nat} {v : xV} {Q : Int32 → xV → Prop} (h : KI E d 41 [.ref 17] v (fun y2 v1 => ((¬ y2 = (nI 0) → KV E d 33 [.ref 21, .ref 17] (v_I v1 1 1 (nI 0)) (fun v3 => KV E d 72 [.ref 38] v3 (fun v4 => Q (gI v4 21 4) v4))) ∧ (y2 = (nI 0) → Q ((-1 : Int32) - (gI v1 17 6)) (v_I v1 1 1 (nI 0)))))) : RI E (d + 1) 121 0 [(0, .ref 0)] v Q := by
  unfold RI
  refine xr_blk (lv1 := [(0, .ref 0)]) (st1 := [.ref 17]) (S1 := rt v) (pc1 := 4) [(.aload_n 0, .null, 0, 0), (.getfield 35, .null, 11, 3)] [] (by decide +kernel) rfl trivial ?_
  refine xk_VI (As := []) (bb := 17) (rest := []) (idx := 134) (i0 := 134) (m1 := 41) (ps := [729, 730, 731]) (by decide +kernel) (by decide +kernel) (by decide) rfl ((gK_s (by decide)).trans (by decide +kernel)) (by decide) (Nat.le_of_ble_eq_true rfl) rfl h (fun y2 v1 h => ?_)
  refine xr_blk (lv1 := [(1, .int y2), (0, .ref 0)]) (st1 := [.int y2]) (S1 := rt (v_I v1 1 1 (nI 0))) (pc1 := 17) [(.istore_n 1, .null, 0, 0), (.aload_n 0, .null, 0, 0), (.getfield 12, .null, 11, 0), (.iconst 0, .int (nI 0), 0, 0), (.putfield 105, .null, 8, 1), (.iload_n 1, .null, 0, 0)] [] (by decide +kernel) rfl trivial ?_
  refine xr_if_ne (tgt := 30) (off := 13) (by decide +kernel) (by decide) (fun hc => ?_) (fun hc => ?_)
  · replace h := h.1 hc
    refine xr_blk (lv1 := [(1, .int y2), (0, .ref 0)]) (st1 := [.ref 17, .ref 21]) (S1 := rt (v_I v1 1 1 (nI 0))) (pc1 := 38) [(.aload_n 0, .null, 0, 0), (.getfield 42, .null, 11, 4), (.aload_n 0, .null, 0, 0), (.getfield 35, .null, 11, 3)] [] (by decide +kernel) rfl trivial ?_
    refine xk_VV (As := [.ref 17]) (bb := 21) (rest := []) (idx := 141) (i0 := 141) (m1 := 33) (ps := [823, 824, 825]) (by decide +kernel) (by decide +kernel) (by decide) rfl ((gK_s (by decide)).trans (by decide +kernel)) (by decide) (Nat.le_of_ble_eq_true rfl) rfl h (fun v3 h => ?_)
    refine xr_blk (lv1 := [(1, .int y2), (0, .ref 0)]) (st1 := [.ref 38]) (S1 := rt v3) (pc1 := 45) [(.aload_n 0, .null, 0, 0), (.getfield 56, .null, 11, 6)] [] (by decide +kernel) rfl trivial ?_
    refine xk_VV (As := []) (bb := 38) (rest := []) (idx := 116) (i0 := 116) (m1 := 72) (ps := [660, 661, 662]) (by decide +kernel) (by decide +kernel) (by decide) rfl ((gK_s (by decide)).trans (by decide +kernel)) (by decide) (Nat.le_of_ble_eq_true rfl) rfl h (fun v4 h => ?_)
    refine xr_blk (lv1 := [(1, .int y2), (0, .ref 0)]) (st1 := [.int (gI v4 21 4)]) (S1 := rt v4) (pc1 := 55) [(.aload_n 0, .null, 0, 0), (.getfield 42, .null, 11, 4), (.getfield 145, .null, 4, 4)] [] (by decide +kernel) rfl trivial ?_
    exact xr_iret (by decide +kernel) rfl ⟨_, _, rfl, rfl, h⟩
  · replace h := h.2 hc
    refine xr_blk (lv1 := [(1, .int y2), (0, .ref 0)]) (st1 := [.int ((-1 : Int32) - (gI v1 17 6))]) (S1 := rt (v_I v1 1 1 (nI 0))) (pc1 := 29) [(.iconst (-1), .int (-1), 0, 0), (.aload_n 0, .null, 0, 0), (.getfield 35, .null, 11, 3), (.getfield 138, .null, 5, 6), (.isub, .null, 0, 0)] [] (by decide +kernel) rfl trivial ?_
    exact xr_iret (by decide +kernel) rfl ⟨_, _, rfl, rfl, h⟩
theorem ok_121 : x_mOK 121 := ⟨x_tm3 (List.mem_of_getElem? (i := 148) rfl) rfl, 101, by decide +kernel⟩
/-! X11_fault: method 122, ScrawlHouse.fault()I -/
set_option maxRecDepth 100000 in
theorem w_X11_fault_0 {E : Nat × (Nat → Int32)} {d : Nat} {v : xV} {Q : Int32 → xV → Prop} (h : Q (gI v 17 5) v) : RI E d 122 0 [(0, .ref 0)] v Q := by
  unfold RI
  refine xr_blk (lv1 := [(0, .ref 0)]) (st1 := [.int (gI v 17 5)]) (S1 := rt v) (pc1 := 7) [(.aload_n 0, .null, 0, 0), (.getfield 35, .null, 11, 3), (.getfield 148, .null, 5, 5)] [] (by decide +kernel) rfl trivial ?_
  exact xr_iret (by decide +kernel) rfl ⟨_, _, rfl, rfl, h⟩
theorem ok_122 : x_mOK 122 := ⟨x_tm4 (List.mem_of_getElem? (i := 29) rfl) rfl, 101, by decide +kernel⟩
/-! X11_scrawl: method 123, ScrawlHouse.scrawl(III)I -/
set_option maxRecDepth 100000 in
theorem w_X11_scrawl_0 {E : Nat × (Nat → Int32)} {d : Nat} {v : xV} {x1 : Int32} {x2 : Int32} {x3 : Int32} {Q : Int32 → xV → Prop} (h : KI E d 83 [.ref 11, .int x1, .int x2] v (fun y2 v1 => ((¬ y2 = (nI 0) → KI E d 4 [.ref 25, .int x1, .int x2, .int x3, .int (gI v1 0 13)] v1 (fun y4 v3 => Q y4 v3)) ∧ (y2 = (nI 0) → Q (-1 : Int32) v1)))) : RI E (d + 1) 123 0 [(0, .ref 0), (1, .int x1), (2, .int x2), (3, .int x3)] v Q := by
  unfold RI
  refine xr_blk (lv1 := [(0, .ref 0), (1, .int x1), (2, .int x2), (3, .int x3)]) (st1 := [.int x2, .int x1, .ref 11]) (S1 := rt v) (pc1 := 6) [(.aload_n 0, .null, 0, 0), (.getfield 26, .null, 11, 2), (.iload_n 1, .null, 0, 0), (.iload_n 2, .null, 0, 0)] [] (by decide +kernel) rfl trivial ?_
  refine xk_VI (As := [.int x1, .int x2]) (bb := 11) (rest := []) (idx := 151) (i0 := 151) (m1 := 83) (ps := [854, 855, 856]) (by decide +kernel) (by decide +kernel) (by decide) rfl ((gK_s (by decide)).trans (by decide +kernel)) (by decide) (Nat.le_of_ble_eq_true rfl) rfl h (fun y2 v1 h => ?_)
  refine xr_if_ne (tgt := 14) (off := 5) (by decide +kernel) (by decide) (fun hc => ?_) (fun hc => ?_)
  · replace h := h.1 hc
    refine xr_blk (lv1 := [(0, .ref 0), (1, .int x1), (2, .int x2), (3, .int x3)]) (st1 := [.int (gI v1 0 13), .int x3, .int x2, .int x1, .ref 25]) (S1 := rt v1) (pc1 := 25) [(.aload_n 0, .null, 0, 0), (.getfield 49, .null, 11, 5), (.iload_n 1, .null, 0, 0), (.iload_n 2, .null, 0, 0), (.iload_n 3, .null, 0, 0), (.aload_n 0, .null, 0, 0), (.getfield 102, .null, 11, 13)] [] (by decide +kernel) rfl trivial ?_
    refine xk_VI (As := [.int x1, .int x2, .int x3, .int (gI v1 0 13)]) (bb := 25) (rest := []) (idx := 155) (i0 := 155) (m1 := 4) (ps := [858, 859, 860]) (by decide +kernel) (by decide +kernel) (by decide) rfl ((gK_s (by decide)).trans (by decide +kernel)) (by decide) (Nat.le_of_ble_eq_true rfl) rfl h (fun y4 v3 h => ?_)
    exact xr_iret (by decide +kernel) rfl ⟨_, _, rfl, rfl, h⟩
  · replace h := h.2 hc
    refine xr_blk (lv1 := [(0, .ref 0), (1, .int x1), (2, .int x2), (3, .int x3)]) (st1 := [.int (-1)]) (S1 := rt v1) (pc1 := 13) [(.iconst (-1), .int (-1), 0, 0)] [] (by decide +kernel) rfl trivial ?_
    exact xr_iret (by decide +kernel) rfl ⟨_, _, rfl, rfl, h⟩
theorem ok_123 : x_mOK 123 := ⟨x_tm4 (List.mem_of_getElem? (i := 33) rfl) rfl, 101, by decide +kernel⟩
/-! X11_photo: method 124, ScrawlHouse.photo(I)Z -/
set_option maxRecDepth 100000 in
theorem w_X11_photo_0 {E : Nat × (Nat → Int32)} {d : Nat} {v : xV} {x1 : Int32} {Q : Int32 → xV → Prop} (h : KI E d 5 [.ref 25, .int x1, .ref 1, .int (gI v 0 13)] v (fun y2 v1 => vp_in y2 2 ∧ Q y2 (v_I v1 1 1 (nI 0)))) : RI E (d + 1) 124 0 [(0, .ref 0), (1, .int x1)] v Q := by
  unfold RI
  refine xr_blk (lv1 := [(0, .ref 0), (1, .int x1)]) (st1 := [.int (gI v 0 13), .ref 1, .int x1, .ref 25]) (S1 := rt v) (pc1 := 13) [(.aload_n 0, .null, 0, 0), (.getfield 49, .null, 11, 5), (.iload_n 1, .null, 0, 0), (.aload_n 0, .null, 0, 0), (.getfield 12, .null, 11, 0), (.aload_n 0, .null, 0, 0), (.getfield 102, .null, 11, 13)] [] (by decide +kernel) rfl trivial ?_
  refine xk_VI (As := [.int x1, .ref 1, .int (gI v 0 13)]) (bb := 25) (rest := []) (idx := 159) (i0 := 159) (m1 := 5) (ps := [866, 867, 868]) (by decide +kernel) (by decide +kernel) (by decide) rfl ((gK_s (by decide)).trans (by decide +kernel)) (by decide) (Nat.le_of_ble_eq_true rfl) rfl h (fun y2 v1 h => ?_)
  refine xr_blk (lv1 := [(2, .int y2), (0, .ref 0), (1, .int x1)]) (st1 := [.int y2]) (S1 := rt (v_I v1 1 1 (nI 0))) (pc1 := 26) [(.istore_n 2, .null, 0, 0), (.aload_n 0, .null, 0, 0), (.getfield 12, .null, 11, 0), (.iconst 0, .int (nI 0), 0, 0), (.putfield 105, .null, 8, 1), (.iload_n 2, .null, 0, 0)] [] (by decide +kernel) rfl trivial ?_
  obtain ⟨hz, h⟩ := h
  exact xr_zret (by decide +kernel) rfl hz ⟨_, _, rfl, rfl, h⟩
theorem ok_124 : x_mOK 124 := ⟨x_tm4 (List.mem_of_getElem? (i := 45) rfl) rfl, 101, by decide +kernel⟩
/-! X11_drawing: method 125, ScrawlHouse.drawing(II)Z -/
set_option maxRecDepth 100000 in
theorem w_X11_drawing_0 {E : Nat × (Nat → Int32)} {d : Nat} {v : xV} {x1 : Int32} {x2 : Int32} {Q : Int32 → xV → Prop} (h : KI E d 6 [.ref 25, .int x1, .int x2, .ref 1, .int (gI v 0 13)] v (fun y2 v1 => vp_in y2 2 ∧ Q y2 (v_I v1 1 1 (nI 0)))) : RI E (d + 1) 125 0 [(0, .ref 0), (1, .int x1), (2, .int x2)] v Q := by
  unfold RI
  refine xr_blk (lv1 := [(0, .ref 0), (1, .int x1), (2, .int x2)]) (st1 := [.int (gI v 0 13), .ref 1, .int x2, .int x1, .ref 25]) (S1 := rt v) (pc1 := 14) [(.aload_n 0, .null, 0, 0), (.getfield 49, .null, 11, 5), (.iload_n 1, .null, 0, 0), (.iload_n 2, .null, 0, 0), (.aload_n 0, .null, 0, 0), (.getfield 12, .null, 11, 0), (.aload_n 0, .null, 0, 0), (.getfield 102, .null, 11, 13)] [] (by decide +kernel) rfl trivial ?_
  refine xk_VI (As := [.int x1, .int x2, .ref 1, .int (gI v 0 13)]) (bb := 25) (rest := []) (idx := 163) (i0 := 163) (m1 := 6) (ps := [879, 880, 881]) (by decide +kernel) (by decide +kernel) (by decide) rfl ((gK_s (by decide)).trans (by decide +kernel)) (by decide) (Nat.le_of_ble_eq_true rfl) rfl h (fun y2 v1 h => ?_)
  refine xr_blk (lv1 := [(3, .int y2), (0, .ref 0), (1, .int x1), (2, .int x2)]) (st1 := [.int y2]) (S1 := rt (v_I v1 1 1 (nI 0))) (pc1 := 27) [(.istore_n 3, .null, 0, 0), (.aload_n 0, .null, 0, 0), (.getfield 12, .null, 11, 0), (.iconst 0, .int (nI 0), 0, 0), (.putfield 105, .null, 8, 1), (.iload_n 3, .null, 0, 0)] [] (by decide +kernel) rfl trivial ?_
  obtain ⟨hz, h⟩ := h
  exact xr_zret (by decide +kernel) rfl hz ⟨_, _, rfl, rfl, h⟩
theorem ok_125 : x_mOK 125 := ⟨x_tm4 (List.mem_of_getElem? (i := 58) rfl) rfl, 101, by decide +kernel⟩
/-! X11_cost: method 126, ScrawlHouse.cost(IIII)I -/
set_option maxRecDepth 100000 in
theorem w_X11_cost_0 {E : Nat × (Nat → Int32)} {d : Nat} {v : xV} {x1 : Int32} {x2 : Int32} {x3 : Int32} {x4 : Int32} {Q : Int32 → xV → Prop} (h : KI E d 8 [.ref 25, .int x1, .int x4] v (fun y2 v1 => ((y2 = (nI 0) → Q (-2 : Int32) v1) ∧ (¬ y2 = (nI 0) → ((x2 < (nI 0) → Q (-2 : Int32) v1) ∧ (¬ x2 < (nI 0) → vp_in x1 20 ∧ ((((gA v1 28) (x1).toNatClampNeg) ≤ x2 → Q (-2 : Int32) v1) ∧ (¬ ((gA v1 28) (x1).toNatClampNeg) ≤ x2 → KI E d 143 [.int x3] v1 (fun y5 v4 => ((¬ y5 = (nI 0) → KV E d 54 [.ref 49, .int x1, .int x4] v4 (fun v6 => KI E d 57 [.ref 49, .int x2, .int x3] v6 (fun y8 v7 => Q y8 v7))) ∧ (y5 = (nI 0) → Q (-2 : Int32) v4))))))))))) : RI E (d + 1) 126 0 [(0, .ref 0), (1, .int x1), (2, .int x2), (3, .int x3), (4, .int x4)] v Q := by
  unfold RI
  refine xr_blk (lv1 := [(0, .ref 0), (1, .int x1), (2, .int x2), (3, .int x3), (4, .int x4)]) (st1 := [.int x4, .int x1, .ref 25]) (S1 := rt v) (pc1 := 7) [(.aload_n 0, .null, 0, 0), (.getfield 49, .null, 11, 5), (.iload_n 1, .null, 0, 0), (.iload 4, .null, 0, 0)] [] (by decide +kernel) rfl trivial ?_
  refine xk_VI (As := [.int x1, .int x4]) (bb := 25) (rest := []) (idx := 167) (i0 := 167) (m1 := 8) (ps := [888, 889, 890]) (by decide +kernel) (by decide +kernel) (by decide) rfl ((gK_s (by decide)).trans (by decide +kernel)) (by decide) (Nat.le_of_ble_eq_true rfl) rfl h (fun y2 v1 h => ?_)
  refine xr_if_eq (tgt := 37) (off := 27) (by decide +kernel) (by decide) (fun hc => ?_) (fun hc => ?_)
  · replace h := h.1 hc
    refine xr_blk (lv1 := [(0, .ref 0), (1, .int x1), (2, .int x2), (3, .int x3), (4, .int x4)]) (st1 := [.int (-2)]) (S1 := rt v1) (pc1 := 39) [(.bipush (-2), .int (-2), 0, 0)] [] (by decide +kernel) rfl trivial ?_
    exact xr_iret (by decide +kernel) rfl ⟨_, _, rfl, rfl, h⟩
  · replace h := h.2 hc
    refine xr_blk (lv1 := [(0, .ref 0), (1, .int x1), (2, .int x2), (3, .int x3), (4, .int x4)]) (st1 := [.int x2]) (S1 := rt v1) (pc1 := 14) [(.iload_n 2, .null, 0, 0)] [] (by decide +kernel) rfl trivial ?_
    refine xr_if_lt (tgt := 37) (off := 23) (by decide +kernel) (by decide) (fun hc => ?_) (fun hc => ?_)
    · replace h := h.1 hc
      refine xr_blk (lv1 := [(0, .ref 0), (1, .int x1), (2, .int x2), (3, .int x3), (4, .int x4)]) (st1 := [.int (-2)]) (S1 := rt v1) (pc1 := 39) [(.bipush (-2), .int (-2), 0, 0)] [] (by decide +kernel) rfl trivial ?_
      exact xr_iret (by decide +kernel) rfl ⟨_, _, rfl, rfl, h⟩
    · replace h := h.2 hc
      obtain ⟨hb3, h⟩ := h
      refine xr_blk (lv1 := [(0, .ref 0), (1, .int x1), (2, .int x2), (3, .int x3), (4, .int x4)]) (st1 := [.int ((gA v1 28) (x1).toNatClampNeg), .int x2]) (S1 := rt v1) (pc1 := 27) [(.iload_n 2, .null, 0, 0), (.aload_n 0, .null, 0, 0), (.getfield 49, .null, 11, 5), (.getfield 170, .null, 1, 2), (.iload_n 1, .null, 0, 0), (.iaload, .null, 0, 0)] [(x1, 20)] (by decide +kernel) rfl ⟨hb3, trivial⟩ ?_
      refine xr_ic_ge (tgt := 37) (off := 10) (by decide +kernel) (by decide) (fun hc => ?_) (fun hc => ?_)
      · replace h := h.1 hc
        refine xr_blk (lv1 := [(0, .ref 0), (1, .int x1), (2, .int x2), (3, .int x3), (4, .int x4)]) (st1 := [.int (-2)]) (S1 := rt v1) (pc1 := 39) [(.bipush (-2), .int (-2), 0, 0)] [] (by decide +kernel) rfl trivial ?_
        exact xr_iret (by decide +kernel) rfl ⟨_, _, rfl, rfl, h⟩
      · replace h := h.2 hc
        refine xr_blk (lv1 := [(0, .ref 0), (1, .int x1), (2, .int x2), (3, .int x3), (4, .int x4)]) (st1 := [.int x3]) (S1 := rt v1) (pc1 := 31) [(.iload_n 3, .null, 0, 0)] [] (by decide +kernel) rfl trivial ?_
        refine xk_SI (As := [.int x3]) (rest := []) (idx := 173) (i0 := 173) (m1 := 143) (ps := [892, 658]) (by decide +kernel) (by decide +kernel) (by decide) rfl (Nat.le_of_ble_eq_true rfl) rfl h (fun y5 v4 h => ?_)
        refine xr_if_ne (tgt := 40) (off := 6) (by decide +kernel) (by decide) (fun hc => ?_) (fun hc => ?_)
        · replace h := h.1 hc
          refine xr_blk (lv1 := [(0, .ref 0), (1, .int x1), (2, .int x2), (3, .int x3), (4, .int x4)]) (st1 := [.int x4, .int x1, .ref 49]) (S1 := rt v4) (pc1 := 47) [(.aload_n 0, .null, 0, 0), (.getfield 65, .null, 11, 7), (.iload_n 1, .null, 0, 0), (.iload 4, .null, 0, 0)] [] (by decide +kernel) rfl trivial ?_
          refine xk_VV (As := [.int x1, .int x4]) (bb := 49) (rest := []) (idx := 177) (i0 := 177) (m1 := 54) (ps := [893, 894, 895]) (by decide +kernel) (by decide +kernel) (by decide) rfl ((gK_s (by decide)).trans (by decide +kernel)) (by decide) (Nat.le_of_ble_eq_true rfl) rfl h (fun v6 h => ?_)
          refine xr_blk (lv1 := [(0, .ref 0), (1, .int x1), (2, .int x2), (3, .int x3), (4, .int x4)]) (st1 := [.int x3, .int x2, .ref 49]) (S1 := rt v6) (pc1 := 56) [(.aload_n 0, .null, 0, 0), (.getfield 65, .null, 11, 7), (.iload_n 2, .null, 0, 0), (.iload_n 3, .null, 0, 0)] [] (by decide +kernel) rfl trivial ?_
          refine xk_VI (As := [.int x2, .int x3]) (bb := 49) (rest := []) (idx := 181) (i0 := 181) (m1 := 57) (ps := [906, 907, 908]) (by decide +kernel) (by decide +kernel) (by decide) rfl ((gK_s (by decide)).trans (by decide +kernel)) (by decide) (Nat.le_of_ble_eq_true rfl) rfl h (fun y8 v7 h => ?_)
          exact xr_iret (by decide +kernel) rfl ⟨_, _, rfl, rfl, h⟩
        · replace h := h.2 hc
          refine xr_blk (lv1 := [(0, .ref 0), (1, .int x1), (2, .int x2), (3, .int x3), (4, .int x4)]) (st1 := [.int (-2)]) (S1 := rt v4) (pc1 := 39) [(.bipush (-2), .int (-2), 0, 0)] [] (by decide +kernel) rfl trivial ?_
          exact xr_iret (by decide +kernel) rfl ⟨_, _, rfl, rfl, h⟩
theorem ok_126 : x_mOK 126 := ⟨x_tm4 (List.mem_of_getElem? (i := 67) rfl) rfl, 101, by decide +kernel⟩
/-! X11_read: method 127, ScrawlHouse.read(II)I -/
set_option maxRecDepth 100000 in
theorem w_X11_read_0 {E : Nat × (Nat → Int32)} {d : Nat} {v : xV} {x1 : Int32} {x2 : Int32} {Q : Int32 → xV → Prop} (h : KI E d 8 [.ref 25, .int x1, .int x2] v (fun y2 v1 => ((¬ y2 = (nI 0) → KV E d 53 [.ref 49, .int x1, .int x2] v1 (fun v3 => vp_in x1 20 ∧ ∀ y5 : Int32, y5 = ((gA v3 44) (x1).toNatClampNeg) → ((¬ y5 = (nI 0) → RI E (d + 1) 127 42 [(0, .ref 0), (1, .int x1), (3, .int y5), (4, .int (nI 0))] v3 Q) ∧ (y5 = (nI 0) → Q (nI 0) v3)))) ∧ (y2 = (nI 0) → Q (-1 : Int32) v1)))) : RI E (d + 1) 127 0 [(0, .ref 0), (1, .int x1), (2, .int x2)] v Q := by
  unfold RI
  refine xr_blk (lv1 := [(0, .ref 0), (1, .int x1), (2, .int x2)]) (st1 := [.int x2, .int x1, .ref 25]) (S1 := rt v) (pc1 := 6) [(.aload_n 0, .null, 0, 0), (.getfield 49, .null, 11, 5), (.iload_n 1, .null, 0, 0), (.iload_n 2, .null, 0, 0)] [] (by decide +kernel) rfl trivial ?_
  refine xk_VI (As := [.int x1, .int x2]) (bb := 25) (rest := []) (idx := 167) (i0 := 167) (m1 := 8) (ps := [888, 889, 890]) (by decide +kernel) (by decide +kernel) (by decide) rfl ((gK_s (by decide)).trans (by decide +kernel)) (by decide) (Nat.le_of_ble_eq_true rfl) rfl h (fun y2 v1 h => ?_)
  refine xr_if_ne (tgt := 14) (off := 5) (by decide +kernel) (by decide) (fun hc => ?_) (fun hc => ?_)
  · replace h := h.1 hc
    refine xr_blk (lv1 := [(0, .ref 0), (1, .int x1), (2, .int x2)]) (st1 := [.int x2, .int x1, .ref 49]) (S1 := rt v1) (pc1 := 20) [(.aload_n 0, .null, 0, 0), (.getfield 65, .null, 11, 7), (.iload_n 1, .null, 0, 0), (.iload_n 2, .null, 0, 0)] [] (by decide +kernel) rfl trivial ?_
    refine xk_VV (As := [.int x1, .int x2]) (bb := 49) (rest := []) (idx := 184) (i0 := 184) (m1 := 53) (ps := [930, 931, 932]) (by decide +kernel) (by decide +kernel) (by decide) rfl ((gK_s (by decide)).trans (by decide +kernel)) (by decide) (Nat.le_of_ble_eq_true rfl) rfl h (fun v3 h => ?_)
    obtain ⟨hb4, h⟩ := h
    refine xr_blk (lv1 := [(0, .ref 0), (1, .int x1), (2, .int x2)]) (st1 := [.int ((gA v3 44) (x1).toNatClampNeg)]) (S1 := rt v3) (pc1 := 32) [(.aload_n 0, .null, 0, 0), (.getfield 56, .null, 11, 6), (.getfield 187, .null, 7, 5), (.iload_n 1, .null, 0, 0), (.iaload, .null, 0, 0)] [(x1, 20)] (by decide +kernel) rfl ⟨hb4, trivial⟩ ?_
    refine xr_topi (fun y5 ey5 => ?_)
    replace h := h y5 ey5
    refine xr_blk (lv1 := [(3, .int y5), (0, .ref 0), (1, .int x1), (2, .int x2)]) (st1 := [.int y5]) (S1 := rt v3) (pc1 := 34) [(.istore_n 3, .null, 0, 0), (.iload_n 3, .null, 0, 0)] [] (by decide +kernel) rfl trivial ?_
    refine xr_if_ne (tgt := 39) (off := 5) (by decide +kernel) (by decide) (fun hc => ?_) (fun hc => ?_)
    · replace h := h.1 hc
      refine xr_blk (lv1 := [(4, .int (nI 0)), (3, .int y5), (0, .ref 0), (1, .int x1), (2, .int x2)]) (st1 := []) (S1 := rt v3) (pc1 := 42) [(.iconst 0, .int (nI 0), 0, 0), (.istore 4, .null, 0, 0)] [] (by decide +kernel) rfl trivial ?_
      exact x_R.sub [2, 3, 1, 0] rfl h
    · replace h := h.2 hc
      refine xr_blk (lv1 := [(3, .int y5), (0, .ref 0), (1, .int x1), (2, .int x2)]) (st1 := [.int (nI 0)]) (S1 := rt v3) (pc1 := 38) [(.iconst 0, .int (nI 0), 0, 0)] [] (by decide +kernel) rfl trivial ?_
      exact xr_iret (by decide +kernel) rfl ⟨_, _, rfl, rfl, h⟩
  · replace h := h.2 hc
    refine xr_blk (lv1 := [(0, .ref 0), (1, .int x1), (2, .int x2)]) (st1 := [.int (-1)]) (S1 := rt v1) (pc1 := 13) [(.iconst (-1), .int (-1), 0, 0)] [] (by decide +kernel) rfl trivial ?_
    exact xr_iret (by decide +kernel) rfl ⟨_, _, rfl, rfl, h⟩
set_option maxRecDepth 100000 in
theorem w_X11_read_42 {E : Nat × (Nat → Int32)} {d : Nat} {v : xV} {x1 : Int32} {x3 : Int32} {x4 : Int32} {Q : Int32 → xV → Prop} (h : ((x3 ≤ x4 → RI E (d + 1) 127 83 [(0, .ref 0), (3, .int x3)] v Q) ∧ (¬ x3 ≤ x4 → (((nI 6) ≤ x4 → RI E (d + 1) 127 83 [(0, .ref 0), (3, .int x3)] v Q) ∧ (¬ (nI 6) ≤ x4 → vp_in ((x1 * (nI 6)) + x4) 120 ∧ vp_in x4 6 ∧ RI E (d + 1) 127 42 [(0, .ref 0), (1, .int x1), (3, .int x3), (4, .int (x4 + (nI 1)))] (v_A v 79 (upd (gA v 79) (x4).toNatClampNeg ((gA v 45) (((x1 * (nI 6)) + x4)).toNatClampNeg))) Q))))) : RI E (d + 1) 127 42 [(0, .ref 0), (1, .int x1), (3, .int x3), (4, .int x4)] v Q := by
  unfold RI
  refine xr_blk (lv1 := [(0, .ref 0), (1, .int x1), (3, .int x3), (4, .int x4)]) (st1 := [.int x3, .int x4]) (S1 := rt v) (pc1 := 45) [(.iload 4, .null, 0, 0), (.iload_n 3, .null, 0, 0)] [] (by decide +kernel) rfl trivial ?_
  refine xr_ic_ge (tgt := 83) (off := 38) (by decide +kernel) (by decide) (fun hc => ?_) (fun hc => ?_)
  · replace h := h.1 hc
    exact x_R.sub [0, 2] rfl h
  · replace h := h.2 hc
    refine xr_blk (lv1 := [(0, .ref 0), (1, .int x1), (3, .int x3), (4, .int x4)]) (st1 := [.int (nI 6), .int x4]) (S1 := rt v) (pc1 := 52) [(.iload 4, .null, 0, 0), (.bipush 6, .int (nI 6), 0, 0)] [] (by decide +kernel) rfl trivial ?_
    refine xr_ic_ge (tgt := 83) (off := 31) (by decide +kernel) (by decide) (fun hc => ?_) (fun hc => ?_)
    · replace h := h.1 hc
      exact x_R.sub [0, 2] rfl h
    · replace h := h.2 hc
      obtain ⟨hb1, h⟩ := h
      obtain ⟨hb2, h⟩ := h
      refine xr_blk (lv1 := [(4, .int (x4 + (nI 1))), (0, .ref 0), (1, .int x1), (3, .int x3)]) (st1 := []) (S1 := rt (v_A v 79 (upd (gA v 79) (x4).toNatClampNeg ((gA v 45) (((x1 * (nI 6)) + x4)).toNatClampNeg)))) (pc1 := 80) [(.aload_n 0, .null, 0, 0), (.getfield 94, .null, 11, 11), (.iload 4, .null, 0, 0), (.aload_n 0, .null, 0, 0), (.getfield 56, .null, 11, 6), (.getfield 190, .null, 7, 6), (.iload_n 1, .null, 0, 0), (.bipush 6, .int (nI 6), 0, 0), (.imul, .null, 0, 0), (.iload 4, .null, 0, 0), (.iadd, .null, 0, 0), (.iaload, .null, 0, 0), (.iastore, .null, 0, 0), (.iinc 4 1, .int (nI 1), 0, 0)] [(((x1 * (nI 6)) + x4), 120), (x4, 6)] (by decide +kernel) rfl ⟨hb1, hb2, trivial⟩ ?_
      refine xr_goto (tgt := 42) (off := -38) (by decide +kernel) (by decide) ?_
      exact x_R.sub [1, 2, 3, 0] rfl h
set_option maxRecDepth 100000 in
theorem w_X11_read_83 {E : Nat × (Nat → Int32)} {d : Nat} {v : xV} {x3 : Int32} {Q : Int32 → xV → Prop} (h : Q x3 (v_I v 0 12 x3)) : RI E (d + 1) 127 83 [(0, .ref 0), (3, .int x3)] v Q := by
  unfold RI
  refine xr_blk (lv1 := [(0, .ref 0), (3, .int x3)]) (st1 := [.int x3]) (S1 := rt (v_I v 0 12 x3)) (pc1 := 89) [(.aload_n 0, .null, 0, 0), (.iload_n 3, .null, 0, 0), (.putfield 98, .null, 11, 12), (.iload_n 3, .null, 0, 0)] [] (by decide +kernel) rfl trivial ?_
  exact xr_iret (by decide +kernel) rfl ⟨_, _, rfl, rfl, h⟩
theorem ok_127 : x_mOK 127 := ⟨x_tm4 (List.mem_of_getElem? (i := 109) rfl) rfl, 101, by decide +kernel⟩
/-! X11_reading: method 129, ScrawlHouse.reading(III)I -/
set_option maxRecDepth 100000 in
theorem w_X11_reading_0 {E : Nat × (Nat → Int32)} {d : Nat} {v : xV} {x1 : Int32} {x2 : Int32} {x3 : Int32} {Q : Int32 → xV → Prop} (h : KI E d 8 [.ref 25, .int x1, .int x2] v (fun y2 v1 => ((¬ y2 = (nI 0) → KV E d 53 [.ref 49, .int x1, .int x2] v1 (fun v3 => ((((x3).toInt < 0 ∨ 5 < (x3).toInt) → Q (-1 : Int32) v3) ∧ (x3 = nI 0 → vp_in x1 20 ∧ Q ((gA v3 42) (x1).toNatClampNeg) v3) ∧ (x3 = nI 1 → vp_in x1 20 ∧ Q ((gA v3 43) (x1).toNatClampNeg) v3) ∧ (x3 = nI 2 → KI E d 74 [.ref 38, .int x1, .int (nI 0)] v3 (fun y7 v6 => Q y7 v6)) ∧ (x3 = nI 3 → KI E d 74 [.ref 38, .int x1, .int (nI 1)] v3 (fun y9 v8 => Q y9 v8)) ∧ (x3 = nI 4 → KI E d 74 [.ref 38, .int x1, .int (nI 2)] v3 (fun y11 v10 => Q y11 v10)) ∧ (x3 = nI 5 → vp_in x1 20 ∧ Q ((gA v3 48) (x1).toNatClampNeg) v3)))) ∧ (y2 = (nI 0) → Q (-1 : Int32) v1)))) : RI E (d + 1) 129 0 [(0, .ref 0), (1, .int x1), (2, .int x2), (3, .int x3)] v Q := by
  unfold RI
  refine xr_blk (lv1 := [(0, .ref 0), (1, .int x1), (2, .int x2), (3, .int x3)]) (st1 := [.int x2, .int x1, .ref 25]) (S1 := rt v) (pc1 := 6) [(.aload_n 0, .null, 0, 0), (.getfield 49, .null, 11, 5), (.iload_n 1, .null, 0, 0), (.iload_n 2, .null, 0, 0)] [] (by decide +kernel) rfl trivial ?_
  refine xk_VI (As := [.int x1, .int x2]) (bb := 25) (rest := []) (idx := 167) (i0 := 167) (m1 := 8) (ps := [888, 889, 890]) (by decide +kernel) (by decide +kernel) (by decide) rfl ((gK_s (by decide)).trans (by decide +kernel)) (by decide) (Nat.le_of_ble_eq_true rfl) rfl h (fun y2 v1 h => ?_)
  refine xr_if_ne (tgt := 14) (off := 5) (by decide +kernel) (by decide) (fun hc => ?_) (fun hc => ?_)
  · replace h := h.1 hc
    refine xr_blk (lv1 := [(0, .ref 0), (1, .int x1), (2, .int x2), (3, .int x3)]) (st1 := [.int x2, .int x1, .ref 49]) (S1 := rt v1) (pc1 := 20) [(.aload_n 0, .null, 0, 0), (.getfield 65, .null, 11, 7), (.iload_n 1, .null, 0, 0), (.iload_n 2, .null, 0, 0)] [] (by decide +kernel) rfl trivial ?_
    refine xk_VV (As := [.int x1, .int x2]) (bb := 49) (rest := []) (idx := 184) (i0 := 184) (m1 := 53) (ps := [930, 931, 932]) (by decide +kernel) (by decide +kernel) (by decide) rfl ((gK_s (by decide)).trans (by decide +kernel)) (by decide) (Nat.le_of_ble_eq_true rfl) rfl h (fun v3 h => ?_)
    refine xr_blk (lv1 := [(0, .ref 0), (1, .int x1), (2, .int x2), (3, .int x3)]) (st1 := [.int x3]) (S1 := rt v3) (pc1 := 24) [(.iload_n 3, .null, 0, 0)] [] (by decide +kernel) rfl trivial ?_
    refine xr_tsw (by decide +kernel : decode (x_mB 129) 24 = .ok (.tableswitch 100 0 5 #[40, 50, 60, 70, 80, 90], 40)) 124 (by decide) (fun hc => ?_) (fun hc => ?_)
    · replace h := h.1 hc
      refine xr_blk (lv1 := [(0, .ref 0), (1, .int x1), (2, .int x2), (3, .int x3)]) (st1 := [.int (-1)]) (S1 := rt v3) (pc1 := 125) [(.iconst (-1), .int (-1), 0, 0)] [] (by decide +kernel) rfl trivial ?_
      exact xr_iret (by decide +kernel) rfl ⟨_, _, rfl, rfl, h⟩
    · replace h := h.2
      have hr : x3 = 0 ∨ x3 = 1 ∨ x3 = 2 ∨ x3 = 3 ∨ x3 = 4 ∨ x3 = 5 := x_sw6 hc
      rcases hr with hr | hr | hr | hr | hr | hr
      · refine ⟨40, 64, by rw [hr]; decide +kernel, by decide, ?_⟩
        replace h := h.1 hr
        obtain ⟨hb4, h⟩ := h
        refine xr_blk (lv1 := [(0, .ref 0), (1, .int x1), (2, .int x2), (3, .int x3)]) (st1 := [.int ((gA v3 42) (x1).toNatClampNeg)]) (S1 := rt v3) (pc1 := 73) [(.aload_n 0, .null, 0, 0), (.getfield 56, .null, 11, 6), (.getfield 200, .null, 7, 3), (.iload_n 1, .null, 0, 0), (.iaload, .null, 0, 0)] [(x1, 20)] (by decide +kernel) rfl ⟨hb4, trivial⟩ ?_
        exact xr_iret (by decide +kernel) rfl ⟨_, _, rfl, rfl, h⟩
      · refine ⟨50, 74, by rw [hr]; decide +kernel, by decide, ?_⟩
        replace h := h.2.1 hr
        obtain ⟨hb5, h⟩ := h
        refine xr_blk (lv1 := [(0, .ref 0), (1, .int x1), (2, .int x2), (3, .int x3)]) (st1 := [.int ((gA v3 43) (x1).toNatClampNeg)]) (S1 := rt v3) (pc1 := 83) [(.aload_n 0, .null, 0, 0), (.getfield 56, .null, 11, 6), (.getfield 203, .null, 7, 4), (.iload_n 1, .null, 0, 0), (.iaload, .null, 0, 0)] [(x1, 20)] (by decide +kernel) rfl ⟨hb5, trivial⟩ ?_
        exact xr_iret (by decide +kernel) rfl ⟨_, _, rfl, rfl, h⟩
      · refine ⟨60, 84, by rw [hr]; decide +kernel, by decide, ?_⟩
        replace h := h.2.2.1 hr
        refine xr_blk (lv1 := [(0, .ref 0), (1, .int x1), (2, .int x2), (3, .int x3)]) (st1 := [.int (nI 0), .int x1, .ref 38]) (S1 := rt v3) (pc1 := 90) [(.aload_n 0, .null, 0, 0), (.getfield 56, .null, 11, 6), (.iload_n 1, .null, 0, 0), (.iconst 0, .int (nI 0), 0, 0)] [] (by decide +kernel) rfl trivial ?_
        refine xk_VI (As := [.int x1, .int (nI 0)]) (bb := 38) (rest := []) (idx := 206) (i0 := 206) (m1 := 74) (ps := [1014, 995, 996]) (by decide +kernel) (by decide +kernel) (by decide) rfl ((gK_s (by decide)).trans (by decide +kernel)) (by decide) (Nat.le_of_ble_eq_true rfl) rfl h (fun y7 v6 h => ?_)
        exact xr_iret (by decide +kernel) rfl ⟨_, _, rfl, rfl, h⟩
      · refine ⟨70, 94, by rw [hr]; decide +kernel, by decide, ?_⟩
        replace h := h.2.2.2.1 hr
        refine xr_blk (lv1 := [(0, .ref 0), (1, .int x1), (2, .int x2), (3, .int x3)]) (st1 := [.int (nI 1), .int x1, .ref 38]) (S1 := rt v3) (pc1 := 100) [(.aload_n 0, .null, 0, 0), (.getfield 56, .null, 11, 6), (.iload_n 1, .null, 0, 0), (.iconst 1, .int (nI 1), 0, 0)] [] (by decide +kernel) rfl trivial ?_
        refine xk_VI (As := [.int x1, .int (nI 1)]) (bb := 38) (rest := []) (idx := 206) (i0 := 206) (m1 := 74) (ps := [1014, 995, 996]) (by decide +kernel) (by decide +kernel) (by decide) rfl ((gK_s (by decide)).trans (by decide +kernel)) (by decide) (Nat.le_of_ble_eq_true rfl) rfl h (fun y9 v8 h => ?_)
        exact xr_iret (by decide +kernel) rfl ⟨_, _, rfl, rfl, h⟩
      · refine ⟨80, 104, by rw [hr]; decide +kernel, by decide, ?_⟩
        replace h := h.2.2.2.2.1 hr
        refine xr_blk (lv1 := [(0, .ref 0), (1, .int x1), (2, .int x2), (3, .int x3)]) (st1 := [.int (nI 2), .int x1, .ref 38]) (S1 := rt v3) (pc1 := 110) [(.aload_n 0, .null, 0, 0), (.getfield 56, .null, 11, 6), (.iload_n 1, .null, 0, 0), (.iconst 2, .int (nI 2), 0, 0)] [] (by decide +kernel) rfl trivial ?_
        refine xk_VI (As := [.int x1, .int (nI 2)]) (bb := 38) (rest := []) (idx := 206) (i0 := 206) (m1 := 74) (ps := [1014, 995, 996]) (by decide +kernel) (by decide +kernel) (by decide) rfl ((gK_s (by decide)).trans (by decide +kernel)) (by decide) (Nat.le_of_ble_eq_true rfl) rfl h (fun y11 v10 h => ?_)
        exact xr_iret (by decide +kernel) rfl ⟨_, _, rfl, rfl, h⟩
      · refine ⟨90, 114, by rw [hr]; decide +kernel, by decide, ?_⟩
        replace h := h.2.2.2.2.2 hr
        obtain ⟨hb12, h⟩ := h
        refine xr_blk (lv1 := [(0, .ref 0), (1, .int x1), (2, .int x2), (3, .int x3)]) (st1 := [.int ((gA v3 48) (x1).toNatClampNeg)]) (S1 := rt v3) (pc1 := 123) [(.aload_n 0, .null, 0, 0), (.getfield 56, .null, 11, 6), (.getfield 209, .null, 7, 9), (.iload_n 1, .null, 0, 0), (.iaload, .null, 0, 0)] [(x1, 20)] (by decide +kernel) rfl ⟨hb12, trivial⟩ ?_
        exact xr_iret (by decide +kernel) rfl ⟨_, _, rfl, rfl, h⟩
  · replace h := h.2 hc
    refine xr_blk (lv1 := [(0, .ref 0), (1, .int x1), (2, .int x2), (3, .int x3)]) (st1 := [.int (-1)]) (S1 := rt v1) (pc1 := 13) [(.iconst (-1), .int (-1), 0, 0)] [] (by decide +kernel) rfl trivial ?_
    exact xr_iret (by decide +kernel) rfl ⟨_, _, rfl, rfl, h⟩
theorem ok_129 : x_mOK 129 := ⟨x_tm4 (List.mem_of_getElem? (i := 193) rfl) rfl, 101, by decide +kernel⟩
/-! X11_used: method 130, ScrawlHouse.used(III)I -/
set_option maxRecDepth 100000 in
theorem w_X11_used_0 {E : Nat × (Nat → Int32)} {d : Nat} {v : xV} {x1 : Int32} {x2 : Int32} {x3 : Int32} {Q : Int32 → xV → Prop} (h : KI E d 8 [.ref 25, .int x1, .int x3] v (fun y2 v1 => ((y2 = (nI 0) → Q (-1 : Int32) v1) ∧ (¬ y2 = (nI 0) → KI E d 143 [.int x2] v1 (fun y4 v3 => ((¬ y4 = (nI 0) → KV E d 53 [.ref 49, .int x1, .int x3] v3 (fun v5 => vp_in ((x1 * (nI 26)) + x2) 520 ∧ Q ((gA v5 47) (((x1 * (nI 26)) + x2)).toNatClampNeg) v5)) ∧ (y4 = (nI 0) → Q (-1 : Int32) v3))))))) : RI E (d + 1) 130 0 [(0, .ref 0), (1, .int x1), (2, .int x2), (3, .int x3)] v Q := by
  unfold RI
  refine xr_blk (lv1 := [(0, .ref 0), (1, .int x1), (2, .int x2), (3, .int x3)]) (st1 := [.int x3, .int x1, .ref 25]) (S1 := rt v) (pc1 := 6) [(.aload_n 0, .null, 0, 0), (.getfield 49, .null, 11, 5), (.iload_n 1, .null, 0, 0), (.iload_n 3, .null, 0, 0)] [] (by decide +kernel) rfl trivial ?_
  refine xk_VI (As := [.int x1, .int x3]) (bb := 25) (rest := []) (idx := 167) (i0 := 167) (m1 := 8) (ps := [888, 889, 890]) (by decide +kernel) (by decide +kernel) (by decide) rfl ((gK_s (by decide)).trans (by decide +kernel)) (by decide) (Nat.le_of_ble_eq_true rfl) rfl h (fun y2 v1 h => ?_)
  refine xr_if_eq (tgt := 19) (off := 10) (by decide +kernel) (by decide) (fun hc => ?_) (fun hc => ?_)
  · replace h := h.1 hc
    refine xr_blk (lv1 := [(0, .ref 0), (1, .int x1), (2, .int x2), (3, .int x3)]) (st1 := [.int (-1)]) (S1 := rt v1) (pc1 := 20) [(.iconst (-1), .int (-1), 0, 0)] [] (by decide +kernel) rfl trivial ?_
    exact xr_iret (by decide +kernel) rfl ⟨_, _, rfl, rfl, h⟩
  · replace h := h.2 hc
    refine xr_blk (lv1 := [(0, .ref 0), (1, .int x1), (2, .int x2), (3, .int x3)]) (st1 := [.int x2]) (S1 := rt v1) (pc1 := 13) [(.iload_n 2, .null, 0, 0)] [] (by decide +kernel) rfl trivial ?_
    refine xk_SI (As := [.int x2]) (rest := []) (idx := 173) (i0 := 173) (m1 := 143) (ps := [892, 658]) (by decide +kernel) (by decide +kernel) (by decide) rfl (Nat.le_of_ble_eq_true rfl) rfl h (fun y4 v3 h => ?_)
    refine xr_if_ne (tgt := 21) (off := 5) (by decide +kernel) (by decide) (fun hc => ?_) (fun hc => ?_)
    · replace h := h.1 hc
      refine xr_blk (lv1 := [(0, .ref 0), (1, .int x1), (2, .int x2), (3, .int x3)]) (st1 := [.int x3, .int x1, .ref 49]) (S1 := rt v3) (pc1 := 27) [(.aload_n 0, .null, 0, 0), (.getfield 65, .null, 11, 7), (.iload_n 1, .null, 0, 0), (.iload_n 3, .null, 0, 0)] [] (by decide +kernel) rfl trivial ?_
      refine xk_VV (As := [.int x1, .int x3]) (bb := 49) (rest := []) (idx := 184) (i0 := 184) (m1 := 53) (ps := [930, 931, 932]) (by decide +kernel) (by decide +kernel) (by decide) rfl ((gK_s (by decide)).trans (by decide +kernel)) (by decide) (Nat.le_of_ble_eq_true rfl) rfl h (fun v5 h => ?_)
      obtain ⟨hb6, h⟩ := h
      refine xr_blk (lv1 := [(0, .ref 0), (1, .int x1), (2, .int x2), (3, .int x3)]) (st1 := [.int ((gA v5 47) (((x1 * (nI 26)) + x2)).toNatClampNeg)]) (S1 := rt v5) (pc1 := 44) [(.aload_n 0, .null, 0, 0), (.getfield 56, .null, 11, 6), (.getfield 212, .null, 7, 8), (.iload_n 1, .null, 0, 0), (.bipush 26, .int (nI 26), 0, 0), (.imul, .null, 0, 0), (.iload_n 2, .null, 0, 0), (.iadd, .null, 0, 0), (.iaload, .null, 0, 0)] [(((x1 * (nI 26)) + x2), 520)] (by decide +kernel) rfl ⟨hb6, trivial⟩ ?_
      exact xr_iret (by decide +kernel) rfl ⟨_, _, rfl, rfl, h⟩
    · replace h := h.2 hc
      refine xr_blk (lv1 := [(0, .ref 0), (1, .int x1), (2, .int x2), (3, .int x3)]) (st1 := [.int (-1)]) (S1 := rt v3) (pc1 := 20) [(.iconst (-1), .int (-1), 0, 0)] [] (by decide +kernel) rfl trivial ?_
      exact xr_iret (by decide +kernel) rfl ⟨_, _, rfl, rfl, h⟩
theorem ok_130 : x_mOK 130 := ⟨x_tm4 (List.mem_of_getElem? (i := 198) rfl) rfl, 101, by decide +kernel⟩
/-! X11_agree: method 131, ScrawlHouse.agree(III)I -/
set_option maxRecDepth 100000 in
theorem w_X11_agree_0 {E : Nat × (Nat → Int32)} {d : Nat} {v : xV} {x1 : Int32} {x2 : Int32} {x3 : Int32} {Q : Int32 → xV → Prop} (h : KI E d 8 [.ref 25, .int x1, .int x3] v (fun y2 v1 => ((y2 = (nI 0) → Q (nI 0) v1) ∧ (¬ y2 = (nI 0) → KI E d 8 [.ref 25, .int x2, .int x3] v1 (fun y4 v3 => ((¬ y4 = (nI 0) → KV E d 53 [.ref 49, .int x1, .int x3] v3 (fun v5 => KV E d 53 [.ref 49, .int x2, .int x3] v5 (fun v6 => KI E d 75 [.ref 38, .int x1, .int x2] v6 (fun y8 v7 => Q y8 v7)))) ∧ (y4 = (nI 0) → Q (nI 0) v3))))))) : RI E (d + 1) 131 0 [(0, .ref 0), (1, .int x1), (2, .int x2), (3, .int x3)] v Q := by
  unfold RI
  refine xr_blk (lv1 := [(0, .ref 0), (1, .int x1), (2, .int x2), (3, .int x3)]) (st1 := [.int x3, .int x1, .ref 25]) (S1 := rt v) (pc1 := 6) [(.aload_n 0, .null, 0, 0), (.getfield 49, .null, 11, 5), (.iload_n 1, .null, 0, 0), (.iload_n 3, .null, 0, 0)] [] (by decide +kernel) rfl trivial ?_
  refine xk_VI (As := [.int x1, .int x3]) (bb := 25) (rest := []) (idx := 167) (i0 := 167) (m1 := 8) (ps := [888, 889, 890]) (by decide +kernel) (by decide +kernel) (by decide) rfl ((gK_s (by decide)).trans (by decide +kernel)) (by decide) (Nat.le_of_ble_eq_true rfl) rfl h (fun y2 v1 h => ?_)
  refine xr_if_eq (tgt := 24) (off := 15) (by decide +kernel) (by decide) (fun hc => ?_) (fun hc => ?_)
  · replace h := h.1 hc
    refine xr_blk (lv1 := [(0, .ref 0), (1, .int x1), (2, .int x2), (3, .int x3)]) (st1 := [.int (nI 0)]) (S1 := rt v1) (pc1 := 25) [(.iconst 0, .int (nI 0), 0, 0)] [] (by decide +kernel) rfl trivial ?_
    exact xr_iret (by decide +kernel) rfl ⟨_, _, rfl, rfl, h⟩
  · replace h := h.2 hc
    refine xr_blk (lv1 := [(0, .ref 0), (1, .int x1), (2, .int x2), (3, .int x3)]) (st1 := [.int x3, .int x2, .ref 25]) (S1 := rt v1) (pc1 := 18) [(.aload_n 0, .null, 0, 0), (.getfield 49, .null, 11, 5), (.iload_n 2, .null, 0, 0), (.iload_n 3, .null, 0, 0)] [] (by decide +kernel) rfl trivial ?_
    refine xk_VI (As := [.int x2, .int x3]) (bb := 25) (rest := []) (idx := 167) (i0 := 167) (m1 := 8) (ps := [888, 889, 890]) (by decide +kernel) (by decide +kernel) (by decide) rfl ((gK_s (by decide)).trans (by decide +kernel)) (by decide) (Nat.le_of_ble_eq_true rfl) rfl h (fun y4 v3 h => ?_)
    refine xr_if_ne (tgt := 26) (off := 5) (by decide +kernel) (by decide) (fun hc => ?_) (fun hc => ?_)
    · replace h := h.1 hc
      refine xr_blk (lv1 := [(0, .ref 0), (1, .int x1), (2, .int x2), (3, .int x3)]) (st1 := [.int x3, .int x1, .ref 49]) (S1 := rt v3) (pc1 := 32) [(.aload_n 0, .null, 0, 0), (.getfield 65, .null, 11, 7), (.iload_n 1, .null, 0, 0), (.iload_n 3, .null, 0, 0)] [] (by decide +kernel) rfl trivial ?_
      refine xk_VV (As := [.int x1, .int x3]) (bb := 49) (rest := []) (idx := 184) (i0 := 184) (m1 := 53) (ps := [930, 931, 932]) (by decide +kernel) (by decide +kernel) (by decide) rfl ((gK_s (by decide)).trans (by decide +kernel)) (by decide) (Nat.le_of_ble_eq_true rfl) rfl h (fun v5 h => ?_)
      refine xr_blk (lv1 := [(0, .ref 0), (1, .int x1), (2, .int x2), (3, .int x3)]) (st1 := [.int x3, .int x2, .ref 49]) (S1 := rt v5) (pc1 := 41) [(.aload_n 0, .null, 0, 0), (.getfield 65, .null, 11, 7), (.iload_n 2, .null, 0, 0), (.iload_n 3, .null, 0, 0)] [] (by decide +kernel) rfl trivial ?_
      refine xk_VV (As := [.int x2, .int x3]) (bb := 49) (rest := []) (idx := 184) (i0 := 184) (m1 := 53) (ps := [930, 931, 932]) (by decide +kernel) (by decide +kernel) (by decide) rfl ((gK_s (by decide)).trans (by decide +kernel)) (by decide) (Nat.le_of_ble_eq_true rfl) rfl h (fun v6 h => ?_)
      refine xr_blk (lv1 := [(0, .ref 0), (1, .int x1), (2, .int x2), (3, .int x3)]) (st1 := [.int x2, .int x1, .ref 38]) (S1 := rt v6) (pc1 := 50) [(.aload_n 0, .null, 0, 0), (.getfield 56, .null, 11, 6), (.iload_n 1, .null, 0, 0), (.iload_n 2, .null, 0, 0)] [] (by decide +kernel) rfl trivial ?_
      refine xk_VI (As := [.int x1, .int x2]) (bb := 38) (rest := []) (idx := 215) (i0 := 215) (m1 := 75) (ps := [1023, 1024, 1025]) (by decide +kernel) (by decide +kernel) (by decide) rfl ((gK_s (by decide)).trans (by decide +kernel)) (by decide) (Nat.le_of_ble_eq_true rfl) rfl h (fun y8 v7 h => ?_)
      exact xr_iret (by decide +kernel) rfl ⟨_, _, rfl, rfl, h⟩
    · replace h := h.2 hc
      refine xr_blk (lv1 := [(0, .ref 0), (1, .int x1), (2, .int x2), (3, .int x3)]) (st1 := [.int (nI 0)]) (S1 := rt v3) (pc1 := 25) [(.iconst 0, .int (nI 0), 0, 0)] [] (by decide +kernel) rfl trivial ?_
      exact xr_iret (by decide +kernel) rfl ⟨_, _, rfl, rfl, h⟩
theorem ok_131 : x_mOK 131 := ⟨x_tm4 (List.mem_of_getElem? (i := 202) rfl) rfl, 101, by decide +kernel⟩
/-! X11_hand: method 132, ScrawlHouse.hand(II)I -/
set_option maxRecDepth 100000 in
theorem w_X11_hand_0 {E : Nat × (Nat → Int32)} {d : Nat} {v : xV} {x1 : Int32} {x2 : Int32} {Q : Int32 → xV → Prop} (h : KI E d 8 [.ref 25, .int x1, .int x2] v (fun y2 v1 => ((¬ y2 = (nI 0) → KV E d 52 [.ref 49, .int x2] v1 (fun v3 => KV E d 90 [.ref 67, .int x2] v3 (fun v4 => KV E d 13 [.ref 74, .int x2] v4 (fun v5 => vp_in x1 20 ∧ Q ((gA v5 75) (x1).toNatClampNeg) v5)))) ∧ (y2 = (nI 0) → Q (-1 : Int32) v1)))) : RI E (d + 1) 132 0 [(0, .ref 0), (1, .int x1), (2, .int x2)] v Q := by
  unfold RI
  refine xr_blk (lv1 := [(0, .ref 0), (1, .int x1), (2, .int x2)]) (st1 := [.int x2, .int x1, .ref 25]) (S1 := rt v) (pc1 := 6) [(.aload_n 0, .null, 0, 0), (.getfield 49, .null, 11, 5), (.iload_n 1, .null, 0, 0), (.iload_n 2, .null, 0, 0)] [] (by decide +kernel) rfl trivial ?_
  refine xk_VI (As := [.int x1, .int x2]) (bb := 25) (rest := []) (idx := 167) (i0 := 167) (m1 := 8) (ps := [888, 889, 890]) (by decide +kernel) (by decide +kernel) (by decide) rfl ((gK_s (by decide)).trans (by decide +kernel)) (by decide) (Nat.le_of_ble_eq_true rfl) rfl h (fun y2 v1 h => ?_)
  refine xr_if_ne (tgt := 14) (off := 5) (by decide +kernel) (by decide) (fun hc => ?_) (fun hc => ?_)
  · replace h := h.1 hc
    refine xr_blk (lv1 := [(0, .ref 0), (1, .int x1), (2, .int x2)]) (st1 := [.int x2, .ref 49]) (S1 := rt v1) (pc1 := 19) [(.aload_n 0, .null, 0, 0), (.getfield 65, .null, 11, 7), (.iload_n 2, .null, 0, 0)] [] (by decide +kernel) rfl trivial ?_
    refine xk_VV (As := [.int x2]) (bb := 49) (rest := []) (idx := 218) (i0 := 218) (m1 := 52) (ps := [1031, 1032, 1033]) (by decide +kernel) (by decide +kernel) (by decide) rfl ((gK_s (by decide)).trans (by decide +kernel)) (by decide) (Nat.le_of_ble_eq_true rfl) rfl h (fun v3 h => ?_)
    refine xr_blk (lv1 := [(0, .ref 0), (1, .int x1), (2, .int x2)]) (st1 := [.int x2, .ref 67]) (S1 := rt v3) (pc1 := 27) [(.aload_n 0, .null, 0, 0), (.getfield 81, .null, 11, 9), (.iload_n 2, .null, 0, 0)] [] (by decide +kernel) rfl trivial ?_
    refine xk_VV (As := [.int x2]) (bb := 67) (rest := []) (idx := 221) (i0 := 221) (m1 := 90) (ps := [1040, 1041, 1042]) (by decide +kernel) (by decide +kernel) (by decide) rfl ((gK_s (by decide)).trans (by decide +kernel)) (by decide) (Nat.le_of_ble_eq_true rfl) rfl h (fun v4 h => ?_)
    refine xr_blk (lv1 := [(0, .ref 0), (1, .int x1), (2, .int x2)]) (st1 := [.int x2, .ref 74]) (S1 := rt v4) (pc1 := 35) [(.aload_n 0, .null, 0, 0), (.getfield 90, .null, 11, 10), (.iload_n 2, .null, 0, 0)] [] (by decide +kernel) rfl trivial ?_
    refine xk_VV (As := [.int x2]) (bb := 74) (rest := []) (idx := 224) (i0 := 224) (m1 := 13) (ps := [1129, 1130, 1131]) (by decide +kernel) (by decide +kernel) (by decide) rfl ((gK_s (by decide)).trans (by decide +kernel)) (by decide) (Nat.le_of_ble_eq_true rfl) rfl h (fun v5 h => ?_)
    obtain ⟨hb6, h⟩ := h
    refine xr_blk (lv1 := [(0, .ref 0), (1, .int x1), (2, .int x2)]) (st1 := [.int ((gA v5 75) (x1).toNatClampNeg)]) (S1 := rt v5) (pc1 := 47) [(.aload_n 0, .null, 0, 0), (.getfield 90, .null, 11, 10), (.getfield 227, .null, 2, 3), (.iload_n 1, .null, 0, 0), (.iaload, .null, 0, 0)] [(x1, 20)] (by decide +kernel) rfl ⟨hb6, trivial⟩ ?_
    exact xr_iret (by decide +kernel) rfl ⟨_, _, rfl, rfl, h⟩
  · replace h := h.2 hc
    refine xr_blk (lv1 := [(0, .ref 0), (1, .int x1), (2, .int x2)]) (st1 := [.int (-1)]) (S1 := rt v1) (pc1 := 13) [(.iconst (-1), .int (-1), 0, 0)] [] (by decide +kernel) rfl trivial ?_
    exact xr_iret (by decide +kernel) rfl ⟨_, _, rfl, rfl, h⟩
theorem ok_132 : x_mOK 132 := ⟨x_tm4 (List.mem_of_getElem? (i := 210) rfl) rfl, 101, by decide +kernel⟩
/-! X11_fact: method 133, ScrawlHouse.fact(IIIII)I -/
set_option maxRecDepth 100000 in
theorem w_X11_fact_0 {E : Nat × (Nat → Int32)} {d : Nat} {v : xV} {x1 : Int32} {x2 : Int32} {x3 : Int32} {x4 : Int32} {x5 : Int32} {Q : Int32 → xV → Prop} (h : KI E d 141 [.ref 0, .int x1, .int x2, .int x3] v (fun y2 v1 => ((¬ y2 = (nI 0) → KI E d 142 [.int x1, .int x4, .int x5] v1 (fun y4 v3 => ((¬ y4 = (nI 0) → (((gI v3 60 6) < (nI 80) → KI E d 1 [.ref 60, .int x1, .int x2, .int x3, .int x4, .int x5, .int (gI v3 0 13)] v3 (fun y6 v5 => Q y6 v5)) ∧ (¬ (gI v3 60 6) < (nI 80) → Q (-4 : Int32) v3))) ∧ (y4 = (nI 0) → Q (-3 : Int32) v3)))) ∧ (y2 = (nI 0) → Q (-2 : Int32) v1)))) : RI E (d + 1) 133 0 [(0, .ref 0), (1, .int x1), (2, .int x2), (3, .int x3), (4, .int x4), (5, .int x5)] v Q := by
  unfold RI
  refine xr_blk (lv1 := [(0, .ref 0), (1, .int x1), (2, .int x2), (3, .int x3), (4, .int x4), (5, .int x5)]) (st1 := [.int x3, .int x2, .int x1, .ref 0]) (S1 := rt v) (pc1 := 4) [(.aload_n 0, .null, 0, 0), (.iload_n 1, .null, 0, 0), (.iload_n 2, .null, 0, 0), (.iload_n 3, .null, 0, 0)] [] (by decide +kernel) rfl trivial ?_
  refine xk_VI (As := [.int x1, .int x2, .int x3]) (bb := 0) (rest := []) (idx := 230) (i0 := 230) (m1 := 141) (ps := [1152, 1154, 47]) (by decide +kernel) (by decide +kernel) (by decide) rfl ((gK_s (by decide)).trans (by decide +kernel)) (by decide) (Nat.le_of_ble_eq_true rfl) rfl h (fun y2 v1 h => ?_)
  refine xr_if_ne (tgt := 13) (off := 6) (by decide +kernel) (by decide) (fun hc => ?_) (fun hc => ?_)
  · replace h := h.1 hc
    refine xr_blk (lv1 := [(0, .ref 0), (1, .int x1), (2, .int x2), (3, .int x3), (4, .int x4), (5, .int x5)]) (st1 := [.int x5, .int x4, .int x1]) (S1 := rt v1) (pc1 := 18) [(.iload_n 1, .null, 0, 0), (.iload 4, .null, 0, 0), (.iload 5, .null, 0, 0)] [] (by decide +kernel) rfl trivial ?_
    refine xk_SI (As := [.int x1, .int x4, .int x5]) (rest := []) (idx := 233) (i0 := 233) (m1 := 142) (ps := [1161, 1162]) (by decide +kernel) (by decide +kernel) (by decide) rfl (Nat.le_of_ble_eq_true rfl) rfl h (fun y4 v3 h => ?_)
    refine xr_if_ne (tgt := 27) (off := 6) (by decide +kernel) (by decide) (fun hc => ?_) (fun hc => ?_)
    · replace h := h.1 hc
      refine xr_blk (lv1 := [(0, .ref 0), (1, .int x1), (2, .int x2), (3, .int x3), (4, .int x4), (5, .int x5)]) (st1 := [.int (nI 80), .int (gI v3 60 6)]) (S1 := rt v3) (pc1 := 36) [(.aload_n 0, .null, 0, 0), (.getfield 72, .null, 11, 8), (.getfield 236, .null, 0, 6), (.bipush 80, .int (nI 80), 0, 0)] [] (by decide +kernel) rfl trivial ?_
      refine xr_ic_lt (tgt := 42) (off := 6) (by decide +kernel) (by decide) (fun hc => ?_) (fun hc => ?_)
      · replace h := h.1 hc
        refine xr_blk (lv1 := [(0, .ref 0), (1, .int x1), (2, .int x2), (3, .int x3), (4, .int x4), (5, .int x5)]) (st1 := [.int (gI v3 0 13), .int x5, .int x4, .int x3, .int x2, .int x1, .ref 60]) (S1 := rt v3) (pc1 := 57) [(.aload_n 0, .null, 0, 0), (.getfield 72, .null, 11, 8), (.iload_n 1, .null, 0, 0), (.iload_n 2, .null, 0, 0), (.iload_n 3, .null, 0, 0), (.iload 4, .null, 0, 0), (.iload 5, .null, 0, 0), (.aload_n 0, .null, 0, 0), (.getfield 102, .null, 11, 13)] [] (by decide +kernel) rfl trivial ?_
        refine xk_VI (As := [.int x1, .int x2, .int x3, .int x4, .int x5, .int (gI v3 0 13)]) (bb := 60) (rest := []) (idx := 239) (i0 := 239) (m1 := 1) (ps := [1164, 1165, 1166]) (by decide +kernel) (by decide +kernel) (by decide) rfl ((gK_s (by decide)).trans (by decide +kernel)) (by decide) (Nat.le_of_ble_eq_true rfl) rfl h (fun y6 v5 h => ?_)
        exact xr_iret (by decide +kernel) rfl ⟨_, _, rfl, rfl, h⟩
      · replace h := h.2 hc
        refine xr_blk (lv1 := [(0, .ref 0), (1, .int x1), (2, .int x2), (3, .int x3), (4, .int x4), (5, .int x5)]) (st1 := [.int (-4)]) (S1 := rt v3) (pc1 := 41) [(.bipush (-4), .int (-4), 0, 0)] [] (by decide +kernel) rfl trivial ?_
        exact xr_iret (by decide +kernel) rfl ⟨_, _, rfl, rfl, h⟩
    · replace h := h.2 hc
      refine xr_blk (lv1 := [(0, .ref 0), (1, .int x1), (2, .int x2), (3, .int x3), (4, .int x4), (5, .int x5)]) (st1 := [.int (-3)]) (S1 := rt v3) (pc1 := 26) [(.bipush (-3), .int (-3), 0, 0)] [] (by decide +kernel) rfl trivial ?_
      exact xr_iret (by decide +kernel) rfl ⟨_, _, rfl, rfl, h⟩
  · replace h := h.2 hc
    refine xr_blk (lv1 := [(0, .ref 0), (1, .int x1), (2, .int x2), (3, .int x3), (4, .int x4), (5, .int x5)]) (st1 := [.int (-2)]) (S1 := rt v1) (pc1 := 12) [(.bipush (-2), .int (-2), 0, 0)] [] (by decide +kernel) rfl trivial ?_
    exact xr_iret (by decide +kernel) rfl ⟨_, _, rfl, rfl, h⟩
theorem ok_133 : x_mOK 133 := ⟨x_tm5 (List.mem_of_getElem? (i := 91) rfl) rfl, 101, by decide +kernel⟩
/-! X11_span: method 134, ScrawlHouse.span(IIZ)I -/
set_option maxRecDepth 100000 in
theorem w_X11_span_0 {E : Nat × (Nat → Int32)} {d : Nat} {v : xV} {x1 : Int32} {x2 : Int32} {x3 : Int32} {Q : Int32 → xV → Prop} (h : KI E d 8 [.ref 25, .int x1, .int x2] v (fun y2 v1 => ((¬ y2 = (nI 0) → KV E d 52 [.ref 49, .int x2] v1 (fun v3 => KV E d 90 [.ref 67, .int x2] v3 (fun v4 => KI E d 92 [.ref 67, .int x1, .int x3] v4 (fun y6 v5 => Q y6 v5)))) ∧ (y2 = (nI 0) → Q (-1 : Int32) v1)))) : RI E (d + 1) 134 0 [(0, .ref 0), (1, .int x1), (2, .int x2), (3, .int x3)] v Q := by
  unfold RI
  refine xr_blk (lv1 := [(0, .ref 0), (1, .int x1), (2, .int x2), (3, .int x3)]) (st1 := [.int x2, .int x1, .ref 25]) (S1 := rt v) (pc1 := 6) [(.aload_n 0, .null, 0, 0), (.getfield 49, .null, 11, 5), (.iload_n 1, .null, 0, 0), (.iload_n 2, .null, 0, 0)] [] (by decide +kernel) rfl trivial ?_
  refine xk_VI (As := [.int x1, .int x2]) (bb := 25) (rest := []) (idx := 167) (i0 := 167) (m1 := 8) (ps := [888, 889, 890]) (by decide +kernel) (by decide +kernel) (by decide) rfl ((gK_s (by decide)).trans (by decide +kernel)) (by decide) (Nat.le_of_ble_eq_true rfl) rfl h (fun y2 v1 h => ?_)
  refine xr_if_ne (tgt := 14) (off := 5) (by decide +kernel) (by decide) (fun hc => ?_) (fun hc => ?_)
  · replace h := h.1 hc
    refine xr_blk (lv1 := [(0, .ref 0), (1, .int x1), (2, .int x2), (3, .int x3)]) (st1 := [.int x2, .ref 49]) (S1 := rt v1) (pc1 := 19) [(.aload_n 0, .null, 0, 0), (.getfield 65, .null, 11, 7), (.iload_n 2, .null, 0, 0)] [] (by decide +kernel) rfl trivial ?_
    refine xk_VV (As := [.int x2]) (bb := 49) (rest := []) (idx := 218) (i0 := 218) (m1 := 52) (ps := [1031, 1032, 1033]) (by decide +kernel) (by decide +kernel) (by decide) rfl ((gK_s (by decide)).trans (by decide +kernel)) (by decide) (Nat.le_of_ble_eq_true rfl) rfl h (fun v3 h => ?_)
    refine xr_blk (lv1 := [(0, .ref 0), (1, .int x1), (2, .int x2), (3, .int x3)]) (st1 := [.int x2, .ref 67]) (S1 := rt v3) (pc1 := 27) [(.aload_n 0, .null, 0, 0), (.getfield 81, .null, 11, 9), (.iload_n 2, .null, 0, 0)] [] (by decide +kernel) rfl trivial ?_
    refine xk_VV (As := [.int x2]) (bb := 67) (rest := []) (idx := 221) (i0 := 221) (m1 := 90) (ps := [1040, 1041, 1042]) (by decide +kernel) (by decide +kernel) (by decide) rfl ((gK_s (by decide)).trans (by decide +kernel)) (by decide) (Nat.le_of_ble_eq_true rfl) rfl h (fun v4 h => ?_)
    refine xr_blk (lv1 := [(0, .ref 0), (1, .int x1), (2, .int x2), (3, .int x3)]) (st1 := [.int x3, .int x1, .ref 67]) (S1 := rt v4) (pc1 := 36) [(.aload_n 0, .null, 0, 0), (.getfield 81, .null, 11, 9), (.iload_n 1, .null, 0, 0), (.iload_n 3, .null, 0, 0)] [] (by decide +kernel) rfl trivial ?_
    refine xk_VI (As := [.int x1, .int x3]) (bb := 67) (rest := []) (idx := 243) (i0 := 243) (m1 := 92) (ps := [1172, 1173, 1174]) (by decide +kernel) (by decide +kernel) (by decide) rfl ((gK_s (by decide)).trans (by decide +kernel)) (by decide) (Nat.le_of_ble_eq_true rfl) rfl h (fun y6 v5 h => ?_)
    exact xr_iret (by decide +kernel) rfl ⟨_, _, rfl, rfl, h⟩
  · replace h := h.2 hc
    refine xr_blk (lv1 := [(0, .ref 0), (1, .int x1), (2, .int x2), (3, .int x3)]) (st1 := [.int (-1)]) (S1 := rt v1) (pc1 := 13) [(.iconst (-1), .int (-1), 0, 0)] [] (by decide +kernel) rfl trivial ?_
    exact xr_iret (by decide +kernel) rfl ⟨_, _, rfl, rfl, h⟩
theorem ok_134 : x_mOK 134 := ⟨x_tm5 (List.mem_of_getElem? (i := 111) rfl) rfl, 101, by decide +kernel⟩
/-! X11_laid: method 135, ScrawlHouse.laid(IIIZ)I -/
set_option maxRecDepth 100000 in
theorem w_X11_laid_0 {E : Nat × (Nat → Int32)} {d : Nat} {v : xV} {x1 : Int32} {x2 : Int32} {x3 : Int32} {x4 : Int32} {Q : Int32 → xV → Prop} (h : KI E d 83 [.ref 11, .int x1, .int x2] v (fun y2 v1 => ((¬ y2 = (nI 0) → KV E d 52 [.ref 49, .int x3] v1 (fun v3 => KV E d 90 [.ref 67, .int x3] v3 (fun v4 => KI E d 94 [.ref 67, .int x1, .int x2] v4 (fun y6 v5 => KI E d 92 [.ref 67, .int y6, .int x4] v5 (fun y8 v7 => Q y8 v7))))) ∧ (y2 = (nI 0) → Q (-1 : Int32) v1)))) : RI E (d + 1) 135 0 [(0, .ref 0), (1, .int x1), (2, .int x2), (3, .int x3), (4, .int x4)] v Q := by
  unfold RI
  refine xr_blk (lv1 := [(0, .ref 0), (1, .int x1), (2, .int x2), (3, .int x3), (4, .int x4)]) (st1 := [.int x2, .int x1, .ref 11]) (S1 := rt v) (pc1 := 6) [(.aload_n 0, .null, 0, 0), (.getfield 26, .null, 11, 2), (.iload_n 1, .null, 0, 0), (.iload_n 2, .null, 0, 0)] [] (by decide +kernel) rfl trivial ?_
  refine xk_VI (As := [.int x1, .int x2]) (bb := 11) (rest := []) (idx := 151) (i0 := 151) (m1 := 83) (ps := [854, 855, 856]) (by decide +kernel) (by decide +kernel) (by decide) rfl ((gK_s (by decide)).trans (by decide +kernel)) (by decide) (Nat.le_of_ble_eq_true rfl) rfl h (fun y2 v1 h => ?_)
  refine xr_if_ne (tgt := 14) (off := 5) (by decide +kernel) (by decide) (fun hc => ?_) (fun hc => ?_)
  · replace h := h.1 hc
    refine xr_blk (lv1 := [(0, .ref 0), (1, .int x1), (2, .int x2), (3, .int x3), (4, .int x4)]) (st1 := [.int x3, .ref 49]) (S1 := rt v1) (pc1 := 19) [(.aload_n 0, .null, 0, 0), (.getfield 65, .null, 11, 7), (.iload_n 3, .null, 0, 0)] [] (by decide +kernel) rfl trivial ?_
    refine xk_VV (As := [.int x3]) (bb := 49) (rest := []) (idx := 218) (i0 := 218) (m1 := 52) (ps := [1031, 1032, 1033]) (by decide +kernel) (by decide +kernel) (by decide) rfl ((gK_s (by decide)).trans (by decide +kernel)) (by decide) (Nat.le_of_ble_eq_true rfl) rfl h (fun v3 h => ?_)
    refine xr_blk (lv1 := [(0, .ref 0), (1, .int x1), (2, .int x2), (3, .int x3), (4, .int x4)]) (st1 := [.int x3, .ref 67]) (S1 := rt v3) (pc1 := 27) [(.aload_n 0, .null, 0, 0), (.getfield 81, .null, 11, 9), (.iload_n 3, .null, 0, 0)] [] (by decide +kernel) rfl trivial ?_
    refine xk_VV (As := [.int x3]) (bb := 67) (rest := []) (idx := 221) (i0 := 221) (m1 := 90) (ps := [1040, 1041, 1042]) (by decide +kernel) (by decide +kernel) (by decide) rfl ((gK_s (by decide)).trans (by decide +kernel)) (by decide) (Nat.le_of_ble_eq_true rfl) rfl h (fun v4 h => ?_)
    refine xr_blk (lv1 := [(0, .ref 0), (1, .int x1), (2, .int x2), (3, .int x3), (4, .int x4)]) (st1 := [.int x2, .int x1, .ref 67, .ref 67]) (S1 := rt v4) (pc1 := 40) [(.aload_n 0, .null, 0, 0), (.getfield 81, .null, 11, 9), (.aload_n 0, .null, 0, 0), (.getfield 81, .null, 11, 9), (.iload_n 1, .null, 0, 0), (.iload_n 2, .null, 0, 0)] [] (by decide +kernel) rfl trivial ?_
    refine xk_VI (As := [.int x1, .int x2]) (bb := 67) (rest := [.ref 67]) (idx := 247) (i0 := 247) (m1 := 94) (ps := [1180, 1062, 1063]) (by decide +kernel) (by decide +kernel) (by decide) rfl ((gK_s (by decide)).trans (by decide +kernel)) (by decide) (Nat.le_of_ble_eq_true rfl) rfl h (fun y6 v5 h => ?_)
    refine xr_blk (lv1 := [(0, .ref 0), (1, .int x1), (2, .int x2), (3, .int x3), (4, .int x4)]) (st1 := [.int x4, .int y6, .ref 67]) (S1 := rt v5) (pc1 := 45) [(.iload 4, .null, 0, 0)] [] (by decide +kernel) rfl trivial ?_
    refine xk_VI (As := [.int y6, .int x4]) (bb := 67) (rest := []) (idx := 243) (i0 := 243) (m1 := 92) (ps := [1172, 1173, 1174]) (by decide +kernel) (by decide +kernel) (by decide) rfl ((gK_s (by decide)).trans (by decide +kernel)) (by decide) (Nat.le_of_ble_eq_true rfl) rfl h (fun y8 v7 h => ?_)
    exact xr_iret (by decide +kernel) rfl ⟨_, _, rfl, rfl, h⟩
  · replace h := h.2 hc
    refine xr_blk (lv1 := [(0, .ref 0), (1, .int x1), (2, .int x2), (3, .int x3), (4, .int x4)]) (st1 := [.int (-1)]) (S1 := rt v1) (pc1 := 13) [(.iconst (-1), .int (-1), 0, 0)] [] (by decide +kernel) rfl trivial ?_
    exact xr_iret (by decide +kernel) rfl ⟨_, _, rfl, rfl, h⟩
theorem ok_135 : x_mOK 135 := ⟨x_tm5 (List.mem_of_getElem? (i := 119) rfl) rfl, 101, by decide +kernel⟩
/-! X11_spoilt: method 136, ScrawlHouse.spoilt(I)I -/
set_option maxRecDepth 100000 in
theorem w_X11_spoilt_0 {E : Nat × (Nat → Int32)} {d : Nat} {v : xV} {x1 : Int32} {Q : Int32 → xV → Prop} (h : KV E d 52 [.ref 49, .int x1] v (fun v1 => KV E d 90 [.ref 67, .int x1] v1 (fun v2 => (((gI v2 67 12) = (nI 0) → KI E d 91 [.ref 67, .int x1] v2 (fun y4 v3 => Q y4 v3)) ∧ (¬ (gI v2 67 12) = (nI 0) → Q (-1 : Int32) v2))))) : RI E (d + 1) 136 0 [(0, .ref 0), (1, .int x1)] v Q := by
  unfold RI
  refine xr_blk (lv1 := [(0, .ref 0), (1, .int x1)]) (st1 := [.int x1, .ref 49]) (S1 := rt v) (pc1 := 5) [(.aload_n 0, .null, 0, 0), (.getfield 65, .null, 11, 7), (.iload_n 1, .null, 0, 0)] [] (by decide +kernel) rfl trivial ?_
  refine xk_VV (As := [.int x1]) (bb := 49) (rest := []) (idx := 218) (i0 := 218) (m1 := 52) (ps := [1031, 1032, 1033]) (by decide +kernel) (by decide +kernel) (by decide) rfl ((gK_s (by decide)).trans (by decide +kernel)) (by decide) (Nat.le_of_ble_eq_true rfl) rfl h (fun v1 h => ?_)
  refine xr_blk (lv1 := [(0, .ref 0), (1, .int x1)]) (st1 := [.int x1, .ref 67]) (S1 := rt v1) (pc1 := 13) [(.aload_n 0, .null, 0, 0), (.getfield 81, .null, 11, 9), (.iload_n 1, .null, 0, 0)] [] (by decide +kernel) rfl trivial ?_
  refine xk_VV (As := [.int x1]) (bb := 67) (rest := []) (idx := 221) (i0 := 221) (m1 := 90) (ps := [1040, 1041, 1042]) (by decide +kernel) (by decide +kernel) (by decide) rfl ((gK_s (by decide)).trans (by decide +kernel)) (by decide) (Nat.le_of_ble_eq_true rfl) rfl h (fun v2 h => ?_)
  refine xr_blk (lv1 := [(0, .ref 0), (1, .int x1)]) (st1 := [.int (gI v2 67 12)]) (S1 := rt v2) (pc1 := 23) [(.aload_n 0, .null, 0, 0), (.getfield 81, .null, 11, 9), (.getfield 250, .null, 10, 12)] [] (by decide +kernel) rfl trivial ?_
  refine xr_if_eq (tgt := 30) (off := 7) (by decide +kernel) (by decide) (fun hc => ?_) (fun hc => ?_)
  · replace h := h.1 hc
    refine xr_blk (lv1 := [(0, .ref 0), (1, .int x1)]) (st1 := [.int x1, .ref 67]) (S1 := rt v2) (pc1 := 35) [(.aload_n 0, .null, 0, 0), (.getfield 81, .null, 11, 9), (.iload_n 1, .null, 0, 0)] [] (by decide +kernel) rfl trivial ?_
    refine xk_VI (As := [.int x1]) (bb := 67) (rest := []) (idx := 254) (i0 := 254) (m1 := 91) (ps := [1185, 1186, 1187]) (by decide +kernel) (by decide +kernel) (by decide) rfl ((gK_s (by decide)).trans (by decide +kernel)) (by decide) (Nat.le_of_ble_eq_true rfl) rfl h (fun y4 v3 h => ?_)
    exact xr_iret (by decide +kernel) rfl ⟨_, _, rfl, rfl, h⟩
  · replace h := h.2 hc
    refine xr_blk (lv1 := [(0, .ref 0), (1, .int x1)]) (st1 := [.int (-1)]) (S1 := rt v2) (pc1 := 27) [(.iconst (-1), .int (-1), 0, 0)] [] (by decide +kernel) rfl trivial ?_
    refine xr_goto (tgt := 38) (off := 11) (by decide +kernel) (by decide) ?_
    exact xr_iret (by decide +kernel) rfl ⟨_, _, rfl, rfl, h⟩
theorem ok_136 : x_mOK 136 := ⟨x_tm5 (List.mem_of_getElem? (i := 124) rfl) rfl, 101, by decide +kernel⟩
/-! X11_persons: method 137, ScrawlHouse.persons(II)I -/
set_option maxRecDepth 100000 in
theorem w_X11_persons_0 {E : Nat × (Nat → Int32)} {d : Nat} {v : xV} {x1 : Int32} {x2 : Int32} {Q : Int32 → xV → Prop} (h : KI E d 31 [.ref 3, .int x1, .int (nI 0)] v (fun y2 v1 => ((¬ y2 = (nI 0) → KV E d 52 [.ref 49, .int x2] v1 (fun v3 => KV E d 90 [.ref 67, .int x2] v3 (fun v4 => KV E d 16 [.ref 74, .int x1, .int x2] v4 (fun v5 => Q (gI v5 74 9) v5)))) ∧ (y2 = (nI 0) → Q (-1 : Int32) v1)))) : RI E (d + 1) 137 0 [(0, .ref 0), (1, .int x1), (2, .int x2)] v Q := by
  unfold RI
  refine xr_blk (lv1 := [(0, .ref 0), (1, .int x1), (2, .int x2)]) (st1 := [.int (nI 0), .int x1, .ref 3]) (S1 := rt v) (pc1 := 6) [(.aload_n 0, .null, 0, 0), (.getfield 19, .null, 11, 1), (.iload_n 1, .null, 0, 0), (.iconst 0, .int (nI 0), 0, 0)] [] (by decide +kernel) rfl trivial ?_
  refine xk_VI (As := [.int x1, .int (nI 0)]) (bb := 3) (rest := []) (idx := 258) (i0 := 258) (m1 := 31) (ps := [1157, 1158, 1159]) (by decide +kernel) (by decide +kernel) (by decide) rfl ((gK_s (by decide)).trans (by decide +kernel)) (by decide) (Nat.le_of_ble_eq_true rfl) rfl h (fun y2 v1 h => ?_)
  refine xr_if_ne (tgt := 14) (off := 5) (by decide +kernel) (by decide) (fun hc => ?_) (fun hc => ?_)
  · replace h := h.1 hc
    refine xr_blk (lv1 := [(0, .ref 0), (1, .int x1), (2, .int x2)]) (st1 := [.int x2, .ref 49]) (S1 := rt v1) (pc1 := 19) [(.aload_n 0, .null, 0, 0), (.getfield 65, .null, 11, 7), (.iload_n 2, .null, 0, 0)] [] (by decide +kernel) rfl trivial ?_
    refine xk_VV (As := [.int x2]) (bb := 49) (rest := []) (idx := 218) (i0 := 218) (m1 := 52) (ps := [1031, 1032, 1033]) (by decide +kernel) (by decide +kernel) (by decide) rfl ((gK_s (by decide)).trans (by decide +kernel)) (by decide) (Nat.le_of_ble_eq_true rfl) rfl h (fun v3 h => ?_)
    refine xr_blk (lv1 := [(0, .ref 0), (1, .int x1), (2, .int x2)]) (st1 := [.int x2, .ref 67]) (S1 := rt v3) (pc1 := 27) [(.aload_n 0, .null, 0, 0), (.getfield 81, .null, 11, 9), (.iload_n 2, .null, 0, 0)] [] (by decide +kernel) rfl trivial ?_
    refine xk_VV (As := [.int x2]) (bb := 67) (rest := []) (idx := 221) (i0 := 221) (m1 := 90) (ps := [1040, 1041, 1042]) (by decide +kernel) (by decide +kernel) (by decide) rfl ((gK_s (by decide)).trans (by decide +kernel)) (by decide) (Nat.le_of_ble_eq_true rfl) rfl h (fun v4 h => ?_)
    refine xr_blk (lv1 := [(0, .ref 0), (1, .int x1), (2, .int x2)]) (st1 := [.int x2, .int x1, .ref 74]) (S1 := rt v4) (pc1 := 36) [(.aload_n 0, .null, 0, 0), (.getfield 90, .null, 11, 10), (.iload_n 1, .null, 0, 0), (.iload_n 2, .null, 0, 0)] [] (by decide +kernel) rfl trivial ?_
    refine xk_VV (As := [.int x1, .int x2]) (bb := 74) (rest := []) (idx := 261) (i0 := 261) (m1 := 16) (ps := [1193, 1194, 1195]) (by decide +kernel) (by decide +kernel) (by decide) rfl ((gK_s (by decide)).trans (by decide +kernel)) (by decide) (Nat.le_of_ble_eq_true rfl) rfl h (fun v5 h => ?_)
    refine xr_blk (lv1 := [(0, .ref 0), (1, .int x1), (2, .int x2)]) (st1 := [.int (gI v5 74 9)]) (S1 := rt v5) (pc1 := 46) [(.aload_n 0, .null, 0, 0), (.getfield 90, .null, 11, 10), (.getfield 264, .null, 2, 9)] [] (by decide +kernel) rfl trivial ?_
    exact xr_iret (by decide +kernel) rfl ⟨_, _, rfl, rfl, h⟩
  · replace h := h.2 hc
    refine xr_blk (lv1 := [(0, .ref 0), (1, .int x1), (2, .int x2)]) (st1 := [.int (-1)]) (S1 := rt v1) (pc1 := 13) [(.iconst (-1), .int (-1), 0, 0)] [] (by decide +kernel) rfl trivial ?_
    exact xr_iret (by decide +kernel) rfl ⟨_, _, rfl, rfl, h⟩
theorem ok_137 : x_mOK 137 := ⟨x_tm5 (List.mem_of_getElem? (i := 132) rfl) rfl, 101, by decide +kernel⟩
/-! X11_person: method 138, ScrawlHouse.person(II)I -/
set_option maxRecDepth 100000 in
theorem w_X11_person_0 {E : Nat × (Nat → Int32)} {d : Nat} {v : xV} {x1 : Int32} {x2 : Int32} {Q : Int32 → xV → Prop} (h : KI E d 8 [.ref 25, .int x1, .int x2] v (fun y2 v1 => ((¬ y2 = (nI 0) → KV E d 52 [.ref 49, .int x2] v1 (fun v3 => KI E d 74 [.ref 38, .int x1, .int (nI 0)] v3 (fun y5 v4 => ((¬ y5 = (-1 : Int32) → KV E d 90 [.ref 67, .int x2] v4 (fun v6 => KV E d 16 [.ref 74, .int y5, .int x2] v6 (fun v7 => KI E d 22 [.ref 74, .int x1] v7 (fun y9 v8 => Q y9 v8)))) ∧ (y5 = (-1 : Int32) → Q (-1 : Int32) v4))))) ∧ (y2 = (nI 0) → Q (-1 : Int32) v1)))) : RI E (d + 1) 138 0 [(0, .ref 0), (1, .int x1), (2, .int x2)] v Q := by
  unfold RI
  refine xr_blk (lv1 := [(0, .ref 0), (1, .int x1), (2, .int x2)]) (st1 := [.int x2, .int x1, .ref 25]) (S1 := rt v) (pc1 := 6) [(.aload_n 0, .null, 0, 0), (.getfield 49, .null, 11, 5), (.iload_n 1, .null, 0, 0), (.iload_n 2, .null, 0, 0)] [] (by decide +kernel) rfl trivial ?_
  refine xk_VI (As := [.int x1, .int x2]) (bb := 25) (rest := []) (idx := 167) (i0 := 167) (m1 := 8) (ps := [888, 889, 890]) (by decide +kernel) (by decide +kernel) (by decide) rfl ((gK_s (by decide)).trans (by decide +kernel)) (by decide) (Nat.le_of_ble_eq_true rfl) rfl h (fun y2 v1 h => ?_)
  refine xr_if_ne (tgt := 14) (off := 5) (by decide +kernel) (by decide) (fun hc => ?_) (fun hc => ?_)
  · replace h := h.1 hc
    refine xr_blk (lv1 := [(0, .ref 0), (1, .int x1), (2, .int x2)]) (st1 := [.int x2, .ref 49]) (S1 := rt v1) (pc1 := 19) [(.aload_n 0, .null, 0, 0), (.getfield 65, .null, 11, 7), (.iload_n 2, .null, 0, 0)] [] (by decide +kernel) rfl trivial ?_
    refine xk_VV (As := [.int x2]) (bb := 49) (rest := []) (idx := 218) (i0 := 218) (m1 := 52) (ps := [1031, 1032, 1033]) (by decide +kernel) (by decide +kernel) (by decide) rfl ((gK_s (by decide)).trans (by decide +kernel)) (by decide) (Nat.le_of_ble_eq_true rfl) rfl h (fun v3 h => ?_)
    refine xr_blk (lv1 := [(0, .ref 0), (1, .int x1), (2, .int x2)]) (st1 := [.int (nI 0), .int x1, .ref 38]) (S1 := rt v3) (pc1 := 28) [(.aload_n 0, .null, 0, 0), (.getfield 56, .null, 11, 6), (.iload_n 1, .null, 0, 0), (.iconst 0, .int (nI 0), 0, 0)] [] (by decide +kernel) rfl trivial ?_
    refine xk_VI (As := [.int x1, .int (nI 0)]) (bb := 38) (rest := []) (idx := 206) (i0 := 206) (m1 := 74) (ps := [1014, 995, 996]) (by decide +kernel) (by decide +kernel) (by decide) rfl ((gK_s (by decide)).trans (by decide +kernel)) (by decide) (Nat.le_of_ble_eq_true rfl) rfl h (fun y5 v4 h => ?_)
    refine xr_blk (lv1 := [(3, .int y5), (0, .ref 0), (1, .int x1), (2, .int x2)]) (st1 := [.int (-1), .int y5]) (S1 := rt v4) (pc1 := 34) [(.istore_n 3, .null, 0, 0), (.iload_n 3, .null, 0, 0), (.iconst (-1), .int (-1), 0, 0)] [] (by decide +kernel) rfl trivial ?_
    refine xr_ic_ne (tgt := 39) (off := 5) (by decide +kernel) (by decide) (fun hc => ?_) (fun hc => ?_)
    · replace h := h.1 hc
      refine xr_blk (lv1 := [(3, .int y5), (0, .ref 0), (1, .int x1), (2, .int x2)]) (st1 := [.int x2, .ref 67]) (S1 := rt v4) (pc1 := 44) [(.aload_n 0, .null, 0, 0), (.getfield 81, .null, 11, 9), (.iload_n 2, .null, 0, 0)] [] (by decide +kernel) rfl trivial ?_
      refine xk_VV (As := [.int x2]) (bb := 67) (rest := []) (idx := 221) (i0 := 221) (m1 := 90) (ps := [1040, 1041, 1042]) (by decide +kernel) (by decide +kernel) (by decide) rfl ((gK_s (by decide)).trans (by decide +kernel)) (by decide) (Nat.le_of_ble_eq_true rfl) rfl h (fun v6 h => ?_)
      refine xr_blk (lv1 := [(3, .int y5), (0, .ref 0), (1, .int x1), (2, .int x2)]) (st1 := [.int x2, .int y5, .ref 74]) (S1 := rt v6) (pc1 := 53) [(.aload_n 0, .null, 0, 0), (.getfield 90, .null, 11, 10), (.iload_n 3, .null, 0, 0), (.iload_n 2, .null, 0, 0)] [] (by decide +kernel) rfl trivial ?_
      refine xk_VV (As := [.int y5, .int x2]) (bb := 74) (rest := []) (idx := 261) (i0 := 261) (m1 := 16) (ps := [1193, 1194, 1195]) (by decide +kernel) (by decide +kernel) (by decide) rfl ((gK_s (by decide)).trans (by decide +kernel)) (by decide) (Nat.le_of_ble_eq_true rfl) rfl h (fun v7 h => ?_)
      refine xr_blk (lv1 := [(3, .int y5), (0, .ref 0), (1, .int x1), (2, .int x2)]) (st1 := [.int x1, .ref 74]) (S1 := rt v7) (pc1 := 61) [(.aload_n 0, .null, 0, 0), (.getfield 90, .null, 11, 10), (.iload_n 1, .null, 0, 0)] [] (by decide +kernel) rfl trivial ?_
      refine xk_VI (As := [.int x1]) (bb := 74) (rest := []) (idx := 267) (i0 := 267) (m1 := 22) (ps := [1222, 1223, 1224]) (by decide +kernel) (by decide +kernel) (by decide) rfl ((gK_s (by decide)).trans (by decide +kernel)) (by decide) (Nat.le_of_ble_eq_true rfl) rfl h (fun y9 v8 h => ?_)
      exact xr_iret (by decide +kernel) rfl ⟨_, _, rfl, rfl, h⟩
    · replace h := h.2 hc
      refine xr_blk (lv1 := [(3, .int y5), (0, .ref 0), (1, .int x1), (2, .int x2)]) (st1 := [.int (-1)]) (S1 := rt v4) (pc1 := 38) [(.iconst (-1), .int (-1), 0, 0)] [] (by decide +kernel) rfl trivial ?_
      exact xr_iret (by decide +kernel) rfl ⟨_, _, rfl, rfl, h⟩
  · replace h := h.2 hc
    refine xr_blk (lv1 := [(0, .ref 0), (1, .int x1), (2, .int x2)]) (st1 := [.int (-1)]) (S1 := rt v1) (pc1 := 13) [(.iconst (-1), .int (-1), 0, 0)] [] (by decide +kernel) rfl trivial ?_
    exact xr_iret (by decide +kernel) rfl ⟨_, _, rfl, rfl, h⟩
theorem ok_138 : x_mOK 138 := ⟨x_tm5 (List.mem_of_getElem? (i := 161) rfl) rfl, 101, by decide +kernel⟩
/-! X11_walk: method 139, ScrawlHouse.walk(III)I -/
set_option maxRecDepth 100000 in
theorem w_X11_walk_0 {E : Nat × (Nat → Int32)} {d : Nat} {v : xV} {x1 : Int32} {x2 : Int32} {x3 : Int32} {Q : Int32 → xV → Prop} (h : KI E d 31 [.ref 3, .int x1, .int (nI 0)] v (fun y2 v1 => ((¬ y2 = (nI 0) → KV E d 52 [.ref 49, .int x3] v1 (fun v3 => KV E d 90 [.ref 67, .int x3] v3 (fun v4 => KV E d 16 [.ref 74, .int x1, .int x3] v4 (fun v5 => ((x2 < (nI 0) → Q (-1 : Int32) v5) ∧ (¬ x2 < (nI 0) → ((x2 < (gI v5 74 9) → KI E d 23 [.ref 74, .int x2] v5 (fun y7 v6 => KI E d 85 [.ref 11, .int y7] v6 (fun y9 v8 => Q y9 v8))) ∧ (¬ x2 < (gI v5 74 9) → Q (-1 : Int32) v5)))))))) ∧ (y2 = (nI 0) → Q (-1 : Int32) v1)))) : RI E (d + 1) 139 0 [(0, .ref 0), (1, .int x1), (2, .int x2), (3, .int x3)] v Q := by
  unfold RI
  refine xr_blk (lv1 := [(0, .ref 0), (1, .int x1), (2, .int x2), (3, .int x3)]) (st1 := [.int (nI 0), .int x1, .ref 3]) (S1 := rt v) (pc1 := 6) [(.aload_n 0, .null, 0, 0), (.getfield 19, .null, 11, 1), (.iload_n 1, .null, 0, 0), (.iconst 0, .int (nI 0), 0, 0)] [] (by decide +kernel) rfl trivial ?_
  refine xk_VI (As := [.int x1, .int (nI 0)]) (bb := 3) (rest := []) (idx := 258) (i0 := 258) (m1 := 31) (ps := [1157, 1158, 1159]) (by decide +kernel) (by decide +kernel) (by decide) rfl ((gK_s (by decide)).trans (by decide +kernel)) (by decide) (Nat.le_of_ble_eq_true rfl) rfl h (fun y2 v1 h => ?_)
  refine xr_if_ne (tgt := 14) (off := 5) (by decide +kernel) (by decide) (fun hc => ?_) (fun hc => ?_)
  · replace h := h.1 hc
    refine xr_blk (lv1 := [(0, .ref 0), (1, .int x1), (2, .int x2), (3, .int x3)]) (st1 := [.int x3, .ref 49]) (S1 := rt v1) (pc1 := 19) [(.aload_n 0, .null, 0, 0), (.getfield 65, .null, 11, 7), (.iload_n 3, .null, 0, 0)] [] (by decide +kernel) rfl trivial ?_
    refine xk_VV (As := [.int x3]) (bb := 49) (rest := []) (idx := 218) (i0 := 218) (m1 := 52) (ps := [1031, 1032, 1033]) (by decide +kernel) (by decide +kernel) (by decide) rfl ((gK_s (by decide)).trans (by decide +kernel)) (by decide) (Nat.le_of_ble_eq_true rfl) rfl h (fun v3 h => ?_)
    refine xr_blk (lv1 := [(0, .ref 0), (1, .int x1), (2, .int x2), (3, .int x3)]) (st1 := [.int x3, .ref 67]) (S1 := rt v3) (pc1 := 27) [(.aload_n 0, .null, 0, 0), (.getfield 81, .null, 11, 9), (.iload_n 3, .null, 0, 0)] [] (by decide +kernel) rfl trivial ?_
    refine xk_VV (As := [.int x3]) (bb := 67) (rest := []) (idx := 221) (i0 := 221) (m1 := 90) (ps := [1040, 1041, 1042]) (by decide +kernel) (by decide +kernel) (by decide) rfl ((gK_s (by decide)).trans (by decide +kernel)) (by decide) (Nat.le_of_ble_eq_true rfl) rfl h (fun v4 h => ?_)
    refine xr_blk (lv1 := [(0, .ref 0), (1, .int x1), (2, .int x2), (3, .int x3)]) (st1 := [.int x3, .int x1, .ref 74]) (S1 := rt v4) (pc1 := 36) [(.aload_n 0, .null, 0, 0), (.getfield 90, .null, 11, 10), (.iload_n 1, .null, 0, 0), (.iload_n 3, .null, 0, 0)] [] (by decide +kernel) rfl trivial ?_
    refine xk_VV (As := [.int x1, .int x3]) (bb := 74) (rest := []) (idx := 261) (i0 := 261) (m1 := 16) (ps := [1193, 1194, 1195]) (by decide +kernel) (by decide +kernel) (by decide) rfl ((gK_s (by decide)).trans (by decide +kernel)) (by decide) (Nat.le_of_ble_eq_true rfl) rfl h (fun v5 h => ?_)
    refine xr_blk (lv1 := [(0, .ref 0), (1, .int x1), (2, .int x2), (3, .int x3)]) (st1 := [.int x2]) (S1 := rt v5) (pc1 := 40) [(.iload_n 2, .null, 0, 0)] [] (by decide +kernel) rfl trivial ?_
    refine xr_if_lt (tgt := 54) (off := 14) (by decide +kernel) (by decide) (fun hc => ?_) (fun hc => ?_)
    · replace h := h.1 hc
      refine xr_blk (lv1 := [(0, .ref 0), (1, .int x1), (2, .int x2), (3, .int x3)]) (st1 := [.int (-1)]) (S1 := rt v5) (pc1 := 55) [(.iconst (-1), .int (-1), 0, 0)] [] (by decide +kernel) rfl trivial ?_
      exact xr_iret (by decide +kernel) rfl ⟨_, _, rfl, rfl, h⟩
    · replace h := h.2 hc
      refine xr_blk (lv1 := [(0, .ref 0), (1, .int x1), (2, .int x2), (3, .int x3)]) (st1 := [.int (gI v5 74 9), .int x2]) (S1 := rt v5) (pc1 := 51) [(.iload_n 2, .null, 0, 0), (.aload_n 0, .null, 0, 0), (.getfield 90, .null, 11, 10), (.getfield 264, .null, 2, 9)] [] (by decide +kernel) rfl trivial ?_
      refine xr_ic_lt (tgt := 56) (off := 5) (by decide +kernel) (by decide) (fun hc => ?_) (fun hc => ?_)
      · replace h := h.1 hc
        refine xr_blk (lv1 := [(0, .ref 0), (1, .int x1), (2, .int x2), (3, .int x3)]) (st1 := [.int x2, .ref 74, .ref 11]) (S1 := rt v5) (pc1 := 65) [(.aload_n 0, .null, 0, 0), (.getfield 26, .null, 11, 2), (.aload_n 0, .null, 0, 0), (.getfield 90, .null, 11, 10), (.iload_n 2, .null, 0, 0)] [] (by decide +kernel) rfl trivial ?_
        refine xk_VI (As := [.int x2]) (bb := 74) (rest := [.ref 11]) (idx := 270) (i0 := 270) (m1 := 23) (ps := [1230, 1231, 1232]) (by decide +kernel) (by decide +kernel) (by decide) rfl ((gK_s (by decide)).trans (by decide +kernel)) (by decide) (Nat.le_of_ble_eq_true rfl) rfl h (fun y7 v6 h => ?_)
        refine xk_VI (As := [.int y7]) (bb := 11) (rest := []) (idx := 273) (i0 := 273) (m1 := 85) (ps := [1234, 1235, 1236]) (by decide +kernel) (by decide +kernel) (by decide) rfl ((gK_s (by decide)).trans (by decide +kernel)) (by decide) (Nat.le_of_ble_eq_true rfl) rfl h (fun y9 v8 h => ?_)
        exact xr_iret (by decide +kernel) rfl ⟨_, _, rfl, rfl, h⟩
      · replace h := h.2 hc
        refine xr_blk (lv1 := [(0, .ref 0), (1, .int x1), (2, .int x2), (3, .int x3)]) (st1 := [.int (-1)]) (S1 := rt v5) (pc1 := 55) [(.iconst (-1), .int (-1), 0, 0)] [] (by decide +kernel) rfl trivial ?_
        exact xr_iret (by decide +kernel) rfl ⟨_, _, rfl, rfl, h⟩
  · replace h := h.2 hc
    refine xr_blk (lv1 := [(0, .ref 0), (1, .int x1), (2, .int x2), (3, .int x3)]) (st1 := [.int (-1)]) (S1 := rt v1) (pc1 := 13) [(.iconst (-1), .int (-1), 0, 0)] [] (by decide +kernel) rfl trivial ?_
    exact xr_iret (by decide +kernel) rfl ⟨_, _, rfl, rfl, h⟩
theorem ok_139 : x_mOK 139 := ⟨x_tm5 (List.mem_of_getElem? (i := 169) rfl) rfl, 101, by decide +kernel⟩
/-! X11_count: method 140, ScrawlHouse.count(I)I -/
set_option maxRecDepth 100000 in
theorem w_X11_count_0 {E : Nat × (Nat → Int32)} {d : Nat} {v : xV} {x1 : Int32} {Q : Int32 → xV → Prop} (h : ((((x1).toInt < 0 ∨ 10 < (x1).toInt) → Q (-1 : Int32) v) ∧ (x1 = nI 0 → Q (gI v 0 13) v) ∧ (x1 = nI 1 → Q (gI v 3 7) v) ∧ (x1 = nI 2 → Q (gI v 11 6) v) ∧ (x1 = nI 3 → Q (gI v 11 7) v) ∧ (x1 = nI 4 → Q (gI v 21 4) v) ∧ (x1 = nI 5 → Q (gI v 25 12) v) ∧ (x1 = nI 6 → Q (gI v 25 13) v) ∧ (x1 = nI 7 → Q (gI v 25 14) v) ∧ (x1 = nI 8 → Q (gI v 60 6) v) ∧ (x1 = nI 9 → Q (gI v 1 1) v) ∧ (x1 = nI 10 → Q (gI v 0 12) v))) : RI E d 140 0 [(0, .ref 0), (1, .int x1)] v Q := by
  unfold RI
  refine xr_blk (lv1 := [(0, .ref 0), (1, .int x1)]) (st1 := [.int x1]) (S1 := rt v) (pc1 := 1) [(.iload_n 1, .null, 0, 0)] [] (by decide +kernel) rfl trivial ?_
  refine xr_tsw (by decide +kernel : decode (x_mB 140) 1 = .ok (.tableswitch 141 0 10 #[59, 64, 72, 80, 88, 96, 104, 112, 120, 128, 136], 59)) 142 (by decide) (fun hc => ?_) (fun hc => ?_)
  · replace h := h.1 hc
    refine xr_blk (lv1 := [(0, .ref 0), (1, .int x1)]) (st1 := [.int (-1)]) (S1 := rt v) (pc1 := 143) [(.iconst (-1), .int (-1), 0, 0)] [] (by decide +kernel) rfl trivial ?_
    exact xr_iret (by decide +kernel) rfl ⟨_, _, rfl, rfl, h⟩
  · replace h := h.2
    have hr : x1 = 0 ∨ x1 = 1 ∨ x1 = 2 ∨ x1 = 3 ∨ x1 = 4 ∨ x1 = 5 ∨ x1 = 6 ∨ x1 = 7 ∨ x1 = 8 ∨ x1 = 9 ∨ x1 = 10 := x_sw11 hc
    rcases hr with hr | hr | hr | hr | hr | hr | hr | hr | hr | hr | hr
    · refine ⟨59, 60, by rw [hr]; decide +kernel, by decide, ?_⟩
      replace h := h.1 hr
      refine xr_blk (lv1 := [(0, .ref 0), (1, .int x1)]) (st1 := [.int (gI v 0 13)]) (S1 := rt v) (pc1 := 64) [(.aload_n 0, .null, 0, 0), (.getfield 102, .null, 11, 13)] [] (by decide +kernel) rfl trivial ?_
      exact xr_iret (by decide +kernel) rfl ⟨_, _, rfl, rfl, h⟩
    · refine ⟨64, 65, by rw [hr]; decide +kernel, by decide, ?_⟩
      replace h := h.2.1 hr
      refine xr_blk (lv1 := [(0, .ref 0), (1, .int x1)]) (st1 := [.int (gI v 3 7)]) (S1 := rt v) (pc1 := 72) [(.aload_n 0, .null, 0, 0), (.getfield 19, .null, 11, 1), (.getfield 276, .null, 3, 7)] [] (by decide +kernel) rfl trivial ?_
      exact xr_iret (by decide +kernel) rfl ⟨_, _, rfl, rfl, h⟩
    · refine ⟨72, 73, by rw [hr]; decide +kernel, by decide, ?_⟩
      replace h := h.2.2.1 hr
      refine xr_blk (lv1 := [(0, .ref 0), (1, .int x1)]) (st1 := [.int (gI v 11 6)]) (S1 := rt v) (pc1 := 80) [(.aload_n 0, .null, 0, 0), (.getfield 26, .null, 11, 2), (.getfield 278, .null, 9, 6)] [] (by decide +kernel) rfl trivial ?_
      exact xr_iret (by decide +kernel) rfl ⟨_, _, rfl, rfl, h⟩
    · refine ⟨80, 81, by rw [hr]; decide +kernel, by decide, ?_⟩
      replace h := h.2.2.2.1 hr
      refine xr_blk (lv1 := [(0, .ref 0), (1, .int x1)]) (st1 := [.int (gI v 11 7)]) (S1 := rt v) (pc1 := 88) [(.aload_n 0, .null, 0, 0), (.getfield 26, .null, 11, 2), (.getfield 281, .null, 9, 7)] [] (by decide +kernel) rfl trivial ?_
      exact xr_iret (by decide +kernel) rfl ⟨_, _, rfl, rfl, h⟩
    · refine ⟨88, 89, by rw [hr]; decide +kernel, by decide, ?_⟩
      replace h := h.2.2.2.2.1 hr
      refine xr_blk (lv1 := [(0, .ref 0), (1, .int x1)]) (st1 := [.int (gI v 21 4)]) (S1 := rt v) (pc1 := 96) [(.aload_n 0, .null, 0, 0), (.getfield 42, .null, 11, 4), (.getfield 145, .null, 4, 4)] [] (by decide +kernel) rfl trivial ?_
      exact xr_iret (by decide +kernel) rfl ⟨_, _, rfl, rfl, h⟩
    · refine ⟨96, 97, by rw [hr]; decide +kernel, by decide, ?_⟩
      replace h := h.2.2.2.2.2.1 hr
      refine xr_blk (lv1 := [(0, .ref 0), (1, .int x1)]) (st1 := [.int (gI v 25 12)]) (S1 := rt v) (pc1 := 104) [(.aload_n 0, .null, 0, 0), (.getfield 49, .null, 11, 5), (.getfield 284, .null, 1, 12)] [] (by decide +kernel) rfl trivial ?_
      exact xr_iret (by decide +kernel) rfl ⟨_, _, rfl, rfl, h⟩
    · refine ⟨104, 105, by rw [hr]; decide +kernel, by decide, ?_⟩
      replace h := h.2.2.2.2.2.2.1 hr
      refine xr_blk (lv1 := [(0, .ref 0), (1, .int x1)]) (st1 := [.int (gI v 25 13)]) (S1 := rt v) (pc1 := 112) [(.aload_n 0, .null, 0, 0), (.getfield 49, .null, 11, 5), (.getfield 287, .null, 1, 13)] [] (by decide +kernel) rfl trivial ?_
      exact xr_iret (by decide +kernel) rfl ⟨_, _, rfl, rfl, h⟩
    · refine ⟨112, 113, by rw [hr]; decide +kernel, by decide, ?_⟩
      replace h := h.2.2.2.2.2.2.2.1 hr
      refine xr_blk (lv1 := [(0, .ref 0), (1, .int x1)]) (st1 := [.int (gI v 25 14)]) (S1 := rt v) (pc1 := 120) [(.aload_n 0, .null, 0, 0), (.getfield 49, .null, 11, 5), (.getfield 290, .null, 1, 14)] [] (by decide +kernel) rfl trivial ?_
      exact xr_iret (by decide +kernel) rfl ⟨_, _, rfl, rfl, h⟩
    · refine ⟨120, 121, by rw [hr]; decide +kernel, by decide, ?_⟩
      replace h := h.2.2.2.2.2.2.2.2.1 hr
      refine xr_blk (lv1 := [(0, .ref 0), (1, .int x1)]) (st1 := [.int (gI v 60 6)]) (S1 := rt v) (pc1 := 128) [(.aload_n 0, .null, 0, 0), (.getfield 72, .null, 11, 8), (.getfield 236, .null, 0, 6)] [] (by decide +kernel) rfl trivial ?_
      exact xr_iret (by decide +kernel) rfl ⟨_, _, rfl, rfl, h⟩
    · refine ⟨128, 129, by rw [hr]; decide +kernel, by decide, ?_⟩
      replace h := h.2.2.2.2.2.2.2.2.2.1 hr
      refine xr_blk (lv1 := [(0, .ref 0), (1, .int x1)]) (st1 := [.int (gI v 1 1)]) (S1 := rt v) (pc1 := 136) [(.aload_n 0, .null, 0, 0), (.getfield 12, .null, 11, 0), (.getfield 105, .null, 8, 1)] [] (by decide +kernel) rfl trivial ?_
      exact xr_iret (by decide +kernel) rfl ⟨_, _, rfl, rfl, h⟩
    · refine ⟨136, 137, by rw [hr]; decide +kernel, by decide, ?_⟩
      replace h := h.2.2.2.2.2.2.2.2.2.2 hr
      refine xr_blk (lv1 := [(0, .ref 0), (1, .int x1)]) (st1 := [.int (gI v 0 12)]) (S1 := rt v) (pc1 := 141) [(.aload_n 0, .null, 0, 0), (.getfield 98, .null, 11, 12)] [] (by decide +kernel) rfl trivial ?_
      exact xr_iret (by decide +kernel) rfl ⟨_, _, rfl, rfl, h⟩
theorem ok_140 : x_mOK 140 := ⟨x_tm5 (List.mem_of_getElem? (i := 193) rfl) rfl, 101, by decide +kernel⟩
/-! X11_isAbout: method 141, ScrawlHouse.isAbout(III)Z -/
set_option maxRecDepth 100000 in
theorem w_X11_isAbout_0 {E : Nat × (Nat → Int32)} {d : Nat} {v : xV} {x1 : Int32} {x2 : Int32} {x3 : Int32} {Q : Int32 → xV → Prop} (h : ((((x1).toInt < 0 ∨ 4 < (x1).toInt) → Q (nI 0) v) ∧ (x1 = nI 0 → KI E d 83 [.ref 11, .int x2, .int x3] v (fun y2 v1 => vp_in y2 2 ∧ Q y2 v1)) ∧ (x1 = nI 1 → KI E d 7 [.ref 25, .int x2] v (fun y4 v3 => vp_in y4 2 ∧ Q y4 v3)) ∧ (x1 = nI 2 → KI E d 7 [.ref 25, .int x2] v (fun y6 v5 => ((y6 = (nI 0) → Q (nI 0) v5) ∧ (¬ y6 = (nI 0) → KI E d 7 [.ref 25, .int x3] v5 (fun y8 v7 => ((y8 = (nI 0) → Q (nI 0) v7) ∧ (¬ y8 = (nI 0) → ((x2 = x3 → Q (nI 0) v7) ∧ (¬ x2 = x3 → Q (nI 1) v7))))))))) ∧ (x1 = nI 3 → KI E d 31 [.ref 3, .int x2, .int (nI 0)] v (fun y10 v9 => ((y10 = (nI 0) → Q (nI 0) v9) ∧ (¬ y10 = (nI 0) → KI E d 31 [.ref 3, .int x3, .int (nI 2)] v9 (fun y12 v11 => ((y12 = (nI 0) → Q (nI 0) v11) ∧ (¬ y12 = (nI 0) → Q (nI 1) v11))))))) ∧ (x1 = nI 4 → KI E d 31 [.ref 3, .int x2, .int (nI 3)] v (fun y14 v13 => vp_in y14 2 ∧ Q y14 v13)))) : RI E (d + 1) 141 0 [(0, .ref 0), (1, .int x1), (2, .int x2), (3, .int x3)] v Q := by
  unfold RI
  refine xr_blk (lv1 := [(0, .ref 0), (1, .int x1), (2, .int x2), (3, .int x3)]) (st1 := [.int x1]) (S1 := rt v) (pc1 := 1) [(.iload_n 1, .null, 0, 0)] [] (by decide +kernel) rfl trivial ?_
  refine xr_tsw (by decide +kernel : decode (x_mB 141) 1 = .ok (.tableswitch 127 0 4 #[35, 45, 54, 87, 117], 35)) 128 (by decide) (fun hc => ?_) (fun hc => ?_)
  · replace h := h.1 hc
    refine xr_blk (lv1 := [(0, .ref 0), (1, .int x1), (2, .int x2), (3, .int x3)]) (st1 := [.int (nI 0)]) (S1 := rt v) (pc1 := 129) [(.iconst 0, .int (nI 0), 0, 0)] [] (by decide +kernel) rfl trivial ?_
    exact xr_zret (by decide +kernel) rfl x_in2_0 ⟨_, _, rfl, rfl, h⟩
  · replace h := h.2
    have hr : x1 = 0 ∨ x1 = 1 ∨ x1 = 2 ∨ x1 = 3 ∨ x1 = 4 := x_sw5 hc
    rcases hr with hr | hr | hr | hr | hr
    · refine ⟨35, 36, by rw [hr]; decide +kernel, by decide, ?_⟩
      replace h := h.1 hr
      refine xr_blk (lv1 := [(0, .ref 0), (1, .int x1), (2, .int x2), (3, .int x3)]) (st1 := [.int x3, .int x2, .ref 11]) (S1 := rt v) (pc1 := 42) [(.aload_n 0, .null, 0, 0), (.getfield 26, .null, 11, 2), (.iload_n 2, .null, 0, 0), (.iload_n 3, .null, 0, 0)] [] (by decide +kernel) rfl trivial ?_
      refine xk_VI (As := [.int x2, .int x3]) (bb := 11) (rest := []) (idx := 151) (i0 := 151) (m1 := 83) (ps := [854, 855, 856]) (by decide +kernel) (by decide +kernel) (by decide) rfl ((gK_s (by decide)).trans (by decide +kernel)) (by decide) (Nat.le_of_ble_eq_true rfl) rfl h (fun y2 v1 h => ?_)
      obtain ⟨hz, h⟩ := h
      exact xr_zret (by decide +kernel) rfl hz ⟨_, _, rfl, rfl, h⟩
    · refine ⟨45, 46, by rw [hr]; decide +kernel, by decide, ?_⟩
      replace h := h.2.1 hr
      refine xr_blk (lv1 := [(0, .ref 0), (1, .int x1), (2, .int x2), (3, .int x3)]) (st1 := [.int x2, .ref 25]) (S1 := rt v) (pc1 := 51) [(.aload_n 0, .null, 0, 0), (.getfield 49, .null, 11, 5), (.iload_n 2, .null, 0, 0)] [] (by decide +kernel) rfl trivial ?_
      refine xk_VI (As := [.int x2]) (bb := 25) (rest := []) (idx := 293) (i0 := 293) (m1 := 7) (ps := [1156, 871, 872]) (by decide +kernel) (by decide +kernel) (by decide) rfl ((gK_s (by decide)).trans (by decide +kernel)) (by decide) (Nat.le_of_ble_eq_true rfl) rfl h (fun y4 v3 h => ?_)
      obtain ⟨hz, h⟩ := h
      exact xr_zret (by decide +kernel) rfl hz ⟨_, _, rfl, rfl, h⟩
    · refine ⟨54, 55, by rw [hr]; decide +kernel, by decide, ?_⟩
      replace h := h.2.2.1 hr
      refine xr_blk (lv1 := [(0, .ref 0), (1, .int x1), (2, .int x2), (3, .int x3)]) (st1 := [.int x2, .ref 25]) (S1 := rt v) (pc1 := 60) [(.aload_n 0, .null, 0, 0), (.getfield 49, .null, 11, 5), (.iload_n 2, .null, 0, 0)] [] (by decide +kernel) rfl trivial ?_
      refine xk_VI (As := [.int x2]) (bb := 25) (rest := []) (idx := 293) (i0 := 293) (m1 := 7) (ps := [1156, 871, 872]) (by decide +kernel) (by decide +kernel) (by decide) rfl ((gK_s (by decide)).trans (by decide +kernel)) (by decide) (Nat.le_of_ble_eq_true rfl) rfl h (fun y6 v5 h => ?_)
      refine xr_if_eq (tgt := 86) (off := 23) (by decide +kernel) (by decide) (fun hc => ?_) (fun hc => ?_)
      · replace h := h.1 hc
        refine xr_blk (lv1 := [(0, .ref 0), (1, .int x1), (2, .int x2), (3, .int x3)]) (st1 := [.int (nI 0)]) (S1 := rt v5) (pc1 := 87) [(.iconst 0, .int (nI 0), 0, 0)] [] (by decide +kernel) rfl trivial ?_
        exact xr_zret (by decide +kernel) rfl x_in2_0 ⟨_, _, rfl, rfl, h⟩
      · replace h := h.2 hc
        refine xr_blk (lv1 := [(0, .ref 0), (1, .int x1), (2, .int x2), (3, .int x3)]) (st1 := [.int x3, .ref 25]) (S1 := rt v5) (pc1 := 71) [(.aload_n 0, .null, 0, 0), (.getfield 49, .null, 11, 5), (.iload_n 3, .null, 0, 0)] [] (by decide +kernel) rfl trivial ?_
        refine xk_VI (As := [.int x3]) (bb := 25) (rest := []) (idx := 293) (i0 := 293) (m1 := 7) (ps := [1156, 871, 872]) (by decide +kernel) (by decide +kernel) (by decide) rfl ((gK_s (by decide)).trans (by decide +kernel)) (by decide) (Nat.le_of_ble_eq_true rfl) rfl h (fun y8 v7 h => ?_)
        refine xr_if_eq (tgt := 86) (off := 12) (by decide +kernel) (by decide) (fun hc => ?_) (fun hc => ?_)
        · replace h := h.1 hc
          refine xr_blk (lv1 := [(0, .ref 0), (1, .int x1), (2, .int x2), (3, .int x3)]) (st1 := [.int (nI 0)]) (S1 := rt v7) (pc1 := 87) [(.iconst 0, .int (nI 0), 0, 0)] [] (by decide +kernel) rfl trivial ?_
          exact xr_zret (by decide +kernel) rfl x_in2_0 ⟨_, _, rfl, rfl, h⟩
        · replace h := h.2 hc
          refine xr_blk (lv1 := [(0, .ref 0), (1, .int x1), (2, .int x2), (3, .int x3)]) (st1 := [.int x3, .int x2]) (S1 := rt v7) (pc1 := 79) [(.iload_n 2, .null, 0, 0), (.iload_n 3, .null, 0, 0)] [] (by decide +kernel) rfl trivial ?_
          refine xr_ic_eq (tgt := 86) (off := 7) (by decide +kernel) (by decide) (fun hc => ?_) (fun hc => ?_)
          · replace h := h.1 hc
            refine xr_blk (lv1 := [(0, .ref 0), (1, .int x1), (2, .int x2), (3, .int x3)]) (st1 := [.int (nI 0)]) (S1 := rt v7) (pc1 := 87) [(.iconst 0, .int (nI 0), 0, 0)] [] (by decide +kernel) rfl trivial ?_
            exact xr_zret (by decide +kernel) rfl x_in2_0 ⟨_, _, rfl, rfl, h⟩
          · replace h := h.2 hc
            refine xr_blk (lv1 := [(0, .ref 0), (1, .int x1), (2, .int x2), (3, .int x3)]) (st1 := [.int (nI 1)]) (S1 := rt v7) (pc1 := 83) [(.iconst 1, .int (nI 1), 0, 0)] [] (by decide +kernel) rfl trivial ?_
            refine xr_goto (tgt := 87) (off := 4) (by decide +kernel) (by decide) ?_
            exact xr_zret (by decide +kernel) rfl x_in2_1 ⟨_, _, rfl, rfl, h⟩
    · refine ⟨87, 88, by rw [hr]; decide +kernel, by decide, ?_⟩
      replace h := h.2.2.2.1 hr
      refine xr_blk (lv1 := [(0, .ref 0), (1, .int x1), (2, .int x2), (3, .int x3)]) (st1 := [.int (nI 0), .int x2, .ref 3]) (S1 := rt v) (pc1 := 94) [(.aload_n 0, .null, 0, 0), (.getfield 19, .null, 11, 1), (.iload_n 2, .null, 0, 0), (.iconst 0, .int (nI 0), 0, 0)] [] (by decide +kernel) rfl trivial ?_
      refine xk_VI (As := [.int x2, .int (nI 0)]) (bb := 3) (rest := []) (idx := 258) (i0 := 258) (m1 := 31) (ps := [1157, 1158, 1159]) (by decide +kernel) (by decide +kernel) (by decide) rfl ((gK_s (by decide)).trans (by decide +kernel)) (by decide) (Nat.le_of_ble_eq_true rfl) rfl h (fun y10 v9 h => ?_)
      refine xr_if_eq (tgt := 116) (off := 19) (by decide +kernel) (by decide) (fun hc => ?_) (fun hc => ?_)
      · replace h := h.1 hc
        refine xr_blk (lv1 := [(0, .ref 0), (1, .int x1), (2, .int x2), (3, .int x3)]) (st1 := [.int (nI 0)]) (S1 := rt v9) (pc1 := 117) [(.iconst 0, .int (nI 0), 0, 0)] [] (by decide +kernel) rfl trivial ?_
        exact xr_zret (by decide +kernel) rfl x_in2_0 ⟨_, _, rfl, rfl, h⟩
      · replace h := h.2 hc
        refine xr_blk (lv1 := [(0, .ref 0), (1, .int x1), (2, .int x2), (3, .int x3)]) (st1 := [.int (nI 2), .int x3, .ref 3]) (S1 := rt v9) (pc1 := 106) [(.aload_n 0, .null, 0, 0), (.getfield 19, .null, 11, 1), (.iload_n 3, .null, 0, 0), (.iconst 2, .int (nI 2), 0, 0)] [] (by decide +kernel) rfl trivial ?_
        refine xk_VI (As := [.int x3, .int (nI 2)]) (bb := 3) (rest := []) (idx := 258) (i0 := 258) (m1 := 31) (ps := [1157, 1158, 1159]) (by decide +kernel) (by decide +kernel) (by decide) rfl ((gK_s (by decide)).trans (by decide +kernel)) (by decide) (Nat.le_of_ble_eq_true rfl) rfl h (fun y12 v11 h => ?_)
        refine xr_if_eq (tgt := 116) (off := 7) (by decide +kernel) (by decide) (fun hc => ?_) (fun hc => ?_)
        · replace h := h.1 hc
          refine xr_blk (lv1 := [(0, .ref 0), (1, .int x1), (2, .int x2), (3, .int x3)]) (st1 := [.int (nI 0)]) (S1 := rt v11) (pc1 := 117) [(.iconst 0, .int (nI 0), 0, 0)] [] (by decide +kernel) rfl trivial ?_
          exact xr_zret (by decide +kernel) rfl x_in2_0 ⟨_, _, rfl, rfl, h⟩
        · replace h := h.2 hc
          refine xr_blk (lv1 := [(0, .ref 0), (1, .int x1), (2, .int x2), (3, .int x3)]) (st1 := [.int (nI 1)]) (S1 := rt v11) (pc1 := 113) [(.iconst 1, .int (nI 1), 0, 0)] [] (by decide +kernel) rfl trivial ?_
          refine xr_goto (tgt := 117) (off := 4) (by decide +kernel) (by decide) ?_
          exact xr_zret (by decide +kernel) rfl x_in2_1 ⟨_, _, rfl, rfl, h⟩
    · refine ⟨117, 118, by rw [hr]; decide +kernel, by decide, ?_⟩
      replace h := h.2.2.2.2 hr
      refine xr_blk (lv1 := [(0, .ref 0), (1, .int x1), (2, .int x2), (3, .int x3)]) (st1 := [.int (nI 3), .int x2, .ref 3]) (S1 := rt v) (pc1 := 124) [(.aload_n 0, .null, 0, 0), (.getfield 19, .null, 11, 1), (.iload_n 2, .null, 0, 0), (.iconst 3, .int (nI 3), 0, 0)] [] (by decide +kernel) rfl trivial ?_
      refine xk_VI (As := [.int x2, .int (nI 3)]) (bb := 3) (rest := []) (idx := 258) (i0 := 258) (m1 := 31) (ps := [1157, 1158, 1159]) (by decide +kernel) (by decide +kernel) (by decide) rfl ((gK_s (by decide)).trans (by decide +kernel)) (by decide) (Nat.le_of_ble_eq_true rfl) rfl h (fun y14 v13 h => ?_)
      obtain ⟨hz, h⟩ := h
      exact xr_zret (by decide +kernel) rfl hz ⟨_, _, rfl, rfl, h⟩
theorem ok_141 : x_mOK 141 := ⟨x_tm5 (List.mem_of_getElem? (i := 95) rfl) rfl, 101, by decide +kernel⟩
/-! X11_areYears: method 142, ScrawlHouse.areYears(III)Z -/
set_option maxRecDepth 100000 in
theorem w_X11_areYears_0 {E : Nat × (Nat → Int32)} {d : Nat} {v : xV} {x0 : Int32} {x1 : Int32} {x2 : Int32} {Q : Int32 → xV → Prop} (h : ((¬ x0 = (nI 2) → ((¬ x0 = (nI 3) → ((x1 < (nI 0) → Q (nI 0) v) ∧ (¬ x1 < (nI 0) → ((x2 < x1 → Q (nI 0) v) ∧ (¬ x2 < x1 → (((nI 200) ≤ x2 → Q (nI 0) v) ∧ (¬ (nI 200) ≤ x2 → Q (nI 1) v))))))) ∧ (x0 = (nI 3) → ((x1 < (nI 0) → Q (nI 0) v) ∧ (¬ x1 < (nI 0) → (((nI 200) ≤ x1 → Q (nI 0) v) ∧ (¬ (nI 200) ≤ x1 → Q (nI 1) v))))))) ∧ (x0 = (nI 2) → Q (nI 1) v))) : RI E d 142 0 [(0, .int x0), (1, .int x1), (2, .int x2)] v Q := by
  unfold RI
  refine xr_blk (lv1 := [(0, .int x0), (1, .int x1), (2, .int x2)]) (st1 := [.int (nI 2), .int x0]) (S1 := rt v) (pc1 := 2) [(.iload_n 0, .null, 0, 0), (.iconst 2, .int (nI 2), 0, 0)] [] (by decide +kernel) rfl trivial ?_
  refine xr_ic_ne (tgt := 7) (off := 5) (by decide +kernel) (by decide) (fun hc => ?_) (fun hc => ?_)
  · replace h := h.1 hc
    refine xr_blk (lv1 := [(0, .int x0), (1, .int x1), (2, .int x2)]) (st1 := [.int (nI 3), .int x0]) (S1 := rt v) (pc1 := 9) [(.iload_n 0, .null, 0, 0), (.iconst 3, .int (nI 3), 0, 0)] [] (by decide +kernel) rfl trivial ?_
    refine xr_ic_ne (tgt := 29) (off := 20) (by decide +kernel) (by decide) (fun hc => ?_) (fun hc => ?_)
    · replace h := h.1 hc
      refine xr_blk (lv1 := [(0, .int x0), (1, .int x1), (2, .int x2)]) (st1 := [.int x1]) (S1 := rt v) (pc1 := 30) [(.iload_n 1, .null, 0, 0)] [] (by decide +kernel) rfl trivial ?_
      refine xr_if_lt (tgt := 49) (off := 19) (by decide +kernel) (by decide) (fun hc => ?_) (fun hc => ?_)
      · replace h := h.1 hc
        refine xr_blk (lv1 := [(0, .int x0), (1, .int x1), (2, .int x2)]) (st1 := [.int (nI 0)]) (S1 := rt v) (pc1 := 50) [(.iconst 0, .int (nI 0), 0, 0)] [] (by decide +kernel) rfl trivial ?_
        exact xr_zret (by decide +kernel) rfl x_in2_0 ⟨_, _, rfl, rfl, h⟩
      · replace h := h.2 hc
        refine xr_blk (lv1 := [(0, .int x0), (1, .int x1), (2, .int x2)]) (st1 := [.int x2, .int x1]) (S1 := rt v) (pc1 := 35) [(.iload_n 1, .null, 0, 0), (.iload_n 2, .null, 0, 0)] [] (by decide +kernel) rfl trivial ?_
        refine xr_ic_gt (tgt := 49) (off := 14) (by decide +kernel) (by decide) (fun hc => ?_) (fun hc => ?_)
        · replace h := h.1 hc
          refine xr_blk (lv1 := [(0, .int x0), (1, .int x1), (2, .int x2)]) (st1 := [.int (nI 0)]) (S1 := rt v) (pc1 := 50) [(.iconst 0, .int (nI 0), 0, 0)] [] (by decide +kernel) rfl trivial ?_
          exact xr_zret (by decide +kernel) rfl x_in2_0 ⟨_, _, rfl, rfl, h⟩
        · replace h := h.2 hc
          refine xr_blk (lv1 := [(0, .int x0), (1, .int x1), (2, .int x2)]) (st1 := [.int (nI 200), .int x2]) (S1 := rt v) (pc1 := 42) [(.iload_n 2, .null, 0, 0), (.sipush 200, .int (nI 200), 0, 0)] [] (by decide +kernel) rfl trivial ?_
          refine xr_ic_ge (tgt := 49) (off := 7) (by decide +kernel) (by decide) (fun hc => ?_) (fun hc => ?_)
          · replace h := h.1 hc
            refine xr_blk (lv1 := [(0, .int x0), (1, .int x1), (2, .int x2)]) (st1 := [.int (nI 0)]) (S1 := rt v) (pc1 := 50) [(.iconst 0, .int (nI 0), 0, 0)] [] (by decide +kernel) rfl trivial ?_
            exact xr_zret (by decide +kernel) rfl x_in2_0 ⟨_, _, rfl, rfl, h⟩
          · replace h := h.2 hc
            refine xr_blk (lv1 := [(0, .int x0), (1, .int x1), (2, .int x2)]) (st1 := [.int (nI 1)]) (S1 := rt v) (pc1 := 46) [(.iconst 1, .int (nI 1), 0, 0)] [] (by decide +kernel) rfl trivial ?_
            refine xr_goto (tgt := 50) (off := 4) (by decide +kernel) (by decide) ?_
            exact xr_zret (by decide +kernel) rfl x_in2_1 ⟨_, _, rfl, rfl, h⟩
    · replace h := h.2 hc
      refine xr_blk (lv1 := [(0, .int x0), (1, .int x1), (2, .int x2)]) (st1 := [.int x1]) (S1 := rt v) (pc1 := 13) [(.iload_n 1, .null, 0, 0)] [] (by decide +kernel) rfl trivial ?_
      refine xr_if_lt (tgt := 27) (off := 14) (by decide +kernel) (by decide) (fun hc => ?_) (fun hc => ?_)
      · replace h := h.1 hc
        refine xr_blk (lv1 := [(0, .int x0), (1, .int x1), (2, .int x2)]) (st1 := [.int (nI 0)]) (S1 := rt v) (pc1 := 28) [(.iconst 0, .int (nI 0), 0, 0)] [] (by decide +kernel) rfl trivial ?_
        exact xr_zret (by decide +kernel) rfl x_in2_0 ⟨_, _, rfl, rfl, h⟩
      · replace h := h.2 hc
        refine xr_blk (lv1 := [(0, .int x0), (1, .int x1), (2, .int x2)]) (st1 := [.int (nI 200), .int x1]) (S1 := rt v) (pc1 := 20) [(.iload_n 1, .null, 0, 0), (.sipush 200, .int (nI 200), 0, 0)] [] (by decide +kernel) rfl trivial ?_
        refine xr_ic_ge (tgt := 27) (off := 7) (by decide +kernel) (by decide) (fun hc => ?_) (fun hc => ?_)
        · replace h := h.1 hc
          refine xr_blk (lv1 := [(0, .int x0), (1, .int x1), (2, .int x2)]) (st1 := [.int (nI 0)]) (S1 := rt v) (pc1 := 28) [(.iconst 0, .int (nI 0), 0, 0)] [] (by decide +kernel) rfl trivial ?_
          exact xr_zret (by decide +kernel) rfl x_in2_0 ⟨_, _, rfl, rfl, h⟩
        · replace h := h.2 hc
          refine xr_blk (lv1 := [(0, .int x0), (1, .int x1), (2, .int x2)]) (st1 := [.int (nI 1)]) (S1 := rt v) (pc1 := 24) [(.iconst 1, .int (nI 1), 0, 0)] [] (by decide +kernel) rfl trivial ?_
          refine xr_goto (tgt := 28) (off := 4) (by decide +kernel) (by decide) ?_
          exact xr_zret (by decide +kernel) rfl x_in2_1 ⟨_, _, rfl, rfl, h⟩
  · replace h := h.2 hc
    refine xr_blk (lv1 := [(0, .int x0), (1, .int x1), (2, .int x2)]) (st1 := [.int (nI 1)]) (S1 := rt v) (pc1 := 6) [(.iconst 1, .int (nI 1), 0, 0)] [] (by decide +kernel) rfl trivial ?_
    exact xr_zret (by decide +kernel) rfl x_in2_1 ⟨_, _, rfl, rfl, h⟩
theorem ok_142 : x_mOK 142 := ⟨x_tm5 (List.mem_of_getElem? (i := 103) rfl) rfl, 101, by decide +kernel⟩
/-! X11_isLetter: method 143, ScrawlHouse.isLetter(I)Z -/
set_option maxRecDepth 100000 in
theorem w_X11_isLetter_0 {E : Nat × (Nat → Int32)} {d : Nat} {v : xV} {x0 : Int32} {Q : Int32 → xV → Prop} (h : ((x0 < (nI 0) → Q (nI 0) v) ∧ (¬ x0 < (nI 0) → (((nI 26) ≤ x0 → Q (nI 0) v) ∧ (¬ (nI 26) ≤ x0 → Q (nI 1) v))))) : RI E d 143 0 [(0, .int x0)] v Q := by
  unfold RI
  refine xr_blk (lv1 := [(0, .int x0)]) (st1 := [.int x0]) (S1 := rt v) (pc1 := 1) [(.iload_n 0, .null, 0, 0)] [] (by decide +kernel) rfl trivial ?_
  refine xr_if_lt (tgt := 14) (off := 13) (by decide +kernel) (by decide) (fun hc => ?_) (fun hc => ?_)
  · replace h := h.1 hc
    refine xr_blk (lv1 := [(0, .int x0)]) (st1 := [.int (nI 0)]) (S1 := rt v) (pc1 := 15) [(.iconst 0, .int (nI 0), 0, 0)] [] (by decide +kernel) rfl trivial ?_
    exact xr_zret (by decide +kernel) rfl x_in2_0 ⟨_, _, rfl, rfl, h⟩
  · replace h := h.2 hc
    refine xr_blk (lv1 := [(0, .int x0)]) (st1 := [.int (nI 26), .int x0]) (S1 := rt v) (pc1 := 7) [(.iload_n 0, .null, 0, 0), (.bipush 26, .int (nI 26), 0, 0)] [] (by decide +kernel) rfl trivial ?_
    refine xr_ic_ge (tgt := 14) (off := 7) (by decide +kernel) (by decide) (fun hc => ?_) (fun hc => ?_)
    · replace h := h.1 hc
      refine xr_blk (lv1 := [(0, .int x0)]) (st1 := [.int (nI 0)]) (S1 := rt v) (pc1 := 15) [(.iconst 0, .int (nI 0), 0, 0)] [] (by decide +kernel) rfl trivial ?_
      exact xr_zret (by decide +kernel) rfl x_in2_0 ⟨_, _, rfl, rfl, h⟩
    · replace h := h.2 hc
      refine xr_blk (lv1 := [(0, .int x0)]) (st1 := [.int (nI 1)]) (S1 := rt v) (pc1 := 11) [(.iconst 1, .int (nI 1), 0, 0)] [] (by decide +kernel) rfl trivial ?_
      refine xr_goto (tgt := 15) (off := 4) (by decide +kernel) (by decide) ?_
      exact xr_zret (by decide +kernel) rfl x_in2_1 ⟨_, _, rfl, rfl, h⟩
theorem ok_143 : x_mOK 143 := ⟨x_tm3 (List.mem_of_getElem? (i := 79) rfl) rfl, 101, by decide +kernel⟩
/-! X11_isSmallSign: method 144, ScrawlHouse.isSmallSign(I)Z -/
set_option maxRecDepth 100000 in
theorem w_X11_isSmallSign_0 {E : Nat × (Nat → Int32)} {d : Nat} {v : xV} {x0 : Int32} {Q : Int32 → xV → Prop} (h : ((x0 < (nI 97) → Q (nI 0) v) ∧ (¬ x0 < (nI 97) → (((nI 122) < x0 → Q (nI 0) v) ∧ (¬ (nI 122) < x0 → Q (nI 1) v))))) : RI E d 144 0 [(0, .int x0)] v Q := by
  unfold RI
  refine xr_blk (lv1 := [(0, .int x0)]) (st1 := [.int (nI 97), .int x0]) (S1 := rt v) (pc1 := 3) [(.iload_n 0, .null, 0, 0), (.bipush 97, .int (nI 97), 0, 0)] [] (by decide +kernel) rfl trivial ?_
  refine xr_ic_lt (tgt := 16) (off := 13) (by decide +kernel) (by decide) (fun hc => ?_) (fun hc => ?_)
  · replace h := h.1 hc
    refine xr_blk (lv1 := [(0, .int x0)]) (st1 := [.int (nI 0)]) (S1 := rt v) (pc1 := 17) [(.iconst 0, .int (nI 0), 0, 0)] [] (by decide +kernel) rfl trivial ?_
    exact xr_zret (by decide +kernel) rfl x_in2_0 ⟨_, _, rfl, rfl, h⟩
  · replace h := h.2 hc
    refine xr_blk (lv1 := [(0, .int x0)]) (st1 := [.int (nI 122), .int x0]) (S1 := rt v) (pc1 := 9) [(.iload_n 0, .null, 0, 0), (.bipush 122, .int (nI 122), 0, 0)] [] (by decide +kernel) rfl trivial ?_
    refine xr_ic_gt (tgt := 16) (off := 7) (by decide +kernel) (by decide) (fun hc => ?_) (fun hc => ?_)
    · replace h := h.1 hc
      refine xr_blk (lv1 := [(0, .int x0)]) (st1 := [.int (nI 0)]) (S1 := rt v) (pc1 := 17) [(.iconst 0, .int (nI 0), 0, 0)] [] (by decide +kernel) rfl trivial ?_
      exact xr_zret (by decide +kernel) rfl x_in2_0 ⟨_, _, rfl, rfl, h⟩
    · replace h := h.2 hc
      refine xr_blk (lv1 := [(0, .int x0)]) (st1 := [.int (nI 1)]) (S1 := rt v) (pc1 := 13) [(.iconst 1, .int (nI 1), 0, 0)] [] (by decide +kernel) rfl trivial ?_
      refine xr_goto (tgt := 17) (off := 4) (by decide +kernel) (by decide) ?_
      exact xr_zret (by decide +kernel) rfl x_in2_1 ⟨_, _, rfl, rfl, h⟩
theorem ok_144 : x_mOK 144 := ⟨x_tm3 (List.mem_of_getElem? (i := 102) rfl) rfl, 101, by decide +kernel⟩
/-! X12_thrown: method 146, ScrawlHouseModel.thrown()I -/
set_option maxRecDepth 100000 in
theorem w_X12_thrown_0 {E : Nat × (Nat → Int32)} {d : Nat} {v : xV} {Q : Int32 → xV → Prop} (h : Q (gI v 80 0) v) : RI E d 146 0 [(0, .ref 80)] v Q := by
  unfold RI
  refine xr_blk (lv1 := [(0, .ref 80)]) (st1 := [.int (gI v 80 0)]) (S1 := rt v) (pc1 := 4) [(.aload_n 0, .null, 0, 0), (.getfield 190, .null, 12, 0)] [] (by decide +kernel) rfl trivial ?_
  exact xr_iret (by decide +kernel) rfl ⟨_, _, rfl, rfl, h⟩
theorem ok_146 : x_mOK 146 := ⟨x_tm7 (List.mem_of_getElem? (i := 59) rfl) rfl, 114, by decide +kernel⟩
/-! X12_refuse: method 147, ScrawlHouseModel.refuse()I -/
set_option maxRecDepth 100000 in
theorem w_X12_refuse_0 {E : Nat × (Nat → Int32)} {d : Nat} {v : xV} {Q : Int32 → xV → Prop} (h : Q (nI 0) (v_I v 80 0 (nI 1))) : RI E d 147 0 [(0, .ref 80)] v Q := by
  unfold RI
  refine xr_blk (lv1 := [(0, .ref 80)]) (st1 := [.int (nI 0)]) (S1 := rt (v_I v 80 0 (nI 1))) (pc1 := 6) [(.aload_n 0, .null, 0, 0), (.iconst 1, .int (nI 1), 0, 0), (.putfield 190, .null, 12, 0), (.iconst 0, .int (nI 0), 0, 0)] [] (by decide +kernel) rfl trivial ?_
  exact xr_iret (by decide +kernel) rfl ⟨_, _, rfl, rfl, h⟩
theorem ok_147 : x_mOK 147 := ⟨x_tm7 (List.mem_of_getElem? (i := 230) rfl) rfl, 114, by decide +kernel⟩
/-! X12_come: method 148, ScrawlHouseModel.come(I)V -/
set_option maxRecDepth 100000 in
theorem w_X12_come_0 {E : Nat × (Nat → Int32)} {d : Nat} {v : xV} {x1 : Int32} {Q : xV → Prop} (h : RV E d 148 3 [(0, .ref 80), (1, .int x1), (2, .int (nI 24))] v Q) : RV E d 148 0 [(0, .ref 80), (1, .int x1)] v Q := by
  unfold RV
  refine xr_blk (lv1 := [(2, .int (nI 24)), (0, .ref 80), (1, .int x1)]) (st1 := []) (S1 := rt v) (pc1 := 3) [(.bipush 24, .int (nI 24), 0, 0), (.istore_n 2, .null, 0, 0)] [] (by decide +kernel) rfl trivial ?_
  exact x_R.sub [1, 2, 0] rfl h
set_option maxRecDepth 100000 in
theorem w_X12_come_3 {E : Nat × (Nat → Int32)} {d : Nat} {v : xV} {x1 : Int32} {x2 : Int32} {Q : xV → Prop} (h : ((x2 < (nI 0) → Q v) ∧ (¬ x2 < (nI 0) → vp_in (gI v 80 3) 240 ∧ RV E d 148 3 [(0, .ref 80), (1, .int x1), (2, .int (x2 + (-8 : Int32)))] (v_I (v_A v 81 (upd (gA v 81) ((gI v 80 3)).toNatClampNeg (((x1).toUInt32 >>> ((x2).toUInt32 &&& Int32.toUInt32 31)).toInt32 &&& (nI 255)))) 80 3 ((gI v 80 3) + (nI 1))) Q))) : RV E d 148 3 [(0, .ref 80), (1, .int x1), (2, .int x2)] v Q := by
  unfold RV
  refine xr_blk (lv1 := [(0, .ref 80), (1, .int x1), (2, .int x2)]) (st1 := [.int x2]) (S1 := rt v) (pc1 := 4) [(.iload_n 2, .null, 0, 0)] [] (by decide +kernel) rfl trivial ?_
  refine xr_if_lt (tgt := 39) (off := 35) (by decide +kernel) (by decide) (fun hc => ?_) (fun hc => ?_)
  · replace h := h.1 hc
    exact xr_ret0 (by decide +kernel) rfl ⟨_, rfl, rfl, h⟩
  · replace h := h.2 hc
    obtain ⟨hb1, h⟩ := h
    refine xr_blk (lv1 := [(2, .int (x2 + (-8 : Int32))), (0, .ref 80), (1, .int x1)]) (st1 := []) (S1 := rt (v_I (v_A v 81 (upd (gA v 81) ((gI v 80 3)).toNatClampNeg (((x1).toUInt32 >>> ((x2).toUInt32 &&& Int32.toUInt32 31)).toInt32 &&& (nI 255)))) 80 3 ((gI v 80 3) + (nI 1)))) (pc1 := 36) [(.aload_n 0, .null, 0, 0), (.getfield 7, .null, 12, 1), (.aload_n 0, .null, 0, 0), (.getfield 193, .null, 12, 3), (.iload_n 1, .null, 0, 0), (.iload_n 2, .null, 0, 0), (.iushr, .null, 0, 0), (.sipush 255, .int (nI 255), 0, 0), (.iand, .null, 0, 0), (.iastore, .null, 0, 0), (.aload_n 0, .null, 0, 0), (.dup, .null, 0, 0), (.getfield 193, .null, 12, 3), (.iconst 1, .int (nI 1), 0, 0), (.iadd, .null, 0, 0), (.putfield 193, .null, 12, 3), (.iinc 2 (-8), .int (-8), 0, 0)] [((gI v 80 3), 240)] (by decide +kernel) rfl ⟨hb1, trivial⟩ ?_
    refine xr_goto (tgt := 3) (off := -33) (by decide +kernel) (by decide) ?_
    exact x_R.sub [1, 2, 0] rfl h
theorem ok_148 : x_mOK 148 := ⟨x_tm7 (List.mem_of_getElem? (i := 67) rfl) rfl, 114, by decide +kernel⟩
/-! X12_feed: method 149, ScrawlHouseModel.feed(IIIII)I -/
set_option maxRecDepth 100000 in
theorem w_X12_feed_0 {E : Nat × (Nat → Int32)} {d : Nat} {v : xV} {x1 : Int32} {x2 : Int32} {x3 : Int32} {x4 : Int32} {x5 : Int32} {Q : Int32 → xV → Prop} (h : ((((gI v 80 3) + (nI 20)) ≤ (nI 240) → KV E d 148 [.ref 80, .int x1] (v_I v 80 0 (nI 0)) (fun v1 => KV E d 148 [.ref 80, .int x2] v1 (fun v2 => KV E d 148 [.ref 80, .int x3] v2 (fun v3 => KV E d 148 [.ref 80, .int x4] v3 (fun v4 => KV E d 148 [.ref 80, .int x5] v4 (fun v5 => Q (gI v5 80 3) v5)))))) ∧ (¬ ((gI v 80 3) + (nI 20)) ≤ (nI 240) → Q (-1 : Int32) (v_I v 80 0 (nI 0))))) : RI E (d + 1) 149 0 [(0, .ref 80), (1, .int x1), (2, .int x2), (3, .int x3), (4, .int x4), (5, .int x5)] v Q := by
  unfold RI
  refine xr_blk (lv1 := [(0, .ref 80), (1, .int x1), (2, .int x2), (3, .int x3), (4, .int x4), (5, .int x5)]) (st1 := [.int (nI 240), .int ((gI v 80 3) + (nI 20))]) (S1 := rt (v_I v 80 0 (nI 0))) (pc1 := 15) [(.aload_n 0, .null, 0, 0), (.iconst 0, .int (nI 0), 0, 0), (.putfield 190, .null, 12, 0), (.aload_n 0, .null, 0, 0), (.getfield 193, .null, 12, 3), (.bipush 20, .int (nI 20), 0, 0), (.iadd, .null, 0, 0), (.sipush 240, .int (nI 240), 0, 0)] [] (by decide +kernel) rfl trivial ?_
  refine xr_ic_le (tgt := 20) (off := 5) (by decide +kernel) (by decide) (fun hc => ?_) (fun hc => ?_)
  · replace h := h.1 hc
    refine xr_blk (lv1 := [(0, .ref 80), (1, .int x1), (2, .int x2), (3, .int x3), (4, .int x4), (5, .int x5)]) (st1 := [.int x1, .ref 80]) (S1 := rt (v_I v 80 0 (nI 0))) (pc1 := 22) [(.aload_n 0, .null, 0, 0), (.iload_n 1, .null, 0, 0)] [] (by decide +kernel) rfl trivial ?_
    refine xk_VV (As := [.int x1]) (bb := 80) (rest := []) (idx := 196) (i0 := 196) (m1 := 148) (ps := [1604, 1606, 57]) (by decide +kernel) (by decide +kernel) (by decide) rfl ((gK_s (by decide)).trans (by decide +kernel)) (by decide) (Nat.le_of_ble_eq_true rfl) rfl h (fun v1 h => ?_)
    refine xr_blk (lv1 := [(0, .ref 80), (1, .int x1), (2, .int x2), (3, .int x3), (4, .int x4), (5, .int x5)]) (st1 := [.int x2, .ref 80]) (S1 := rt v1) (pc1 := 27) [(.aload_n 0, .null, 0, 0), (.iload_n 2, .null, 0, 0)] [] (by decide +kernel) rfl trivial ?_
    refine xk_VV (As := [.int x2]) (bb := 80) (rest := []) (idx := 196) (i0 := 196) (m1 := 148) (ps := [1604, 1606, 57]) (by decide +kernel) (by decide +kernel) (by decide) rfl ((gK_s (by decide)).trans (by decide +kernel)) (by decide) (Nat.le_of_ble_eq_true rfl) rfl h (fun v2 h => ?_)
    refine xr_blk (lv1 := [(0, .ref 80), (1, .int x1), (2, .int x2), (3, .int x3), (4, .int x4), (5, .int x5)]) (st1 := [.int x3, .ref 80]) (S1 := rt v2) (pc1 := 32) [(.aload_n 0, .null, 0, 0), (.iload_n 3, .null, 0, 0)] [] (by decide +kernel) rfl trivial ?_
    refine xk_VV (As := [.int x3]) (bb := 80) (rest := []) (idx := 196) (i0 := 196) (m1 := 148) (ps := [1604, 1606, 57]) (by decide +kernel) (by decide +kernel) (by decide) rfl ((gK_s (by decide)).trans (by decide +kernel)) (by decide) (Nat.le_of_ble_eq_true rfl) rfl h (fun v3 h => ?_)
    refine xr_blk (lv1 := [(0, .ref 80), (1, .int x1), (2, .int x2), (3, .int x3), (4, .int x4), (5, .int x5)]) (st1 := [.int x4, .ref 80]) (S1 := rt v3) (pc1 := 38) [(.aload_n 0, .null, 0, 0), (.iload 4, .null, 0, 0)] [] (by decide +kernel) rfl trivial ?_
    refine xk_VV (As := [.int x4]) (bb := 80) (rest := []) (idx := 196) (i0 := 196) (m1 := 148) (ps := [1604, 1606, 57]) (by decide +kernel) (by decide +kernel) (by decide) rfl ((gK_s (by decide)).trans (by decide +kernel)) (by decide) (Nat.le_of_ble_eq_true rfl) rfl h (fun v4 h => ?_)
    refine xr_blk (lv1 := [(0, .ref 80), (1, .int x1), (2, .int x2), (3, .int x3), (4, .int x4), (5, .int x5)]) (st1 := [.int x5, .ref 80]) (S1 := rt v4) (pc1 := 44) [(.aload_n 0, .null, 0, 0), (.iload 5, .null, 0, 0)] [] (by decide +kernel) rfl trivial ?_
    refine xk_VV (As := [.int x5]) (bb := 80) (rest := []) (idx := 196) (i0 := 196) (m1 := 148) (ps := [1604, 1606, 57]) (by decide +kernel) (by decide +kernel) (by decide) rfl ((gK_s (by decide)).trans (by decide +kernel)) (by decide) (Nat.le_of_ble_eq_true rfl) rfl h (fun v5 h => ?_)
    refine xr_blk (lv1 := [(0, .ref 80), (1, .int x1), (2, .int x2), (3, .int x3), (4, .int x4), (5, .int x5)]) (st1 := [.int (gI v5 80 3)]) (S1 := rt v5) (pc1 := 51) [(.aload_n 0, .null, 0, 0), (.getfield 193, .null, 12, 3)] [] (by decide +kernel) rfl trivial ?_
    exact xr_iret (by decide +kernel) rfl ⟨_, _, rfl, rfl, h⟩
  · replace h := h.2 hc
    refine xr_blk (lv1 := [(0, .ref 80), (1, .int x1), (2, .int x2), (3, .int x3), (4, .int x4), (5, .int x5)]) (st1 := [.int (-1)]) (S1 := rt (v_I v 80 0 (nI 0))) (pc1 := 19) [(.iconst (-1), .int (-1), 0, 0)] [] (by decide +kernel) rfl trivial ?_
    exact xr_iret (by decide +kernel) rfl ⟨_, _, rfl, rfl, h⟩
theorem ok_149 : x_mOK 149 := ⟨x_tm7 (List.mem_of_getElem? (i := 63) rfl) rfl, 114, by decide +kernel⟩
/-! X12_end: method 150, ScrawlHouseModel.end(I)Z -/
set_option maxRecDepth 100000 in
theorem w_X12_end_0 {E : Nat × (Nat → Int32)} {d : Nat} {v : xV} {x1 : Int32} {Q : Int32 → xV → Prop} (h : ((x1 < (nI 0) → Q (nI 0) (v_I v 80 0 (nI 0))) ∧ (¬ x1 < (nI 0) → ((x1 ≤ (gI v 80 3) → Q (nI 1) (v_I (v_I v 80 0 (nI 0)) 80 3 x1)) ∧ (¬ x1 ≤ (gI v 80 3) → Q (nI 0) (v_I v 80 0 (nI 0))))))) : RI E d 150 0 [(0, .ref 80), (1, .int x1)] v Q := by
  unfold RI
  refine xr_blk (lv1 := [(0, .ref 80), (1, .int x1)]) (st1 := [.int x1]) (S1 := rt (v_I v 80 0 (nI 0))) (pc1 := 6) [(.aload_n 0, .null, 0, 0), (.iconst 0, .int (nI 0), 0, 0), (.putfield 190, .null, 12, 0), (.iload_n 1, .null, 0, 0)] [] (by decide +kernel) rfl trivial ?_
  refine xr_if_lt (tgt := 17) (off := 11) (by decide +kernel) (by decide) (fun hc => ?_) (fun hc => ?_)
  · replace h := h.1 hc
    refine xr_blk (lv1 := [(0, .ref 80), (1, .int x1)]) (st1 := [.int (nI 0)]) (S1 := rt (v_I v 80 0 (nI 0))) (pc1 := 18) [(.iconst 0, .int (nI 0), 0, 0)] [] (by decide +kernel) rfl trivial ?_
    exact xr_zret (by decide +kernel) rfl x_in2_0 ⟨_, _, rfl, rfl, h⟩
  · replace h := h.2 hc
    refine xr_blk (lv1 := [(0, .ref 80), (1, .int x1)]) (st1 := [.int (gI v 80 3), .int x1]) (S1 := rt (v_I v 80 0 (nI 0))) (pc1 := 14) [(.iload_n 1, .null, 0, 0), (.aload_n 0, .null, 0, 0), (.getfield 193, .null, 12, 3)] [] (by decide +kernel) rfl trivial ?_
    refine xr_ic_le (tgt := 19) (off := 5) (by decide +kernel) (by decide) (fun hc => ?_) (fun hc => ?_)
    · replace h := h.1 hc
      refine xr_blk (lv1 := [(0, .ref 80), (1, .int x1)]) (st1 := [.int (nI 1)]) (S1 := rt (v_I (v_I v 80 0 (nI 0)) 80 3 x1)) (pc1 := 25) [(.aload_n 0, .null, 0, 0), (.iload_n 1, .null, 0, 0), (.putfield 193, .null, 12, 3), (.iconst 1, .int (nI 1), 0, 0)] [] (by decide +kernel) rfl trivial ?_
      exact xr_zret (by decide +kernel) rfl x_in2_1 ⟨_, _, rfl, rfl, h⟩
    · replace h := h.2 hc
      refine xr_blk (lv1 := [(0, .ref 80), (1, .int x1)]) (st1 := [.int (nI 0)]) (S1 := rt (v_I v 80 0 (nI 0))) (pc1 := 18) [(.iconst 0, .int (nI 0), 0, 0)] [] (by decide +kernel) rfl trivial ?_
      exact xr_zret (by decide +kernel) rfl x_in2_0 ⟨_, _, rfl, rfl, h⟩
theorem ok_150 : x_mOK 150 := ⟨x_tm7 (List.mem_of_getElem? (i := 71) rfl) rfl, 114, by decide +kernel⟩

/-! X12_greatestYear: method 201, ScrawlHouseModel.greatestYear(I)I -/
set_option maxRecDepth 100000 in
theorem w_X12_greatestYear_0 {E : Nat × (Nat → Int32)} {d : Nat} {v : xV} {x1 : Int32} {Q : Int32 → xV → Prop} (h : RI E d 201 4 [(0, .ref 80), (1, .int x1), (2, .int (nI 199))] v Q) : RI E d 201 0 [(0, .ref 80), (1, .int x1)] v Q := by
  unfold RI
  refine xr_blk (lv1 := [(2, .int (nI 199)), (0, .ref 80), (1, .int x1)]) (st1 := []) (S1 := rt v) (pc1 := 4) [(.sipush 199, .int (nI 199), 0, 0), (.istore_n 2, .null, 0, 0)] [] (by decide +kernel) rfl trivial ?_
  exact x_R.sub [1, 2, 0] rfl h
set_option maxRecDepth 100000 in
theorem w_X12_greatestYear_4 {E : Nat × (Nat → Int32)} {d : Nat} {v : xV} {x1 : Int32} {x2 : Int32} {Q : Int32 → xV → Prop} (h : ((x2 < (nI 0) → Q x2 v) ∧ (¬ x2 < (nI 0) → vp_in (((nI 200) * x1) + x2) 10400 ∧ ((¬ ((gA v 127) ((((nI 200) * x1) + x2)).toNatClampNeg) = (nI 0) → Q x2 v) ∧ (((gA v 127) ((((nI 200) * x1) + x2)).toNatClampNeg) = (nI 0) → RI E d 201 4 [(0, .ref 80), (1, .int x1), (2, .int (x2 + (-1 : Int32)))] v Q))))) : RI E d 201 4 [(0, .ref 80), (1, .int x1), (2, .int x2)] v Q := by
  unfold RI
  refine xr_blk (lv1 := [(0, .ref 80), (1, .int x1), (2, .int x2)]) (st1 := [.int x2]) (S1 := rt v) (pc1 := 5) [(.iload_n 2, .null, 0, 0)] [] (by decide +kernel) rfl trivial ?_
  refine xr_if_lt (tgt := 29) (off := 24) (by decide +kernel) (by decide) (fun hc => ?_) (fun hc => ?_)
  · replace h := h.1 hc
    refine xr_blk (lv1 := [(0, .ref 80), (1, .int x1), (2, .int x2)]) (st1 := [.int x2]) (S1 := rt v) (pc1 := 30) [(.iload_n 2, .null, 0, 0)] [] (by decide +kernel) rfl trivial ?_
    exact xr_iret (by decide +kernel) rfl ⟨_, _, rfl, rfl, h⟩
  · replace h := h.2 hc
    obtain ⟨hb1, h⟩ := h
    refine xr_blk (lv1 := [(0, .ref 80), (1, .int x1), (2, .int x2)]) (st1 := [.int ((gA v 127) ((((nI 200) * x1) + x2)).toNatClampNeg)]) (S1 := rt v) (pc1 := 20) [(.aload_n 0, .null, 0, 0), (.getfield 154, .null, 12, 71), (.sipush 200, .int (nI 200), 0, 0), (.iload_n 1, .null, 0, 0), (.imul, .null, 0, 0), (.iload_n 2, .null, 0, 0), (.iadd, .null, 0, 0), (.baload, .null, 0, 0)] [((((nI 200) * x1) + x2), 10400)] (by decide +kernel) rfl ⟨hb1, trivial⟩ ?_
    refine xr_if_ne (tgt := 29) (off := 9) (by decide +kernel) (by decide) (fun hc => ?_) (fun hc => ?_)
    · replace h := h.1 hc
      refine xr_blk (lv1 := [(0, .ref 80), (1, .int x1), (2, .int x2)]) (st1 := [.int x2]) (S1 := rt v) (pc1 := 30) [(.iload_n 2, .null, 0, 0)] [] (by decide +kernel) rfl trivial ?_
      exact xr_iret (by decide +kernel) rfl ⟨_, _, rfl, rfl, h⟩
    · replace h := h.2 hc
      refine xr_blk (lv1 := [(2, .int (x2 + (-1 : Int32))), (0, .ref 80), (1, .int x1)]) (st1 := []) (S1 := rt v) (pc1 := 26) [(.iinc 2 (-1), .int (-1), 0, 0)] [] (by decide +kernel) rfl trivial ?_
      refine xr_goto (tgt := 4) (off := -22) (by decide +kernel) (by decide) ?_
      exact x_R.sub [1, 2, 0] rfl h
theorem ok_201 : x_mOK 201 := ⟨x_tm8 (List.mem_of_getElem? (i := 61) rfl) rfl, 114, by decide +kernel⟩
/-! X12_follows: method 202, ScrawlHouseModel.follows(II)V -/
set_option maxRecDepth 100000 in
theorem w_X12_follows_0 {E : Nat × (Nat → Int32)} {d : Nat} {v : xV} {x1 : Int32} {x2 : Int32} {Q : xV → Prop} (h : KI E d 200 [.ref 80, .int x2] v (fun y2 v1 => KI E d 201 [.ref 80, .int x1] v1 (fun y4 v3 => KI E d 200 [.ref 80, .int x1] v3 (fun y6 v5 => ((y2 ≤ y6 → RV E (d + 1) 202 64 [(0, .ref 80), (2, .int x2), (4, .int y4)] v5 Q) ∧ (¬ y2 ≤ y6 → RV E (d + 1) 202 25 [(0, .ref 80), (1, .int x1), (2, .int x2), (3, .int y2), (4, .int y4), (5, .int (nI 0))] v5 Q)))))) : RV E (d + 1) 202 0 [(0, .ref 80), (1, .int x1), (2, .int x2)] v Q := by
  unfold RV
  refine xr_blk (lv1 := [(0, .ref 80), (1, .int x1), (2, .int x2)]) (st1 := [.int x2, .ref 80]) (S1 := rt v) (pc1 := 2) [(.aload_n 0, .null, 0, 0), (.iload_n 2, .null, 0, 0)] [] (by decide +kernel) rfl trivial ?_
  refine xk_VI (As := [.int x2]) (bb := 80) (rest := []) (idx := 380) (i0 := 380) (m1 := 200) (ps := [1834, 1836, 88]) (by decide +kernel) (by decide +kernel) (by decide) rfl ((gK_s (by decide)).trans (by decide +kernel)) (by decide) (Nat.le_of_ble_eq_true rfl) rfl h (fun y2 v1 h => ?_)
  refine xr_blk (lv1 := [(3, .int y2), (0, .ref 80), (1, .int x1), (2, .int x2)]) (st1 := [.int x1, .ref 80]) (S1 := rt v1) (pc1 := 8) [(.istore_n 3, .null, 0, 0), (.aload_n 0, .null, 0, 0), (.iload_n 1, .null, 0, 0)] [] (by decide +kernel) rfl trivial ?_
  refine xk_VI (As := [.int x1]) (bb := 80) (rest := []) (idx := 383) (i0 := 383) (m1 := 201) (ps := [1838, 1840, 89]) (by decide +kernel) (by decide +kernel) (by decide) rfl ((gK_s (by decide)).trans (by decide +kernel)) (by decide) (Nat.le_of_ble_eq_true rfl) rfl h (fun y4 v3 h => ?_)
  refine xr_blk (lv1 := [(4, .int y4), (3, .int y2), (0, .ref 80), (1, .int x1), (2, .int x2)]) (st1 := [.int x1, .ref 80]) (S1 := rt v3) (pc1 := 15) [(.istore 4, .null, 0, 0), (.aload_n 0, .null, 0, 0), (.iload_n 1, .null, 0, 0)] [] (by decide +kernel) rfl trivial ?_
  refine xk_VI (As := [.int x1]) (bb := 80) (rest := []) (idx := 380) (i0 := 380) (m1 := 200) (ps := [1834, 1836, 88]) (by decide +kernel) (by decide +kernel) (by decide) rfl ((gK_s (by decide)).trans (by decide +kernel)) (by decide) (Nat.le_of_ble_eq_true rfl) rfl h (fun y6 v5 h => ?_)
  refine xr_blk (lv1 := [(4, .int y4), (3, .int y2), (0, .ref 80), (1, .int x1), (2, .int x2)]) (st1 := [.int y2, .int y6]) (S1 := rt v5) (pc1 := 19) [(.iload_n 3, .null, 0, 0)] [] (by decide +kernel) rfl trivial ?_
  refine xr_ic_ge (tgt := 64) (off := 45) (by decide +kernel) (by decide) (fun hc => ?_) (fun hc => ?_)
  · replace h := h.1 hc
    exact x_R.sub [2, 4, 0] rfl h
  · replace h := h.2 hc
    refine xr_blk (lv1 := [(5, .int (nI 0)), (4, .int y4), (3, .int y2), (0, .ref 80), (1, .int x1), (2, .int x2)]) (st1 := []) (S1 := rt v5) (pc1 := 25) [(.iconst 0, .int (nI 0), 0, 0), (.istore 5, .null, 0, 0)] [] (by decide +kernel) rfl trivial ?_
    exact x_R.sub [3, 4, 5, 2, 1, 0] rfl h
set_option maxRecDepth 100000 in
theorem w_X12_follows_25 {E : Nat × (Nat → Int32)} {d : Nat} {v : xV} {x1 : Int32} {x2 : Int32} {x3 : Int32} {x4 : Int32} {x5 : Int32} {Q : xV → Prop} (h : ((x3 ≤ x5 → RV E (d + 1) 202 59 [(0, .ref 80), (2, .int x2), (4, .int x4)] v Q) ∧ (¬ x3 ≤ x5 → (((nI 200) ≤ x5 → RV E (d + 1) 202 59 [(0, .ref 80), (2, .int x2), (4, .int x4)] v Q) ∧ (¬ (nI 200) ≤ x5 → vp_in (((nI 200) * x1) + x5) 10400 ∧ RV E (d + 1) 202 25 [(0, .ref 80), (1, .int x1), (2, .int x2), (3, .int x3), (4, .int x4), (5, .int (x5 + (nI 1)))] (v_A v 127 (upd (gA v 127) ((((nI 200) * x1) + x5)).toNatClampNeg (nI 0))) Q))))) : RV E (d + 1) 202 25 [(0, .ref 80), (1, .int x1), (2, .int x2), (3, .int x3), (4, .int x4), (5, .int x5)] v Q := by
  unfold RV
  refine xr_blk (lv1 := [(0, .ref 80), (1, .int x1), (2, .int x2), (3, .int x3), (4, .int x4), (5, .int x5)]) (st1 := [.int x3, .int x5]) (S1 := rt v) (pc1 := 28) [(.iload 5, .null, 0, 0), (.iload_n 3, .null, 0, 0)] [] (by decide +kernel) rfl trivial ?_
  refine xr_ic_ge (tgt := 59) (off := 31) (by decide +kernel) (by decide) (fun hc => ?_) (fun hc => ?_)
  · replace h := h.1 hc
    exact x_R.sub [0, 2, 4] rfl h
  · replace h := h.2 hc
    refine xr_blk (lv1 := [(0, .ref 80), (1, .int x1), (2, .int x2), (3, .int x3), (4, .int x4), (5, .int x5)]) (st1 := [.int (nI 200), .int x5]) (S1 := rt v) (pc1 := 36) [(.iload 5, .null, 0, 0), (.sipush 200, .int (nI 200), 0, 0)] [] (by decide +kernel) rfl trivial ?_
    refine xr_ic_ge (tgt := 59) (off := 23) (by decide +kernel) (by decide) (fun hc => ?_) (fun hc => ?_)
    · replace h := h.1 hc
      exact x_R.sub [0, 2, 4] rfl h
    · replace h := h.2 hc
      obtain ⟨hb1, h⟩ := h
      refine xr_blk (lv1 := [(5, .int (x5 + (nI 1))), (0, .ref 80), (1, .int x1), (2, .int x2), (3, .int x3), (4, .int x4)]) (st1 := []) (S1 := rt (v_A v 127 (upd (gA v 127) ((((nI 200) * x1) + x5)).toNatClampNeg (nI 0)))) (pc1 := 56) [(.aload_n 0, .null, 0, 0), (.getfield 154, .null, 12, 71), (.sipush 200, .int (nI 200), 0, 0), (.iload_n 1, .null, 0, 0), (.imul, .null, 0, 0), (.iload 5, .null, 0, 0), (.iadd, .null, 0, 0), (.iconst 0, .int (nI 0), 0, 0), (.bastore, .null, 0, 0), (.iinc 5 1, .int (nI 1), 0, 0)] [((((nI 200) * x1) + x5), 10400), ((nI 0), 2)] (by decide +kernel) rfl ⟨hb1, x_inl (by decide), trivial⟩ ?_
      refine xr_goto (tgt := 25) (off := -31) (by decide +kernel) (by decide) ?_
      exact x_R.sub [1, 2, 3, 4, 5, 0] rfl h
set_option maxRecDepth 100000 in
theorem w_X12_follows_59 {E : Nat × (Nat → Int32)} {d : Nat} {v : xV} {x2 : Int32} {x4 : Int32} {Q : xV → Prop} (h : RV E (d + 1) 202 64 [(0, .ref 80), (2, .int x2), (4, .int x4)] (v_I v 80 73 (nI 1)) Q) : RV E (d + 1) 202 59 [(0, .ref 80), (2, .int x2), (4, .int x4)] v Q := by
  unfold RV
  refine xr_blk (lv1 := [(0, .ref 80), (2, .int x2), (4, .int x4)]) (st1 := []) (S1 := rt (v_I v 80 73 (nI 1))) (pc1 := 64) [(.aload_n 0, .null, 0, 0), (.iconst 1, .int (nI 1), 0, 0), (.putfield 386, .null, 12, 73)] [((nI 1), 2)] (by decide +kernel) rfl ⟨x_inl (by decide), trivial⟩ ?_
  exact x_R.sub [0, 1, 2] rfl h
set_option maxRecDepth 100000 in
theorem w_X12_follows_64 {E : Nat × (Nat → Int32)} {d : Nat} {v : xV} {x2 : Int32} {x4 : Int32} {Q : xV → Prop} (h : KI E d 201 [.ref 80, .int x2] v (fun y2 v1 => ((y2 ≤ x4 → Q v1) ∧ (¬ y2 ≤ x4 → ∀ y3 : Int32, y3 = (x4 + (nI 1)) → RV E (d + 1) 202 80 [(0, .ref 80), (2, .int x2), (5, .int y3)] v1 Q)))) : RV E (d + 1) 202 64 [(0, .ref 80), (2, .int x2), (4, .int x4)] v Q := by
  unfold RV
  refine xr_blk (lv1 := [(0, .ref 80), (2, .int x2), (4, .int x4)]) (st1 := [.int x2, .ref 80]) (S1 := rt v) (pc1 := 66) [(.aload_n 0, .null, 0, 0), (.iload_n 2, .null, 0, 0)] [] (by decide +kernel) rfl trivial ?_
  refine xk_VI (As := [.int x2]) (bb := 80) (rest := []) (idx := 383) (i0 := 383) (m1 := 201) (ps := [1838, 1840, 89]) (by decide +kernel) (by decide +kernel) (by decide) rfl ((gK_s (by decide)).trans (by decide +kernel)) (by decide) (Nat.le_of_ble_eq_true rfl) rfl h (fun y2 v1 h => ?_)
  refine xr_blk (lv1 := [(0, .ref 80), (2, .int x2), (4, .int x4)]) (st1 := [.int x4, .int y2]) (S1 := rt v1) (pc1 := 71) [(.iload 4, .null, 0, 0)] [] (by decide +kernel) rfl trivial ?_
  refine xr_ic_le (tgt := 113) (off := 42) (by decide +kernel) (by decide) (fun hc => ?_) (fun hc => ?_)
  · replace h := h.1 hc
    exact xr_ret0 (by decide +kernel) rfl ⟨_, rfl, rfl, h⟩
  · replace h := h.2 hc
    refine xr_blk (lv1 := [(0, .ref 80), (2, .int x2), (4, .int x4)]) (st1 := [.int (x4 + (nI 1))]) (S1 := rt v1) (pc1 := 78) [(.iload 4, .null, 0, 0), (.iconst 1, .int (nI 1), 0, 0), (.iadd, .null, 0, 0)] [] (by decide +kernel) rfl trivial ?_
    refine xr_topi (fun y3 ey3 => ?_)
    replace h := h y3 ey3
    refine xr_blk (lv1 := [(5, .int y3), (0, .ref 80), (2, .int x2), (4, .int x4)]) (st1 := []) (S1 := rt v1) (pc1 := 80) [(.istore 5, .null, 0, 0)] [] (by decide +kernel) rfl trivial ?_
    exact x_R.sub [1, 2, 0] rfl h
set_option maxRecDepth 100000 in
theorem w_X12_follows_80 {E : Nat × (Nat → Int32)} {d : Nat} {v : xV} {x2 : Int32} {x5 : Int32} {Q : xV → Prop} (h : (((nI 200) ≤ x5 → Q (v_I v 80 73 (nI 1))) ∧ (¬ (nI 200) ≤ x5 → vp_in (((nI 200) * x2) + x5) 10400 ∧ RV E (d + 1) 202 80 [(0, .ref 80), (2, .int x2), (5, .int (x5 + (nI 1)))] (v_A v 127 (upd (gA v 127) ((((nI 200) * x2) + x5)).toNatClampNeg (nI 0))) Q))) : RV E (d + 1) 202 80 [(0, .ref 80), (2, .int x2), (5, .int x5)] v Q := by
  unfold RV
  refine xr_blk (lv1 := [(0, .ref 80), (2, .int x2), (5, .int x5)]) (st1 := [.int (nI 200), .int x5]) (S1 := rt v) (pc1 := 85) [(.iload 5, .null, 0, 0), (.sipush 200, .int (nI 200), 0, 0)] [] (by decide +kernel) rfl trivial ?_
  refine xr_ic_ge (tgt := 108) (off := 23) (by decide +kernel) (by decide) (fun hc => ?_) (fun hc => ?_)
  · replace h := h.1 hc
    refine xr_blk (lv1 := [(0, .ref 80), (2, .int x2), (5, .int x5)]) (st1 := []) (S1 := rt (v_I v 80 73 (nI 1))) (pc1 := 113) [(.aload_n 0, .null, 0, 0), (.iconst 1, .int (nI 1), 0, 0), (.putfield 386, .null, 12, 73)] [((nI 1), 2)] (by decide +kernel) rfl ⟨x_inl (by decide), trivial⟩ ?_
    exact xr_ret0 (by decide +kernel) rfl ⟨_, rfl, rfl, h⟩
  · replace h := h.2 hc
    obtain ⟨hb1, h⟩ := h
    refine xr_blk (lv1 := [(5, .int (x5 + (nI 1))), (0, .ref 80), (2, .int x2)]) (st1 := []) (S1 := rt (v_A v 127 (upd (gA v 127) ((((nI 200) * x2) + x5)).toNatClampNeg (nI 0)))) (pc1 := 105) [(.aload_n 0, .null, 0, 0), (.getfield 154, .null, 12, 71), (.sipush 200, .int (nI 200), 0, 0), (.iload_n 2, .null, 0, 0), (.imul, .null, 0, 0), (.iload 5, .null, 0, 0), (.iadd, .null, 0, 0), (.iconst 0, .int (nI 0), 0, 0), (.bastore, .null, 0, 0), (.iinc 5 1, .int (nI 1), 0, 0)] [((((nI 200) * x2) + x5), 10400), ((nI 0), 2)] (by decide +kernel) rfl ⟨hb1, x_inl (by decide), trivial⟩ ?_
    refine xr_goto (tgt := 80) (off := -25) (by decide +kernel) (by decide) ?_
    exact x_R.sub [1, 2, 0] rfl h
theorem ok_202 : x_mOK 202 := ⟨x_tm8 (List.mem_of_getElem? (i := 53) rfl) rfl, 114, by decide +kernel⟩
/-! X12_counts: method 203, ScrawlHouseModel.counts(IIII)Z -/
set_option maxRecDepth 100000 in
theorem w_X12_counts_0 {E : Nat × (Nat → Int32)} {d : Nat} {v : xV} {x1 : Int32} {x2 : Int32} {x3 : Int32} {x4 : Int32} {Q : Int32 → xV → Prop} (h : ((x3 < x1 → Q (nI 0) v) ∧ (¬ x3 < x1 → vp_in x1 80 ∧ ((x2 < ((gA v 126) (x1).toNatClampNeg) → Q (nI 0) v) ∧ (¬ x2 < ((gA v 126) (x1).toNatClampNeg) → vp_in x1 80 ∧ ((¬ ((gA v 121) (x1).toNatClampNeg) = x4 → Q (nI 0) v) ∧ (((gA v 121) (x1).toNatClampNeg) = x4 → Q (nI 1) v))))))) : RI E d 203 0 [(0, .ref 80), (1, .int x1), (2, .int x2), (3, .int x3), (4, .int x4)] v Q := by
  unfold RI
  refine xr_blk (lv1 := [(0, .ref 80), (1, .int x1), (2, .int x2), (3, .int x3), (4, .int x4)]) (st1 := [.int x3, .int x1]) (S1 := rt v) (pc1 := 2) [(.iload_n 1, .null, 0, 0), (.iload_n 3, .null, 0, 0)] [] (by decide +kernel) rfl trivial ?_
  refine xr_ic_gt (tgt := 30) (off := 28) (by decide +kernel) (by decide) (fun hc => ?_) (fun hc => ?_)
  · replace h := h.1 hc
    refine xr_blk (lv1 := [(0, .ref 80), (1, .int x1), (2, .int x2), (3, .int x3), (4, .int x4)]) (st1 := [.int (nI 0)]) (S1 := rt v) (pc1 := 31) [(.iconst 0, .int (nI 0), 0, 0)] [] (by decide +kernel) rfl trivial ?_
    exact xr_zret (by decide +kernel) rfl x_in2_0 ⟨_, _, rfl, rfl, h⟩
  · replace h := h.2 hc
    obtain ⟨hb1, h⟩ := h
    refine xr_blk (lv1 := [(0, .ref 80), (1, .int x1), (2, .int x2), (3, .int x3), (4, .int x4)]) (st1 := [.int x2, .int ((gA v 126) (x1).toNatClampNeg)]) (S1 := rt v) (pc1 := 12) [(.aload_n 0, .null, 0, 0), (.getfield 151, .null, 12, 69), (.iload_n 1, .null, 0, 0), (.iaload, .null, 0, 0), (.iload_n 2, .null, 0, 0)] [(x1, 80)] (by decide +kernel) rfl ⟨hb1, trivial⟩ ?_
    refine xr_ic_gt (tgt := 30) (off := 18) (by decide +kernel) (by decide) (fun hc => ?_) (fun hc => ?_)
    · replace h := h.1 hc
      refine xr_blk (lv1 := [(0, .ref 80), (1, .int x1), (2, .int x2), (3, .int x3), (4, .int x4)]) (st1 := [.int (nI 0)]) (S1 := rt v) (pc1 := 31) [(.iconst 0, .int (nI 0), 0, 0)] [] (by decide +kernel) rfl trivial ?_
      exact xr_zret (by decide +kernel) rfl x_in2_0 ⟨_, _, rfl, rfl, h⟩
    · replace h := h.2 hc
      obtain ⟨hb2, h⟩ := h
      refine xr_blk (lv1 := [(0, .ref 80), (1, .int x1), (2, .int x2), (3, .int x3), (4, .int x4)]) (st1 := [.int x4, .int ((gA v 121) (x1).toNatClampNeg)]) (S1 := rt v) (pc1 := 23) [(.aload_n 0, .null, 0, 0), (.getfield 136, .null, 12, 64), (.iload_n 1, .null, 0, 0), (.iaload, .null, 0, 0), (.iload 4, .null, 0, 0)] [(x1, 80)] (by decide +kernel) rfl ⟨hb2, trivial⟩ ?_
      refine xr_ic_ne (tgt := 30) (off := 7) (by decide +kernel) (by decide) (fun hc => ?_) (fun hc => ?_)
      · replace h := h.1 hc
        refine xr_blk (lv1 := [(0, .ref 80), (1, .int x1), (2, .int x2), (3, .int x3), (4, .int x4)]) (st1 := [.int (nI 0)]) (S1 := rt v) (pc1 := 31) [(.iconst 0, .int (nI 0), 0, 0)] [] (by decide +kernel) rfl trivial ?_
        exact xr_zret (by decide +kernel) rfl x_in2_0 ⟨_, _, rfl, rfl, h⟩
      · replace h := h.2 hc
        refine xr_blk (lv1 := [(0, .ref 80), (1, .int x1), (2, .int x2), (3, .int x3), (4, .int x4)]) (st1 := [.int (nI 1)]) (S1 := rt v) (pc1 := 27) [(.iconst 1, .int (nI 1), 0, 0)] [] (by decide +kernel) rfl trivial ?_
        refine xr_goto (tgt := 31) (off := 4) (by decide +kernel) (by decide) ?_
        exact xr_zret (by decide +kernel) rfl x_in2_1 ⟨_, _, rfl, rfl, h⟩
theorem ok_203 : x_mOK 203 := ⟨x_tm8 (List.mem_of_getElem? (i := 34) rfl) rfl, 114, by decide +kernel⟩
/-! X12_settle: method 204, ScrawlHouseModel.settle(II)V -/
set_option maxRecDepth 100000 in
theorem w_X12_settle_0 {E : Nat × (Nat → Int32)} {d : Nat} {v : xV} {x1 : Int32} {x2 : Int32} {Q : xV → Prop} (h : KV E d 182 [.ref 80, .int x1] v (fun v1 => RV E (d + 1) 204 7 [(0, .ref 80), (1, .int x1), (2, .int x2), (3, .int (nI 0))] v1 Q)) : RV E (d + 1) 204 0 [(0, .ref 80), (1, .int x1), (2, .int x2)] v Q := by
  unfold RV
  refine xr_blk (lv1 := [(0, .ref 80), (1, .int x1), (2, .int x2)]) (st1 := [.int x1, .ref 80]) (S1 := rt v) (pc1 := 2) [(.aload_n 0, .null, 0, 0), (.iload_n 1, .null, 0, 0)] [] (by decide +kernel) rfl trivial ?_
  refine xk_VV (As := [.int x1]) (bb := 80) (rest := []) (idx := 356) (i0 := 356) (m1 := 182) (ps := [1736, 1738, 71]) (by decide +kernel) (by decide +kernel) (by decide) rfl ((gK_s (by decide)).trans (by decide +kernel)) (by decide) (Nat.le_of_ble_eq_true rfl) rfl h (fun v1 h => ?_)
  refine xr_blk (lv1 := [(3, .int (nI 0)), (0, .ref 80), (1, .int x1), (2, .int x2)]) (st1 := []) (S1 := rt v1) (pc1 := 7) [(.iconst 0, .int (nI 0), 0, 0), (.istore_n 3, .null, 0, 0)] [] (by decide +kernel) rfl trivial ?_
  exact x_R.sub [1, 2, 3, 0] rfl h
set_option maxRecDepth 100000 in
theorem w_X12_settle_7 {E : Nat × (Nat → Int32)} {d : Nat} {v : xV} {x1 : Int32} {x2 : Int32} {x3 : Int32} {Q : xV → Prop} (h : (((nI 10400) ≤ x3 → RV E (d + 1) 204 29 [(0, .ref 80), (1, .int x1), (2, .int x2), (3, .int (nI 0))] v Q) ∧ (¬ (nI 10400) ≤ x3 → vp_in x3 10400 ∧ RV E (d + 1) 204 7 [(0, .ref 80), (1, .int x1), (2, .int x2), (3, .int (x3 + (nI 1)))] (v_A v 127 (upd (gA v 127) (x3).toNatClampNeg (nI 1))) Q))) : RV E (d + 1) 204 7 [(0, .ref 80), (1, .int x1), (2, .int x2), (3, .int x3)] v Q := by
  unfold RV
  refine xr_blk (lv1 := [(0, .ref 80), (1, .int x1), (2, .int x2), (3, .int x3)]) (st1 := [.int (nI 10400), .int x3]) (S1 := rt v) (pc1 := 11) [(.iload_n 3, .null, 0, 0), (.sipush 10400, .int (nI 10400), 0, 0)] [] (by decide +kernel) rfl trivial ?_
  refine xr_ic_ge (tgt := 27) (off := 16) (by decide +kernel) (by decide) (fun hc => ?_) (fun hc => ?_)
  · replace h := h.1 hc
    refine xr_blk (lv1 := [(3, .int (nI 0)), (0, .ref 80), (1, .int x1), (2, .int x2)]) (st1 := []) (S1 := rt v) (pc1 := 29) [(.iconst 0, .int (nI 0), 0, 0), (.istore_n 3, .null, 0, 0)] [] (by decide +kernel) rfl trivial ?_
    exact x_R.sub [1, 2, 3, 0] rfl h
  · replace h := h.2 hc
    obtain ⟨hb1, h⟩ := h
    refine xr_blk (lv1 := [(3, .int (x3 + (nI 1))), (0, .ref 80), (1, .int x1), (2, .int x2)]) (st1 := []) (S1 := rt (v_A v 127 (upd (gA v 127) (x3).toNatClampNeg (nI 1)))) (pc1 := 24) [(.aload_n 0, .null, 0, 0), (.getfield 154, .null, 12, 71), (.iload_n 3, .null, 0, 0), (.iconst 1, .int (nI 1), 0, 0), (.bastore, .null, 0, 0), (.iinc 3 1, .int (nI 1), 0, 0)] [(x3, 10400), ((nI 1), 2)] (by decide +kernel) rfl ⟨hb1, x_inl (by decide), trivial⟩ ?_
    refine xr_goto (tgt := 7) (off := -17) (by decide +kernel) (by decide) ?_
    exact x_R.sub [1, 2, 3, 0] rfl h
set_option maxRecDepth 100000 in
theorem w_X12_settle_29 {E : Nat × (Nat → Int32)} {d : Nat} {v : xV} {x1 : Int32} {x2 : Int32} {x3 : Int32} {Q : xV → Prop} (h : (((gI v 80 70) ≤ x3 → RV E (d + 1) 204 120 [(0, .ref 80), (1, .int x1), (2, .int x2), (3, .int (nI 0))] v Q) ∧ (¬ (gI v 80 70) ≤ x3 → KI E d 203 [.ref 80, .int x3, .int x1, .int x2, .int (nI 0)] v (fun y2 v1 => ((y2 = (nI 0) → RV E (d + 1) 204 79 [(0, .ref 80), (1, .int x1), (2, .int x2), (3, .int x3)] v1 Q) ∧ (¬ y2 = (nI 0) → vp_in x3 80 ∧ vp_in x3 80 ∧ KI E d 198 [.int ((gA v1 122) (x3).toNatClampNeg), .int ((gA v1 123) (x3).toNatClampNeg)] v1 (fun y6 v5 => vp_in x3 80 ∧ vp_in x3 80 ∧ KV E d 199 [.ref 80, .int y6, .int ((gA v5 124) (x3).toNatClampNeg), .int ((gA v5 125) (x3).toNatClampNeg)] v5 (fun v9 => RV E (d + 1) 204 79 [(0, .ref 80), (1, .int x1), (2, .int x2), (3, .int x3)] v9 Q)))))))) : RV E (d + 1) 204 29 [(0, .ref 80), (1, .int x1), (2, .int x2), (3, .int x3)] v Q := by
  unfold RV
  refine xr_blk (lv1 := [(0, .ref 80), (1, .int x1), (2, .int x2), (3, .int x3)]) (st1 := [.int (gI v 80 70), .int x3]) (S1 := rt v) (pc1 := 34) [(.iload_n 3, .null, 0, 0), (.aload_n 0, .null, 0, 0), (.getfield 377, .null, 12, 70)] [] (by decide +kernel) rfl trivial ?_
  refine xr_ic_ge (tgt := 118) (off := 84) (by decide +kernel) (by decide) (fun hc => ?_) (fun hc => ?_)
  · replace h := h.1 hc
    refine xr_blk (lv1 := [(3, .int (nI 0)), (0, .ref 80), (1, .int x1), (2, .int x2)]) (st1 := []) (S1 := rt v) (pc1 := 120) [(.iconst 0, .int (nI 0), 0, 0), (.istore_n 3, .null, 0, 0)] [] (by decide +kernel) rfl trivial ?_
    exact x_R.sub [1, 2, 3, 0] rfl h
  · replace h := h.2 hc
    refine xr_blk (lv1 := [(0, .ref 80), (1, .int x1), (2, .int x2), (3, .int x3)]) (st1 := [.int (nI 0), .int x2, .int x1, .int x3, .ref 80]) (S1 := rt v) (pc1 := 42) [(.aload_n 0, .null, 0, 0), (.iload_n 3, .null, 0, 0), (.iload_n 1, .null, 0, 0), (.iload_n 2, .null, 0, 0), (.iconst 0, .int (nI 0), 0, 0)] [] (by decide +kernel) rfl trivial ?_
    refine xk_VI (As := [.int x3, .int x1, .int x2, .int (nI 0)]) (bb := 80) (rest := []) (idx := 390) (i0 := 390) (m1 := 203) (ps := [1811, 1813, 83]) (by decide +kernel) (by decide +kernel) (by decide) rfl ((gK_s (by decide)).trans (by decide +kernel)) (by decide) (Nat.le_of_ble_eq_true rfl) rfl h (fun y2 v1 h => ?_)
    refine xr_if_eq (tgt := 79) (off := 34) (by decide +kernel) (by decide) (fun hc => ?_) (fun hc => ?_)
    · replace h := h.1 hc
      exact x_R.sub [0, 1, 2, 3] rfl h
    · replace h := h.2 hc
      obtain ⟨hb3, h⟩ := h
      obtain ⟨hb4, h⟩ := h
      refine xr_blk (lv1 := [(0, .ref 80), (1, .int x1), (2, .int x2), (3, .int x3)]) (st1 := [.int ((gA v1 123) (x3).toNatClampNeg), .int ((gA v1 122) (x3).toNatClampNeg), .ref 80]) (S1 := rt v1) (pc1 := 61) [(.aload_n 0, .null, 0, 0), (.aload_n 0, .null, 0, 0), (.getfield 139, .null, 12, 65), (.iload_n 3, .null, 0, 0), (.iaload, .null, 0, 0), (.aload_n 0, .null, 0, 0), (.getfield 142, .null, 12, 66), (.iload_n 3, .null, 0, 0), (.iaload, .null, 0, 0)] [(x3, 80), (x3, 80)] (by decide +kernel) rfl ⟨hb3, hb4, trivial⟩ ?_
      refine xk_SI (As := [.int ((gA v1 122) (x3).toNatClampNeg), .int ((gA v1 123) (x3).toNatClampNeg)]) (rest := [.ref 80]) (idx := 393) (i0 := 393) (m1 := 198) (ps := [1815, 1816]) (by decide +kernel) (by decide +kernel) (by decide) rfl (Nat.le_of_ble_eq_true rfl) rfl h (fun y6 v5 h => ?_)
      obtain ⟨hb7, h⟩ := h
      obtain ⟨hb8, h⟩ := h
      refine xr_blk (lv1 := [(0, .ref 80), (1, .int x1), (2, .int x2), (3, .int x3)]) (st1 := [.int ((gA v5 125) (x3).toNatClampNeg), .int ((gA v5 124) (x3).toNatClampNeg), .int y6, .ref 80]) (S1 := rt v5) (pc1 := 76) [(.aload_n 0, .null, 0, 0), (.getfield 145, .null, 12, 67), (.iload_n 3, .null, 0, 0), (.iaload, .null, 0, 0), (.aload_n 0, .null, 0, 0), (.getfield 148, .null, 12, 68), (.iload_n 3, .null, 0, 0), (.iaload, .null, 0, 0)] [(x3, 80), (x3, 80)] (by decide +kernel) rfl ⟨hb7, hb8, trivial⟩ ?_
      refine xk_VV (As := [.int y6, .int ((gA v5 124) (x3).toNatClampNeg), .int ((gA v5 125) (x3).toNatClampNeg)]) (bb := 80) (rest := []) (idx := 396) (i0 := 396) (m1 := 199) (ps := [1818, 1820, 84]) (by decide +kernel) (by decide +kernel) (by decide) rfl ((gK_s (by decide)).trans (by decide +kernel)) (by decide) (Nat.le_of_ble_eq_true rfl) rfl h (fun v9 h => ?_)
      exact x_R.sub [0, 1, 2, 3] rfl h
set_option maxRecDepth 100000 in
theorem w_X12_settle_79 {E : Nat × (Nat → Int32)} {d : Nat} {v : xV} {x1 : Int32} {x2 : Int32} {x3 : Int32} {Q : xV → Prop} (h : KI E d 203 [.ref 80, .int x3, .int x1, .int x2, .int (nI 1)] v (fun y2 v1 => ((y2 = (nI 0) → RV E (d + 1) 204 29 [(0, .ref 80), (1, .int x1), (2, .int x2), (3, .int (x3 + (nI 1)))] v1 Q) ∧ (¬ y2 = (nI 0) → vp_in x3 80 ∧ vp_in x3 80 ∧ vp_in x3 80 ∧ KV E d 199 [.ref 80, .int ((gA v1 122) (x3).toNatClampNeg), .int ((gA v1 124) (x3).toNatClampNeg), .int ((gA v1 125) (x3).toNatClampNeg)] v1 (fun v6 => RV E (d + 1) 204 29 [(0, .ref 80), (1, .int x1), (2, .int x2), (3, .int (x3 + (nI 1)))] v6 Q))))) : RV E (d + 1) 204 79 [(0, .ref 80), (1, .int x1), (2, .int x2), (3, .int x3)] v Q := by
  unfold RV
  refine xr_blk (lv1 := [(0, .ref 80), (1, .int x1), (2, .int x2), (3, .int x3)]) (st1 := [.int (nI 1), .int x2, .int x1, .int x3, .ref 80]) (S1 := rt v) (pc1 := 84) [(.aload_n 0, .null, 0, 0), (.iload_n 3, .null, 0, 0), (.iload_n 1, .null, 0, 0), (.iload_n 2, .null, 0, 0), (.iconst 1, .int (nI 1), 0, 0)] [] (by decide +kernel) rfl trivial ?_
  refine xk_VI (As := [.int x3, .int x1, .int x2, .int (nI 1)]) (bb := 80) (rest := []) (idx := 390) (i0 := 390) (m1 := 203) (ps := [1811, 1813, 83]) (by decide +kernel) (by decide +kernel) (by decide) rfl ((gK_s (by decide)).trans (by decide +kernel)) (by decide) (Nat.le_of_ble_eq_true rfl) rfl h (fun y2 v1 h => ?_)
  refine xr_if_eq (tgt := 112) (off := 25) (by decide +kernel) (by decide) (fun hc => ?_) (fun hc => ?_)
  · replace h := h.1 hc
    refine xr_blk (lv1 := [(3, .int (x3 + (nI 1))), (0, .ref 80), (1, .int x1), (2, .int x2)]) (st1 := []) (S1 := rt v1) (pc1 := 115) [(.iinc 3 1, .int (nI 1), 0, 0)] [] (by decide +kernel) rfl trivial ?_
    refine xr_goto (tgt := 29) (off := -86) (by decide +kernel) (by decide) ?_
    exact x_R.sub [1, 2, 3, 0] rfl h
  · replace h := h.2 hc
    obtain ⟨hb3, h⟩ := h
    obtain ⟨hb4, h⟩ := h
    obtain ⟨hb5, h⟩ := h
    refine xr_blk (lv1 := [(0, .ref 80), (1, .int x1), (2, .int x2), (3, .int x3)]) (st1 := [.int ((gA v1 125) (x3).toNatClampNeg), .int ((gA v1 124) (x3).toNatClampNeg), .int ((gA v1 122) (x3).toNatClampNeg), .ref 80]) (S1 := rt v1) (pc1 := 109) [(.aload_n 0, .null, 0, 0), (.aload_n 0, .null, 0, 0), (.getfield 139, .null, 12, 65), (.iload_n 3, .null, 0, 0), (.iaload, .null, 0, 0), (.aload_n 0, .null, 0, 0), (.getfield 145, .null, 12, 67), (.iload_n 3, .null, 0, 0), (.iaload, .null, 0, 0), (.aload_n 0, .null, 0, 0), (.getfield 148, .null, 12, 68), (.iload_n 3, .null, 0, 0), (.iaload, .null, 0, 0)] [(x3, 80), (x3, 80), (x3, 80)] (by decide +kernel) rfl ⟨hb3, hb4, hb5, trivial⟩ ?_
    refine xk_VV (As := [.int ((gA v1 122) (x3).toNatClampNeg), .int ((gA v1 124) (x3).toNatClampNeg), .int ((gA v1 125) (x3).toNatClampNeg)]) (bb := 80) (rest := []) (idx := 396) (i0 := 396) (m1 := 199) (ps := [1818, 1820, 84]) (by decide +kernel) (by decide +kernel) (by decide) rfl ((gK_s (by decide)).trans (by decide +kernel)) (by decide) (Nat.le_of_ble_eq_true rfl) rfl h (fun v6 h => ?_)
    refine xr_blk (lv1 := [(3, .int (x3 + (nI 1))), (0, .ref 80), (1, .int x1), (2, .int x2)]) (st1 := []) (S1 := rt v6) (pc1 := 115) [(.iinc 3 1, .int (nI 1), 0, 0)] [] (by decide +kernel) rfl trivial ?_
    refine xr_goto (tgt := 29) (off := -86) (by decide +kernel) (by decide) ?_
    exact x_R.sub [1, 2, 3, 0] rfl h
set_option maxRecDepth 100000 in
theorem w_X12_settle_120 {E : Nat × (Nat → Int32)} {d : Nat} {v : xV} {x1 : Int32} {x2 : Int32} {x3 : Int32} {Q : xV → Prop} (h : (((gI v 80 50) ≤ x3 → RV E (d + 1) 204 156 [(0, .ref 80), (1, .int x1), (2, .int x2)] (v_I v 80 73 (nI 1)) Q) ∧ (¬ (gI v 80 50) ≤ x3 → vp_in x3 20 ∧ ((x1 < ((gA v 103) (x3).toNatClampNeg) → RV E (d + 1) 204 120 [(0, .ref 80), (1, .int x1), (2, .int x2), (3, .int (x3 + (nI 1)))] v Q) ∧ (¬ x1 < ((gA v 103) (x3).toNatClampNeg) → KV E d 206 [.ref 80, .int x3, .int x1, .int x2] v (fun v2 => RV E (d + 1) 204 120 [(0, .ref 80), (1, .int x1), (2, .int x2), (3, .int (x3 + (nI 1)))] v2 Q)))))) : RV E (d + 1) 204 120 [(0, .ref 80), (1, .int x1), (2, .int x2), (3, .int x3)] v Q := by
  unfold RV
  refine xr_blk (lv1 := [(0, .ref 80), (1, .int x1), (2, .int x2), (3, .int x3)]) (st1 := [.int (gI v 80 50), .int x3]) (S1 := rt v) (pc1 := 125) [(.iload_n 3, .null, 0, 0), (.aload_n 0, .null, 0, 0), (.getfield 297, .null, 12, 50)] [] (by decide +kernel) rfl trivial ?_
  refine xr_ic_ge (tgt := 151) (off := 26) (by decide +kernel) (by decide) (fun hc => ?_) (fun hc => ?_)
  · replace h := h.1 hc
    refine xr_blk (lv1 := [(0, .ref 80), (1, .int x1), (2, .int x2), (3, .int x3)]) (st1 := []) (S1 := rt (v_I v 80 73 (nI 1))) (pc1 := 156) [(.aload_n 0, .null, 0, 0), (.iconst 1, .int (nI 1), 0, 0), (.putfield 386, .null, 12, 73)] [((nI 1), 2)] (by decide +kernel) rfl ⟨x_inl (by decide), trivial⟩ ?_
    exact x_R.sub [0, 1, 2] rfl h
  · replace h := h.2 hc
    obtain ⟨hb1, h⟩ := h
    refine xr_blk (lv1 := [(0, .ref 80), (1, .int x1), (2, .int x2), (3, .int x3)]) (st1 := [.int x1, .int ((gA v 103) (x3).toNatClampNeg)]) (S1 := rt v) (pc1 := 135) [(.aload_n 0, .null, 0, 0), (.getfield 81, .null, 12, 41), (.iload_n 3, .null, 0, 0), (.iaload, .null, 0, 0), (.iload_n 1, .null, 0, 0)] [(x3, 20)] (by decide +kernel) rfl ⟨hb1, trivial⟩ ?_
    refine xr_ic_gt (tgt := 145) (off := 10) (by decide +kernel) (by decide) (fun hc => ?_) (fun hc => ?_)
    · replace h := h.1 hc
      refine xr_blk (lv1 := [(3, .int (x3 + (nI 1))), (0, .ref 80), (1, .int x1), (2, .int x2)]) (st1 := []) (S1 := rt v) (pc1 := 148) [(.iinc 3 1, .int (nI 1), 0, 0)] [] (by decide +kernel) rfl trivial ?_
      refine xr_goto (tgt := 120) (off := -28) (by decide +kernel) (by decide) ?_
      exact x_R.sub [1, 2, 3, 0] rfl h
    · replace h := h.2 hc
      refine xr_blk (lv1 := [(0, .ref 80), (1, .int x1), (2, .int x2), (3, .int x3)]) (st1 := [.int x2, .int x1, .int x3, .ref 80]) (S1 := rt v) (pc1 := 142) [(.aload_n 0, .null, 0, 0), (.iload_n 3, .null, 0, 0), (.iload_n 1, .null, 0, 0), (.iload_n 2, .null, 0, 0)] [] (by decide +kernel) rfl trivial ?_
      refine xk_VV (As := [.int x3, .int x1, .int x2]) (bb := 80) (rest := []) (idx := 399) (i0 := 399) (m1 := 206) (ps := [1822, 1824, 85]) (by decide +kernel) (by decide +kernel) (by decide) rfl ((gK_s (by decide)).trans (by decide +kernel)) (by decide) (Nat.le_of_ble_eq_true rfl) rfl h (fun v2 h => ?_)
      refine xr_blk (lv1 := [(3, .int (x3 + (nI 1))), (0, .ref 80), (1, .int x1), (2, .int x2)]) (st1 := []) (S1 := rt v2) (pc1 := 148) [(.iinc 3 1, .int (nI 1), 0, 0)] [] (by decide +kernel) rfl trivial ?_
      refine xr_goto (tgt := 120) (off := -28) (by decide +kernel) (by decide) ?_
      exact x_R.sub [1, 2, 3, 0] rfl h
set_option maxRecDepth 100000 in
theorem w_X12_settle_156 {E : Nat × (Nat → Int32)} {d : Nat} {v : xV} {x1 : Int32} {x2 : Int32} {Q : xV → Prop} (h : (((gI v 80 73) = (nI 0) → KI E d 205 [.ref 80, .int x1] v (fun y2 v1 => ((¬ y2 = (nI 0) → Q (v_I v1 80 72 (nI 0))) ∧ (y2 = (nI 0) → Q (v_I v1 80 72 (nI 1)))))) ∧ (¬ (gI v 80 73) = (nI 0) → RV E (d + 1) 204 170 [(0, .ref 80), (1, .int x1), (2, .int x2), (3, .int (nI 0))] (v_I v 80 73 (nI 0)) Q))) : RV E (d + 1) 204 156 [(0, .ref 80), (1, .int x1), (2, .int x2)] v Q := by
  unfold RV
  refine xr_blk (lv1 := [(0, .ref 80), (1, .int x1), (2, .int x2)]) (st1 := [.int (gI v 80 73)]) (S1 := rt v) (pc1 := 160) [(.aload_n 0, .null, 0, 0), (.getfield 386, .null, 12, 73)] [] (by decide +kernel) rfl trivial ?_
  refine xr_if_eq (tgt := 381) (off := 221) (by decide +kernel) (by decide) (fun hc => ?_) (fun hc => ?_)
  · replace h := h.1 hc
    refine xr_blk (lv1 := [(0, .ref 80), (1, .int x1), (2, .int x2)]) (st1 := [.int x1, .ref 80, .ref 80]) (S1 := rt v) (pc1 := 384) [(.aload_n 0, .null, 0, 0), (.aload_n 0, .null, 0, 0), (.iload_n 1, .null, 0, 0)] [] (by decide +kernel) rfl trivial ?_
    refine xk_VI (As := [.int x1]) (bb := 80) (rest := [.ref 80]) (idx := 405) (i0 := 405) (m1 := 205) (ps := [1842, 1844, 90]) (by decide +kernel) (by decide +kernel) (by decide) rfl ((gK_s (by decide)).trans (by decide +kernel)) (by decide) (Nat.le_of_ble_eq_true rfl) rfl h (fun y2 v1 h => ?_)
    refine xr_if_ne (tgt := 394) (off := 7) (by decide +kernel) (by decide) (fun hc => ?_) (fun hc => ?_)
    · replace h := h.1 hc
      refine xr_blk (lv1 := [(0, .ref 80), (1, .int x1), (2, .int x2)]) (st1 := []) (S1 := rt (v_I v1 80 72 (nI 0))) (pc1 := 398) [(.iconst 0, .int (nI 0), 0, 0), (.putfield 408, .null, 12, 72)] [((nI 0), 2)] (by decide +kernel) rfl ⟨x_inl (by decide), trivial⟩ ?_
      exact xr_ret0 (by decide +kernel) rfl ⟨_, rfl, rfl, h⟩
    · replace h := h.2 hc
      refine xr_blk (lv1 := [(0, .ref 80), (1, .int x1), (2, .int x2)]) (st1 := [.int (nI 1), .ref 80]) (S1 := rt v1) (pc1 := 391) [(.iconst 1, .int (nI 1), 0, 0)] [] (by decide +kernel) rfl trivial ?_
      refine xr_goto (tgt := 395) (off := 4) (by decide +kernel) (by decide) ?_
      refine xr_blk (lv1 := [(0, .ref 80), (1, .int x1), (2, .int x2)]) (st1 := []) (S1 := rt (v_I v1 80 72 (nI 1))) (pc1 := 398) [(.putfield 408, .null, 12, 72)] [((nI 1), 2)] (by decide +kernel) rfl ⟨x_inl (by decide), trivial⟩ ?_
      exact xr_ret0 (by decide +kernel) rfl ⟨_, rfl, rfl, h⟩
  · replace h := h.2 hc
    refine xr_blk (lv1 := [(3, .int (nI 0)), (0, .ref 80), (1, .int x1), (2, .int x2)]) (st1 := []) (S1 := rt (v_I v 80 73 (nI 0))) (pc1 := 170) [(.aload_n 0, .null, 0, 0), (.iconst 0, .int (nI 0), 0, 0), (.putfield 386, .null, 12, 73), (.iconst 0, .int (nI 0), 0, 0), (.istore_n 3, .null, 0, 0)] [((nI 0), 2)] (by decide +kernel) rfl ⟨x_inl (by decide), trivial⟩ ?_
    exact x_R.sub [1, 2, 3, 0] rfl h
set_option maxRecDepth 100000 in
theorem w_X12_settle_170 {E : Nat × (Nat → Int32)} {d : Nat} {v : xV} {x1 : Int32} {x2 : Int32} {x3 : Int32} {Q : xV → Prop} (h : (((gI v 80 22) ≤ x3 → RV E (d + 1) 204 224 [(0, .ref 80), (1, .int x1), (2, .int x2), (3, .int (nI 0))] v Q) ∧ (¬ (gI v 80 22) ≤ x3 → RV E (d + 1) 204 181 [(0, .ref 80), (1, .int x1), (2, .int x2), (3, .int x3), (4, .int (nI 1))] v Q))) : RV E (d + 1) 204 170 [(0, .ref 80), (1, .int x1), (2, .int x2), (3, .int x3)] v Q := by
  unfold RV
  refine xr_blk (lv1 := [(0, .ref 80), (1, .int x1), (2, .int x2), (3, .int x3)]) (st1 := [.int (gI v 80 22), .int x3]) (S1 := rt v) (pc1 := 175) [(.iload_n 3, .null, 0, 0), (.aload_n 0, .null, 0, 0), (.getfield 228, .null, 12, 22)] [] (by decide +kernel) rfl trivial ?_
  refine xr_ic_ge (tgt := 222) (off := 47) (by decide +kernel) (by decide) (fun hc => ?_) (fun hc => ?_)
  · replace h := h.1 hc
    refine xr_blk (lv1 := [(3, .int (nI 0)), (0, .ref 80), (1, .int x1), (2, .int x2)]) (st1 := []) (S1 := rt v) (pc1 := 224) [(.iconst 0, .int (nI 0), 0, 0), (.istore_n 3, .null, 0, 0)] [] (by decide +kernel) rfl trivial ?_
    exact x_R.sub [1, 2, 3, 0] rfl h
  · replace h := h.2 hc
    refine xr_blk (lv1 := [(4, .int (nI 1)), (0, .ref 80), (1, .int x1), (2, .int x2), (3, .int x3)]) (st1 := []) (S1 := rt v) (pc1 := 181) [(.iconst 1, .int (nI 1), 0, 0), (.istore 4, .null, 0, 0)] [] (by decide +kernel) rfl trivial ?_
    exact x_R.sub [1, 2, 3, 4, 0] rfl h
set_option maxRecDepth 100000 in
theorem w_X12_settle_181 {E : Nat × (Nat → Int32)} {d : Nat} {v : xV} {x1 : Int32} {x2 : Int32} {x3 : Int32} {x4 : Int32} {Q : xV → Prop} (h : vp_in x3 8 ∧ ((((gA v 92) (x3).toNatClampNeg) ≤ x4 → RV E (d + 1) 204 170 [(0, .ref 80), (1, .int x1), (2, .int x2), (3, .int (x3 + (nI 1)))] v Q) ∧ (¬ ((gA v 92) (x3).toNatClampNeg) ≤ x4 → KI E d 198 [.int x3, .int x4] v (fun y3 v2 => KI E d 198 [.int x3, .int (x4 - (nI 1))] v2 (fun y5 v4 => KV E d 202 [.ref 80, .int y3, .int y5] v4 (fun v6 => RV E (d + 1) 204 181 [(0, .ref 80), (1, .int x1), (2, .int x2), (3, .int x3), (4, .int (x4 + (nI 1)))] v6 Q)))))) : RV E (d + 1) 204 181 [(0, .ref 80), (1, .int x1), (2, .int x2), (3, .int x3), (4, .int x4)] v Q := by
  unfold RV
  obtain ⟨hb1, h⟩ := h
  refine xr_blk (lv1 := [(0, .ref 80), (1, .int x1), (2, .int x2), (3, .int x3), (4, .int x4)]) (st1 := [.int ((gA v 92) (x3).toNatClampNeg), .int x4]) (S1 := rt v) (pc1 := 189) [(.iload 4, .null, 0, 0), (.aload_n 0, .null, 0, 0), (.getfield 47, .null, 12, 16), (.iload_n 3, .null, 0, 0), (.iaload, .null, 0, 0)] [(x3, 8)] (by decide +kernel) rfl ⟨hb1, trivial⟩ ?_
  refine xr_ic_ge (tgt := 216) (off := 27) (by decide +kernel) (by decide) (fun hc => ?_) (fun hc => ?_)
  · replace h := h.1 hc
    refine xr_blk (lv1 := [(3, .int (x3 + (nI 1))), (0, .ref 80), (1, .int x1), (2, .int x2), (4, .int x4)]) (st1 := []) (S1 := rt v) (pc1 := 219) [(.iinc 3 1, .int (nI 1), 0, 0)] [] (by decide +kernel) rfl trivial ?_
    refine xr_goto (tgt := 170) (off := -49) (by decide +kernel) (by decide) ?_
    exact x_R.sub [1, 2, 3, 0] rfl h
  · replace h := h.2 hc
    refine xr_blk (lv1 := [(0, .ref 80), (1, .int x1), (2, .int x2), (3, .int x3), (4, .int x4)]) (st1 := [.int x4, .int x3, .ref 80]) (S1 := rt v) (pc1 := 196) [(.aload_n 0, .null, 0, 0), (.iload_n 3, .null, 0, 0), (.iload 4, .null, 0, 0)] [] (by decide +kernel) rfl trivial ?_
    refine xk_SI (As := [.int x3, .int x4]) (rest := [.ref 80]) (idx := 393) (i0 := 393) (m1 := 198) (ps := [1815, 1816]) (by decide +kernel) (by decide +kernel) (by decide) rfl (Nat.le_of_ble_eq_true rfl) rfl h (fun y3 v2 h => ?_)
    refine xr_blk (lv1 := [(0, .ref 80), (1, .int x1), (2, .int x2), (3, .int x3), (4, .int x4)]) (st1 := [.int (x4 - (nI 1)), .int x3, .int y3, .ref 80]) (S1 := rt v2) (pc1 := 204) [(.iload_n 3, .null, 0, 0), (.iload 4, .null, 0, 0), (.iconst 1, .int (nI 1), 0, 0), (.isub, .null, 0, 0)] [] (by decide +kernel) rfl trivial ?_
    refine xk_SI (As := [.int x3, .int (x4 - (nI 1))]) (rest := [.int y3, .ref 80]) (idx := 393) (i0 := 393) (m1 := 198) (ps := [1815, 1816]) (by decide +kernel) (by decide +kernel) (by decide) rfl (Nat.le_of_ble_eq_true rfl) rfl h (fun y5 v4 h => ?_)
    refine xk_VV (As := [.int y3, .int y5]) (bb := 80) (rest := []) (idx := 402) (i0 := 402) (m1 := 202) (ps := [1830, 1832, 87]) (by decide +kernel) (by decide +kernel) (by decide) rfl ((gK_s (by decide)).trans (by decide +kernel)) (by decide) (Nat.le_of_ble_eq_true rfl) rfl h (fun v6 h => ?_)
    refine xr_blk (lv1 := [(4, .int (x4 + (nI 1))), (0, .ref 80), (1, .int x1), (2, .int x2), (3, .int x3)]) (st1 := []) (S1 := rt v6) (pc1 := 213) [(.iinc 4 1, .int (nI 1), 0, 0)] [] (by decide +kernel) rfl trivial ?_
    refine xr_goto (tgt := 181) (off := -32) (by decide +kernel) (by decide) ?_
    exact x_R.sub [1, 2, 3, 4, 0] rfl h
set_option maxRecDepth 100000 in
theorem w_X12_settle_224 {E : Nat × (Nat → Int32)} {d : Nat} {v : xV} {x1 : Int32} {x2 : Int32} {x3 : Int32} {Q : xV → Prop} (h : (((gI v 80 50) ≤ x3 → RV E (d + 1) 204 317 [(0, .ref 80), (1, .int x1), (2, .int x2), (3, .int (nI 0))] v Q) ∧ (¬ (gI v 80 50) ≤ x3 → vp_in x3 20 ∧ ((((gA v 103) (x3).toNatClampNeg) ≤ x1 → vp_in x3 20 ∧ vp_in x3 20 ∧ KI E d 198 [.int ((gA v 100) (x3).toNatClampNeg), .int ((gA v 101) (x3).toNatClampNeg)] v (fun y5 v4 => KV E d 202 [.ref 80, .int x3, .int y5] v4 (fun v6 => vp_in x3 20 ∧ vp_in x3 20 ∧ vp_in ((gA v6 100) (x3).toNatClampNeg) 8 ∧ ((((gA v6 92) (((gA v6 100) (x3).toNatClampNeg)).toNatClampNeg) ≤ (((gA v6 101) (x3).toNatClampNeg) + (nI 1)) → RV E (d + 1) 204 224 [(0, .ref 80), (1, .int x1), (2, .int x2), (3, .int (x3 + (nI 1)))] v6 Q) ∧ (¬ ((gA v6 92) (((gA v6 100) (x3).toNatClampNeg)).toNatClampNeg) ≤ (((gA v6 101) (x3).toNatClampNeg) + (nI 1)) → vp_in x3 20 ∧ vp_in x3 20 ∧ KI E d 198 [.int ((gA v6 100) (x3).toNatClampNeg), .int (((gA v6 101) (x3).toNatClampNeg) + (nI 1))] v6 (fun y13 v12 => KV E d 202 [.ref 80, .int y13, .int x3] v12 (fun v14 => RV E (d + 1) 204 224 [(0, .ref 80), (1, .int x1), (2, .int x2), (3, .int (x3 + (nI 1)))] v14 Q))))))) ∧ (¬ ((gA v 103) (x3).toNatClampNeg) ≤ x1 → RV E (d + 1) 204 224 [(0, .ref 80), (1, .int x1), (2, .int x2), (3, .int (x3 + (nI 1)))] v Q))))) : RV E (d + 1) 204 224 [(0, .ref 80), (1, .int x1), (2, .int x2), (3, .int x3)] v Q := by
  unfold RV
  refine xr_blk (lv1 := [(0, .ref 80), (1, .int x1), (2, .int x2), (3, .int x3)]) (st1 := [.int (gI v 80 50), .int x3]) (S1 := rt v) (pc1 := 229) [(.iload_n 3, .null, 0, 0), (.aload_n 0, .null, 0, 0), (.getfield 297, .null, 12, 50)] [] (by decide +kernel) rfl trivial ?_
  refine xr_ic_ge (tgt := 315) (off := 86) (by decide +kernel) (by decide) (fun hc => ?_) (fun hc => ?_)
  · replace h := h.1 hc
    refine xr_blk (lv1 := [(3, .int (nI 0)), (0, .ref 80), (1, .int x1), (2, .int x2)]) (st1 := []) (S1 := rt v) (pc1 := 317) [(.iconst 0, .int (nI 0), 0, 0), (.istore_n 3, .null, 0, 0)] [] (by decide +kernel) rfl trivial ?_
    exact x_R.sub [1, 2, 3, 0] rfl h
  · replace h := h.2 hc
    obtain ⟨hb1, h⟩ := h
    refine xr_blk (lv1 := [(0, .ref 80), (1, .int x1), (2, .int x2), (3, .int x3)]) (st1 := [.int x1, .int ((gA v 103) (x3).toNatClampNeg)]) (S1 := rt v) (pc1 := 239) [(.aload_n 0, .null, 0, 0), (.getfield 81, .null, 12, 41), (.iload_n 3, .null, 0, 0), (.iaload, .null, 0, 0), (.iload_n 1, .null, 0, 0)] [(x3, 20)] (by decide +kernel) rfl ⟨hb1, trivial⟩ ?_
    refine xr_ic_le (tgt := 245) (off := 6) (by decide +kernel) (by decide) (fun hc => ?_) (fun hc => ?_)
    · replace h := h.1 hc
      obtain ⟨hb2, h⟩ := h
      obtain ⟨hb3, h⟩ := h
      refine xr_blk (lv1 := [(0, .ref 80), (1, .int x1), (2, .int x2), (3, .int x3)]) (st1 := [.int ((gA v 101) (x3).toNatClampNeg), .int ((gA v 100) (x3).toNatClampNeg), .int x3, .ref 80]) (S1 := rt v) (pc1 := 259) [(.aload_n 0, .null, 0, 0), (.iload_n 3, .null, 0, 0), (.aload_n 0, .null, 0, 0), (.getfield 72, .null, 12, 38), (.iload_n 3, .null, 0, 0), (.iaload, .null, 0, 0), (.aload_n 0, .null, 0, 0), (.getfield 75, .null, 12, 39), (.iload_n 3, .null, 0, 0), (.iaload, .null, 0, 0)] [(x3, 20), (x3, 20)] (by decide +kernel) rfl ⟨hb2, hb3, trivial⟩ ?_
      refine xk_SI (As := [.int ((gA v 100) (x3).toNatClampNeg), .int ((gA v 101) (x3).toNatClampNeg)]) (rest := [.int x3, .ref 80]) (idx := 393) (i0 := 393) (m1 := 198) (ps := [1815, 1816]) (by decide +kernel) (by decide +kernel) (by decide) rfl (Nat.le_of_ble_eq_true rfl) rfl h (fun y5 v4 h => ?_)
      refine xk_VV (As := [.int x3, .int y5]) (bb := 80) (rest := []) (idx := 402) (i0 := 402) (m1 := 202) (ps := [1830, 1832, 87]) (by decide +kernel) (by decide +kernel) (by decide) rfl ((gK_s (by decide)).trans (by decide +kernel)) (by decide) (Nat.le_of_ble_eq_true rfl) rfl h (fun v6 h => ?_)
      obtain ⟨hb7, h⟩ := h
      obtain ⟨hb8, h⟩ := h
      obtain ⟨hb9, h⟩ := h
      refine xr_blk (lv1 := [(0, .ref 80), (1, .int x1), (2, .int x2), (3, .int x3)]) (st1 := [.int ((gA v6 92) (((gA v6 100) (x3).toNatClampNeg)).toNatClampNeg), .int (((gA v6 101) (x3).toNatClampNeg) + (nI 1))]) (S1 := rt v6) (pc1 := 284) [(.aload_n 0, .null, 0, 0), (.getfield 75, .null, 12, 39), (.iload_n 3, .null, 0, 0), (.iaload, .null, 0, 0), (.iconst 1, .int (nI 1), 0, 0), (.iadd, .null, 0, 0), (.aload_n 0, .null, 0, 0), (.getfield 47, .null, 12, 16), (.aload_n 0, .null, 0, 0), (.getfield 72, .null, 12, 38), (.iload_n 3, .null, 0, 0), (.iaload, .null, 0, 0), (.iaload, .null, 0, 0)] [(x3, 20), (x3, 20), (((gA v6 100) (x3).toNatClampNeg), 8)] (by decide +kernel) rfl ⟨hb7, hb8, hb9, trivial⟩ ?_
      refine xr_ic_ge (tgt := 309) (off := 25) (by decide +kernel) (by decide) (fun hc => ?_) (fun hc => ?_)
      · replace h := h.1 hc
        refine xr_blk (lv1 := [(3, .int (x3 + (nI 1))), (0, .ref 80), (1, .int x1), (2, .int x2)]) (st1 := []) (S1 := rt v6) (pc1 := 312) [(.iinc 3 1, .int (nI 1), 0, 0)] [] (by decide +kernel) rfl trivial ?_
        refine xr_goto (tgt := 224) (off := -88) (by decide +kernel) (by decide) ?_
        exact x_R.sub [1, 2, 3, 0] rfl h
      · replace h := h.2 hc
        obtain ⟨hb10, h⟩ := h
        obtain ⟨hb11, h⟩ := h
        refine xr_blk (lv1 := [(0, .ref 80), (1, .int x1), (2, .int x2), (3, .int x3)]) (st1 := [.int (((gA v6 101) (x3).toNatClampNeg) + (nI 1)), .int ((gA v6 100) (x3).toNatClampNeg), .ref 80]) (S1 := rt v6) (pc1 := 302) [(.aload_n 0, .null, 0, 0), (.aload_n 0, .null, 0, 0), (.getfield 72, .null, 12, 38), (.iload_n 3, .null, 0, 0), (.iaload, .null, 0, 0), (.aload_n 0, .null, 0, 0), (.getfield 75, .null, 12, 39), (.iload_n 3, .null, 0, 0), (.iaload, .null, 0, 0), (.iconst 1, .int (nI 1), 0, 0), (.iadd, .null, 0, 0)] [(x3, 20), (x3, 20)] (by decide +kernel) rfl ⟨hb10, hb11, trivial⟩ ?_
        refine xk_SI (As := [.int ((gA v6 100) (x3).toNatClampNeg), .int (((gA v6 101) (x3).toNatClampNeg) + (nI 1))]) (rest := [.ref 80]) (idx := 393) (i0 := 393) (m1 := 198) (ps := [1815, 1816]) (by decide +kernel) (by decide +kernel) (by decide) rfl (Nat.le_of_ble_eq_true rfl) rfl h (fun y13 v12 h => ?_)
        refine xr_blk (lv1 := [(0, .ref 80), (1, .int x1), (2, .int x2), (3, .int x3)]) (st1 := [.int x3, .int y13, .ref 80]) (S1 := rt v12) (pc1 := 306) [(.iload_n 3, .null, 0, 0)] [] (by decide +kernel) rfl trivial ?_
        refine xk_VV (As := [.int y13, .int x3]) (bb := 80) (rest := []) (idx := 402) (i0 := 402) (m1 := 202) (ps := [1830, 1832, 87]) (by decide +kernel) (by decide +kernel) (by decide) rfl ((gK_s (by decide)).trans (by decide +kernel)) (by decide) (Nat.le_of_ble_eq_true rfl) rfl h (fun v14 h => ?_)
        refine xr_blk (lv1 := [(3, .int (x3 + (nI 1))), (0, .ref 80), (1, .int x1), (2, .int x2)]) (st1 := []) (S1 := rt v14) (pc1 := 312) [(.iinc 3 1, .int (nI 1), 0, 0)] [] (by decide +kernel) rfl trivial ?_
        refine xr_goto (tgt := 224) (off := -88) (by decide +kernel) (by decide) ?_
        exact x_R.sub [1, 2, 3, 0] rfl h
    · replace h := h.2 hc
      refine xr_goto (tgt := 309) (off := 67) (by decide +kernel) (by decide) ?_
      refine xr_blk (lv1 := [(3, .int (x3 + (nI 1))), (0, .ref 80), (1, .int x1), (2, .int x2)]) (st1 := []) (S1 := rt v) (pc1 := 312) [(.iinc 3 1, .int (nI 1), 0, 0)] [] (by decide +kernel) rfl trivial ?_
      refine xr_goto (tgt := 224) (off := -88) (by decide +kernel) (by decide) ?_
      exact x_R.sub [1, 2, 3, 0] rfl h
set_option maxRecDepth 100000 in
theorem w_X12_settle_317 {E : Nat × (Nat → Int32)} {d : Nat} {v : xV} {x1 : Int32} {x2 : Int32} {x3 : Int32} {Q : xV → Prop} (h : (((gI v 80 70) ≤ x3 → (((gI v 80 73) = (nI 0) → RV E (d + 1) 204 156 [(0, .ref 80), (1, .int x1), (2, .int x2)] v Q) ∧ (¬ (gI v 80 73) = (nI 0) → KI E d 205 [.ref 80, .int x1] v (fun y2 v1 => ((y2 = (nI 0) → RV E (d + 1) 204 156 [(0, .ref 80), (1, .int x1), (2, .int x2)] v1 Q) ∧ (¬ y2 = (nI 0) → RV E (d + 1) 204 156 [(0, .ref 80), (1, .int x1), (2, .int x2)] (v_I v1 80 73 (nI 0)) Q)))))) ∧ (¬ (gI v 80 70) ≤ x3 → KI E d 203 [.ref 80, .int x3, .int x1, .int x2, .int (nI 2)] v (fun y4 v3 => ((y4 = (nI 0) → RV E (d + 1) 204 317 [(0, .ref 80), (1, .int x1), (2, .int x2), (3, .int (x3 + (nI 1)))] v3 Q) ∧ (¬ y4 = (nI 0) → vp_in x3 80 ∧ vp_in x3 80 ∧ KV E d 202 [.ref 80, .int ((gA v3 123) (x3).toNatClampNeg), .int ((gA v3 122) (x3).toNatClampNeg)] v3 (fun v7 => RV E (d + 1) 204 317 [(0, .ref 80), (1, .int x1), (2, .int x2), (3, .int (x3 + (nI 1)))] v7 Q))))))) : RV E (d + 1) 204 317 [(0, .ref 80), (1, .int x1), (2, .int x2), (3, .int x3)] v Q := by
  unfold RV
  refine xr_blk (lv1 := [(0, .ref 80), (1, .int x1), (2, .int x2), (3, .int x3)]) (st1 := [.int (gI v 80 70), .int x3]) (S1 := rt v) (pc1 := 322) [(.iload_n 3, .null, 0, 0), (.aload_n 0, .null, 0, 0), (.getfield 377, .null, 12, 70)] [] (by decide +kernel) rfl trivial ?_
  refine xr_ic_ge (tgt := 358) (off := 36) (by decide +kernel) (by decide) (fun hc => ?_) (fun hc => ?_)
  · replace h := h.1 hc
    refine xr_blk (lv1 := [(0, .ref 80), (1, .int x1), (2, .int x2), (3, .int x3)]) (st1 := [.int (gI v 80 73)]) (S1 := rt v) (pc1 := 362) [(.aload_n 0, .null, 0, 0), (.getfield 386, .null, 12, 73)] [] (by decide +kernel) rfl trivial ?_
    refine xr_if_eq (tgt := 156) (off := -206) (by decide +kernel) (by decide) (fun hc => ?_) (fun hc => ?_)
    · replace h := h.1 hc
      exact x_R.sub [0, 1, 2] rfl h
    · replace h := h.2 hc
      refine xr_blk (lv1 := [(0, .ref 80), (1, .int x1), (2, .int x2), (3, .int x3)]) (st1 := [.int x1, .ref 80]) (S1 := rt v) (pc1 := 367) [(.aload_n 0, .null, 0, 0), (.iload_n 1, .null, 0, 0)] [] (by decide +kernel) rfl trivial ?_
      refine xk_VI (As := [.int x1]) (bb := 80) (rest := []) (idx := 405) (i0 := 405) (m1 := 205) (ps := [1842, 1844, 90]) (by decide +kernel) (by decide +kernel) (by decide) rfl ((gK_s (by decide)).trans (by decide +kernel)) (by decide) (Nat.le_of_ble_eq_true rfl) rfl h (fun y2 v1 h => ?_)
      refine xr_if_eq (tgt := 156) (off := -214) (by decide +kernel) (by decide) (fun hc => ?_) (fun hc => ?_)
      · replace h := h.1 hc
        exact x_R.sub [0, 1, 2] rfl h
      · replace h := h.2 hc
        refine xr_blk (lv1 := [(0, .ref 80), (1, .int x1), (2, .int x2), (3, .int x3)]) (st1 := []) (S1 := rt (v_I v1 80 73 (nI 0))) (pc1 := 378) [(.aload_n 0, .null, 0, 0), (.iconst 0, .int (nI 0), 0, 0), (.putfield 386, .null, 12, 73)] [((nI 0), 2)] (by decide +kernel) rfl ⟨x_inl (by decide), trivial⟩ ?_
        refine xr_goto (tgt := 156) (off := -222) (by decide +kernel) (by decide) ?_
        exact x_R.sub [0, 1, 2] rfl h
  · replace h := h.2 hc
    refine xr_blk (lv1 := [(0, .ref 80), (1, .int x1), (2, .int x2), (3, .int x3)]) (st1 := [.int (nI 2), .int x2, .int x1, .int x3, .ref 80]) (S1 := rt v) (pc1 := 330) [(.aload_n 0, .null, 0, 0), (.iload_n 3, .null, 0, 0), (.iload_n 1, .null, 0, 0), (.iload_n 2, .null, 0, 0), (.iconst 2, .int (nI 2), 0, 0)] [] (by decide +kernel) rfl trivial ?_
    refine xk_VI (As := [.int x3, .int x1, .int x2, .int (nI 2)]) (bb := 80) (rest := []) (idx := 390) (i0 := 390) (m1 := 203) (ps := [1811, 1813, 83]) (by decide +kernel) (by decide +kernel) (by decide) rfl ((gK_s (by decide)).trans (by decide +kernel)) (by decide) (Nat.le_of_ble_eq_true rfl) rfl h (fun y4 v3 h => ?_)
    refine xr_if_eq (tgt := 352) (off := 19) (by decide +kernel) (by decide) (fun hc => ?_) (fun hc => ?_)
    · replace h := h.1 hc
      refine xr_blk (lv1 := [(3, .int (x3 + (nI 1))), (0, .ref 80), (1, .int x1), (2, .int x2)]) (st1 := []) (S1 := rt v3) (pc1 := 355) [(.iinc 3 1, .int (nI 1), 0, 0)] [] (by decide +kernel) rfl trivial ?_
      refine xr_goto (tgt := 317) (off := -38) (by decide +kernel) (by decide) ?_
      exact x_R.sub [1, 2, 3, 0] rfl h
    · replace h := h.2 hc
      obtain ⟨hb5, h⟩ := h
      obtain ⟨hb6, h⟩ := h
      refine xr_blk (lv1 := [(0, .ref 80), (1, .int x1), (2, .int x2), (3, .int x3)]) (st1 := [.int ((gA v3 122) (x3).toNatClampNeg), .int ((gA v3 123) (x3).toNatClampNeg), .ref 80]) (S1 := rt v3) (pc1 := 349) [(.aload_n 0, .null, 0, 0), (.aload_n 0, .null, 0, 0), (.getfield 142, .null, 12, 66), (.iload_n 3, .null, 0, 0), (.iaload, .null, 0, 0), (.aload_n 0, .null, 0, 0), (.getfield 139, .null, 12, 65), (.iload_n 3, .null, 0, 0), (.iaload, .null, 0, 0)] [(x3, 80), (x3, 80)] (by decide +kernel) rfl ⟨hb5, hb6, trivial⟩ ?_
      refine xk_VV (As := [.int ((gA v3 123) (x3).toNatClampNeg), .int ((gA v3 122) (x3).toNatClampNeg)]) (bb := 80) (rest := []) (idx := 402) (i0 := 402) (m1 := 202) (ps := [1830, 1832, 87]) (by decide +kernel) (by decide +kernel) (by decide) rfl ((gK_s (by decide)).trans (by decide +kernel)) (by decide) (Nat.le_of_ble_eq_true rfl) rfl h (fun v7 h => ?_)
      refine xr_blk (lv1 := [(3, .int (x3 + (nI 1))), (0, .ref 80), (1, .int x1), (2, .int x2)]) (st1 := []) (S1 := rt v7) (pc1 := 355) [(.iinc 3 1, .int (nI 1), 0, 0)] [] (by decide +kernel) rfl trivial ?_
      refine xr_goto (tgt := 317) (off := -38) (by decide +kernel) (by decide) ?_
      exact x_R.sub [1, 2, 3, 0] rfl h
theorem ok_204 : x_mOK 204 := ⟨x_tm8 (List.mem_of_getElem? (i := 30) rfl) rfl, 114, by decide +kernel⟩
/-! X12_isEmpty: method 205, ScrawlHouseModel.isEmpty(I)Z -/
set_option maxRecDepth 100000 in
theorem w_X12_isEmpty_0 {E : Nat × (Nat → Int32)} {d : Nat} {v : xV} {x1 : Int32} {Q : Int32 → xV → Prop} (h : RI E (d + 1) 205 2 [(0, .ref 80), (1, .int x1), (2, .int (nI 0))] v Q) : RI E (d + 1) 205 0 [(0, .ref 80), (1, .int x1)] v Q := by
  unfold RI
  refine xr_blk (lv1 := [(2, .int (nI 0)), (0, .ref 80), (1, .int x1)]) (st1 := []) (S1 := rt v) (pc1 := 2) [(.iconst 0, .int (nI 0), 0, 0), (.istore_n 2, .null, 0, 0)] [] (by decide +kernel) rfl trivial ?_
  exact x_R.sub [1, 2, 0] rfl h
set_option maxRecDepth 100000 in
theorem w_X12_isEmpty_2 {E : Nat × (Nat → Int32)} {d : Nat} {v : xV} {x1 : Int32} {x2 : Int32} {Q : Int32 → xV → Prop} (h : (((gI v 80 50) ≤ x2 → RI E (d + 1) 205 41 [(0, .ref 80), (2, .int (nI 0))] v Q) ∧ (¬ (gI v 80 50) ≤ x2 → vp_in x2 20 ∧ ((x1 < ((gA v 103) (x2).toNatClampNeg) → RI E (d + 1) 205 2 [(0, .ref 80), (1, .int x1), (2, .int (x2 + (nI 1)))] v Q) ∧ (¬ x1 < ((gA v 103) (x2).toNatClampNeg) → KI E d 200 [.ref 80, .int x2] v (fun y3 v2 => ((¬ y3 = (nI 200) → RI E (d + 1) 205 2 [(0, .ref 80), (1, .int x1), (2, .int (x2 + (nI 1)))] v2 Q) ∧ (y3 = (nI 200) → Q (nI 1) v2)))))))) : RI E (d + 1) 205 2 [(0, .ref 80), (1, .int x1), (2, .int x2)] v Q := by
  unfold RI
  refine xr_blk (lv1 := [(0, .ref 80), (1, .int x1), (2, .int x2)]) (st1 := [.int (gI v 80 50), .int x2]) (S1 := rt v) (pc1 := 7) [(.iload_n 2, .null, 0, 0), (.aload_n 0, .null, 0, 0), (.getfield 297, .null, 12, 50)] [] (by decide +kernel) rfl trivial ?_
  refine xr_ic_ge (tgt := 39) (off := 32) (by decide +kernel) (by decide) (fun hc => ?_) (fun hc => ?_)
  · replace h := h.1 hc
    refine xr_blk (lv1 := [(2, .int (nI 0)), (0, .ref 80), (1, .int x1)]) (st1 := []) (S1 := rt v) (pc1 := 41) [(.iconst 0, .int (nI 0), 0, 0), (.istore_n 2, .null, 0, 0)] [] (by decide +kernel) rfl trivial ?_
    exact x_R.sub [1, 0] rfl h
  · replace h := h.2 hc
    obtain ⟨hb1, h⟩ := h
    refine xr_blk (lv1 := [(0, .ref 80), (1, .int x1), (2, .int x2)]) (st1 := [.int x1, .int ((gA v 103) (x2).toNatClampNeg)]) (S1 := rt v) (pc1 := 17) [(.aload_n 0, .null, 0, 0), (.getfield 81, .null, 12, 41), (.iload_n 2, .null, 0, 0), (.iaload, .null, 0, 0), (.iload_n 1, .null, 0, 0)] [(x2, 20)] (by decide +kernel) rfl ⟨hb1, trivial⟩ ?_
    refine xr_ic_gt (tgt := 33) (off := 16) (by decide +kernel) (by decide) (fun hc => ?_) (fun hc => ?_)
    · replace h := h.1 hc
      refine xr_blk (lv1 := [(2, .int (x2 + (nI 1))), (0, .ref 80), (1, .int x1)]) (st1 := []) (S1 := rt v) (pc1 := 36) [(.iinc 2 1, .int (nI 1), 0, 0)] [] (by decide +kernel) rfl trivial ?_
      refine xr_goto (tgt := 2) (off := -34) (by decide +kernel) (by decide) ?_
      exact x_R.sub [1, 2, 0] rfl h
    · replace h := h.2 hc
      refine xr_blk (lv1 := [(0, .ref 80), (1, .int x1), (2, .int x2)]) (st1 := [.int x2, .ref 80]) (S1 := rt v) (pc1 := 22) [(.aload_n 0, .null, 0, 0), (.iload_n 2, .null, 0, 0)] [] (by decide +kernel) rfl trivial ?_
      refine xk_VI (As := [.int x2]) (bb := 80) (rest := []) (idx := 380) (i0 := 380) (m1 := 200) (ps := [1834, 1836, 88]) (by decide +kernel) (by decide +kernel) (by decide) rfl ((gK_s (by decide)).trans (by decide +kernel)) (by decide) (Nat.le_of_ble_eq_true rfl) rfl h (fun y3 v2 h => ?_)
      refine xr_blk (lv1 := [(0, .ref 80), (1, .int x1), (2, .int x2)]) (st1 := [.int (nI 200), .int y3]) (S1 := rt v2) (pc1 := 28) [(.sipush 200, .int (nI 200), 0, 0)] [] (by decide +kernel) rfl trivial ?_
      refine xr_ic_ne (tgt := 33) (off := 5) (by decide +kernel) (by decide) (fun hc => ?_) (fun hc => ?_)
      · replace h := h.1 hc
        refine xr_blk (lv1 := [(2, .int (x2 + (nI 1))), (0, .ref 80), (1, .int x1)]) (st1 := []) (S1 := rt v2) (pc1 := 36) [(.iinc 2 1, .int (nI 1), 0, 0)] [] (by decide +kernel) rfl trivial ?_
        refine xr_goto (tgt := 2) (off := -34) (by decide +kernel) (by decide) ?_
        exact x_R.sub [1, 2, 0] rfl h
      · replace h := h.2 hc
        refine xr_blk (lv1 := [(0, .ref 80), (1, .int x1), (2, .int x2)]) (st1 := [.int (nI 1)]) (S1 := rt v2) (pc1 := 32) [(.iconst 1, .int (nI 1), 0, 0)] [] (by decide +kernel) rfl trivial ?_
        exact xr_zret (by decide +kernel) rfl x_in2_1 ⟨_, _, rfl, rfl, h⟩
set_option maxRecDepth 100000 in
theorem w_X12_isEmpty_41 {E : Nat × (Nat → Int32)} {d : Nat} {v : xV} {x2 : Int32} {Q : Int32 → xV → Prop} (h : (((gI v 80 22) ≤ x2 → Q (nI 0) v) ∧ (¬ (gI v 80 22) ≤ x2 → RI E (d + 1) 205 51 [(0, .ref 80), (2, .int x2), (3, .int (nI 0))] v Q))) : RI E (d + 1) 205 41 [(0, .ref 80), (2, .int x2)] v Q := by
  unfold RI
  refine xr_blk (lv1 := [(0, .ref 80), (2, .int x2)]) (st1 := [.int (gI v 80 22), .int x2]) (S1 := rt v) (pc1 := 46) [(.iload_n 2, .null, 0, 0), (.aload_n 0, .null, 0, 0), (.getfield 228, .null, 12, 22)] [] (by decide +kernel) rfl trivial ?_
  refine xr_ic_ge (tgt := 90) (off := 44) (by decide +kernel) (by decide) (fun hc => ?_) (fun hc => ?_)
  · replace h := h.1 hc
    refine xr_blk (lv1 := [(0, .ref 80), (2, .int x2)]) (st1 := [.int (nI 0)]) (S1 := rt v) (pc1 := 91) [(.iconst 0, .int (nI 0), 0, 0)] [] (by decide +kernel) rfl trivial ?_
    exact xr_zret (by decide +kernel) rfl x_in2_0 ⟨_, _, rfl, rfl, h⟩
  · replace h := h.2 hc
    refine xr_blk (lv1 := [(3, .int (nI 0)), (0, .ref 80), (2, .int x2)]) (st1 := []) (S1 := rt v) (pc1 := 51) [(.iconst 0, .int (nI 0), 0, 0), (.istore_n 3, .null, 0, 0)] [] (by decide +kernel) rfl trivial ?_
    exact x_R.sub [1, 2, 0] rfl h
set_option maxRecDepth 100000 in
theorem w_X12_isEmpty_51 {E : Nat × (Nat → Int32)} {d : Nat} {v : xV} {x2 : Int32} {x3 : Int32} {Q : Int32 → xV → Prop} (h : vp_in x2 8 ∧ ((((gA v 92) (x2).toNatClampNeg) ≤ x3 → RI E (d + 1) 205 41 [(0, .ref 80), (2, .int (x2 + (nI 1)))] v Q) ∧ (¬ ((gA v 92) (x2).toNatClampNeg) ≤ x3 → KI E d 198 [.int x2, .int x3] v (fun y3 v2 => KI E d 200 [.ref 80, .int y3] v2 (fun y5 v4 => ((¬ y5 = (nI 200) → RI E (d + 1) 205 51 [(0, .ref 80), (2, .int x2), (3, .int (x3 + (nI 1)))] v4 Q) ∧ (y5 = (nI 200) → Q (nI 1) v4))))))) : RI E (d + 1) 205 51 [(0, .ref 80), (2, .int x2), (3, .int x3)] v Q := by
  unfold RI
  obtain ⟨hb1, h⟩ := h
  refine xr_blk (lv1 := [(0, .ref 80), (2, .int x2), (3, .int x3)]) (st1 := [.int ((gA v 92) (x2).toNatClampNeg), .int x3]) (S1 := rt v) (pc1 := 58) [(.iload_n 3, .null, 0, 0), (.aload_n 0, .null, 0, 0), (.getfield 47, .null, 12, 16), (.iload_n 2, .null, 0, 0), (.iaload, .null, 0, 0)] [(x2, 8)] (by decide +kernel) rfl ⟨hb1, trivial⟩ ?_
  refine xr_ic_ge (tgt := 84) (off := 26) (by decide +kernel) (by decide) (fun hc => ?_) (fun hc => ?_)
  · replace h := h.1 hc
    refine xr_blk (lv1 := [(2, .int (x2 + (nI 1))), (0, .ref 80), (3, .int x3)]) (st1 := []) (S1 := rt v) (pc1 := 87) [(.iinc 2 1, .int (nI 1), 0, 0)] [] (by decide +kernel) rfl trivial ?_
    refine xr_goto (tgt := 41) (off := -46) (by decide +kernel) (by decide) ?_
    exact x_R.sub [1, 0] rfl h
  · replace h := h.2 hc
    refine xr_blk (lv1 := [(0, .ref 80), (2, .int x2), (3, .int x3)]) (st1 := [.int x3, .int x2, .ref 80]) (S1 := rt v) (pc1 := 64) [(.aload_n 0, .null, 0, 0), (.iload_n 2, .null, 0, 0), (.iload_n 3, .null, 0, 0)] [] (by decide +kernel) rfl trivial ?_
    refine xk_SI (As := [.int x2, .int x3]) (rest := [.ref 80]) (idx := 393) (i0 := 393) (m1 := 198) (ps := [1815, 1816]) (by decide +kernel) (by decide +kernel) (by decide) rfl (Nat.le_of_ble_eq_true rfl) rfl h (fun y3 v2 h => ?_)
    refine xk_VI (As := [.int y3]) (bb := 80) (rest := []) (idx := 380) (i0 := 380) (m1 := 200) (ps := [1834, 1836, 88]) (by decide +kernel) (by decide +kernel) (by decide) rfl ((gK_s (by decide)).trans (by decide +kernel)) (by decide) (Nat.le_of_ble_eq_true rfl) rfl h (fun y5 v4 h => ?_)
    refine xr_blk (lv1 := [(0, .ref 80), (2, .int x2), (3, .int x3)]) (st1 := [.int (nI 200), .int y5]) (S1 := rt v4) (pc1 := 73) [(.sipush 200, .int (nI 200), 0, 0)] [] (by decide +kernel) rfl trivial ?_
    refine xr_ic_ne (tgt := 78) (off := 5) (by decide +kernel) (by decide) (fun hc => ?_) (fun hc => ?_)
    · replace h := h.1 hc
      refine xr_blk (lv1 := [(3, .int (x3 + (nI 1))), (0, .ref 80), (2, .int x2)]) (st1 := []) (S1 := rt v4) (pc1 := 81) [(.iinc 3 1, .int (nI 1), 0, 0)] [] (by decide +kernel) rfl trivial ?_
      refine xr_goto (tgt := 51) (off := -30) (by decide +kernel) (by decide) ?_
      exact x_R.sub [1, 2, 0] rfl h
    · replace h := h.2 hc
      refine xr_blk (lv1 := [(0, .ref 80), (2, .int x2), (3, .int x3)]) (st1 := [.int (nI 1)]) (S1 := rt v4) (pc1 := 77) [(.iconst 1, .int (nI 1), 0, 0)] [] (by decide +kernel) rfl trivial ?_
      exact xr_zret (by decide +kernel) rfl x_in2_1 ⟨_, _, rfl, rfl, h⟩
theorem ok_205 : x_mOK 205 := ⟨x_tm8 (List.mem_of_getElem? (i := 65) rfl) rfl, 114, by decide +kernel⟩
/-! X12_keepByReading: method 206, ScrawlHouseModel.keepByReading(III)V -/
set_option maxRecDepth 100000 in
theorem w_X12_keepByReading_0 {E : Nat × (Nat → Int32)} {d : Nat} {v : xV} {x1 : Int32} {x2 : Int32} {x3 : Int32} {Q : xV → Prop} (h : KI E d 190 [.ref 80, .int x1, .int (nI 0)] v (fun y2 v1 => KI E d 190 [.ref 80, .int x1, .int (nI 2)] v1 (fun y4 v3 => RV E (d + 1) 206 22 [(0, .ref 80), (1, .int x1), (2, .int x2), (3, .int x3), (4, .int y2), (5, .int y4), (6, .int (nI 0)), (7, .int (nI 0))] v3 Q))) : RV E (d + 1) 206 0 [(0, .ref 80), (1, .int x1), (2, .int x2), (3, .int x3)] v Q := by
  unfold RV
  refine xr_blk (lv1 := [(0, .ref 80), (1, .int x1), (2, .int x2), (3, .int x3)]) (st1 := [.int (nI 0), .int x1, .ref 80]) (S1 := rt v) (pc1 := 3) [(.aload_n 0, .null, 0, 0), (.iload_n 1, .null, 0, 0), (.iconst 0, .int (nI 0), 0, 0)] [] (by decide +kernel) rfl trivial ?_
  refine xk_VI (As := [.int x1, .int (nI 0)]) (bb := 80) (rest := []) (idx := 368) (i0 := 368) (m1 := 190) (ps := [1779, 1781, 79]) (by decide +kernel) (by decide +kernel) (by decide) rfl ((gK_s (by decide)).trans (by decide +kernel)) (by decide) (Nat.le_of_ble_eq_true rfl) rfl h (fun y2 v1 h => ?_)
  refine xr_blk (lv1 := [(4, .int y2), (0, .ref 80), (1, .int x1), (2, .int x2), (3, .int x3)]) (st1 := [.int (nI 2), .int x1, .ref 80]) (S1 := rt v1) (pc1 := 11) [(.istore 4, .null, 0, 0), (.aload_n 0, .null, 0, 0), (.iload_n 1, .null, 0, 0), (.iconst 2, .int (nI 2), 0, 0)] [] (by decide +kernel) rfl trivial ?_
  refine xk_VI (As := [.int x1, .int (nI 2)]) (bb := 80) (rest := []) (idx := 368) (i0 := 368) (m1 := 190) (ps := [1779, 1781, 79]) (by decide +kernel) (by decide +kernel) (by decide) rfl ((gK_s (by decide)).trans (by decide +kernel)) (by decide) (Nat.le_of_ble_eq_true rfl) rfl h (fun y4 v3 h => ?_)
  refine xr_blk (lv1 := [(7, .int (nI 0)), (6, .int (nI 0)), (5, .int y4), (4, .int y2), (0, .ref 80), (1, .int x1), (2, .int x2), (3, .int x3)]) (st1 := []) (S1 := rt v3) (pc1 := 22) [(.istore 5, .null, 0, 0), (.iconst 0, .int (nI 0), 0, 0), (.istore 6, .null, 0, 0), (.iconst 0, .int (nI 0), 0, 0), (.istore 7, .null, 0, 0)] [] (by decide +kernel) rfl trivial ?_
  exact x_R.sub [4, 5, 6, 7, 3, 2, 1, 0] rfl h
set_option maxRecDepth 100000 in
theorem w_X12_keepByReading_22 {E : Nat × (Nat → Int32)} {d : Nat} {v : xV} {x1 : Int32} {x2 : Int32} {x3 : Int32} {x4 : Int32} {x5 : Int32} {x6 : Int32} {x7 : Int32} {Q : xV → Prop} (h : (((nI 200) ≤ x7 → RV E (d + 1) 206 47 [(0, .ref 80), (1, .int x1), (2, .int x2), (3, .int x3), (4, .int x4), (5, .int x5), (6, .int x6), (7, .int (nI 0))] v Q) ∧ (¬ (nI 200) ≤ x7 → vp_in x7 200 ∧ RV E (d + 1) 206 22 [(0, .ref 80), (1, .int x1), (2, .int x2), (3, .int x3), (4, .int x4), (5, .int x5), (6, .int x6), (7, .int (x7 + (nI 1)))] (v_A v 128 (upd (gA v 128) (x7).toNatClampNeg (nI 0))) Q))) : RV E (d + 1) 206 22 [(0, .ref 80), (1, .int x1), (2, .int x2), (3, .int x3), (4, .int x4), (5, .int x5), (6, .int x6), (7, .int x7)] v Q := by
  unfold RV
  refine xr_blk (lv1 := [(0, .ref 80), (1, .int x1), (2, .int x2), (3, .int x3), (4, .int x4), (5, .int x5), (6, .int x6), (7, .int x7)]) (st1 := [.int (nI 200), .int x7]) (S1 := rt v) (pc1 := 27) [(.iload 7, .null, 0, 0), (.sipush 200, .int (nI 200), 0, 0)] [] (by decide +kernel) rfl trivial ?_
  refine xr_ic_ge (tgt := 44) (off := 17) (by decide +kernel) (by decide) (fun hc => ?_) (fun hc => ?_)
  · replace h := h.1 hc
    refine xr_blk (lv1 := [(7, .int (nI 0)), (0, .ref 80), (1, .int x1), (2, .int x2), (3, .int x3), (4, .int x4), (5, .int x5), (6, .int x6)]) (st1 := []) (S1 := rt v) (pc1 := 47) [(.iconst 0, .int (nI 0), 0, 0), (.istore 7, .null, 0, 0)] [] (by decide +kernel) rfl trivial ?_
    exact x_R.sub [1, 2, 3, 4, 5, 6, 7, 0] rfl h
  · replace h := h.2 hc
    obtain ⟨hb1, h⟩ := h
    refine xr_blk (lv1 := [(7, .int (x7 + (nI 1))), (0, .ref 80), (1, .int x1), (2, .int x2), (3, .int x3), (4, .int x4), (5, .int x5), (6, .int x6)]) (st1 := []) (S1 := rt (v_A v 128 (upd (gA v 128) (x7).toNatClampNeg (nI 0)))) (pc1 := 41) [(.aload_n 0, .null, 0, 0), (.getfield 157, .null, 12, 74), (.iload 7, .null, 0, 0), (.iconst 0, .int (nI 0), 0, 0), (.bastore, .null, 0, 0), (.iinc 7 1, .int (nI 1), 0, 0)] [(x7, 200), ((nI 0), 2)] (by decide +kernel) rfl ⟨hb1, x_inl (by decide), trivial⟩ ?_
    refine xr_goto (tgt := 22) (off := -19) (by decide +kernel) (by decide) ?_
    exact x_R.sub [1, 2, 3, 4, 5, 6, 7, 0] rfl h
set_option maxRecDepth 100000 in
theorem w_X12_keepByReading_47 {E : Nat × (Nat → Int32)} {d : Nat} {v : xV} {x1 : Int32} {x2 : Int32} {x3 : Int32} {x4 : Int32} {x5 : Int32} {x6 : Int32} {x7 : Int32} {Q : xV → Prop} (h : (((gI v 80 70) ≤ x7 → RV E (d + 1) 206 129 [(0, .ref 80), (1, .int x1), (2, .int x2), (3, .int x3), (6, .int x6)] v Q) ∧ (¬ (gI v 80 70) ≤ x7 → ((x4 = (-1 : Int32) → RV E (d + 1) 206 129 [(0, .ref 80), (1, .int x1), (2, .int x2), (3, .int x3), (6, .int x6)] v Q) ∧ (¬ x4 = (-1 : Int32) → ((x5 = (-1 : Int32) → RV E (d + 1) 206 129 [(0, .ref 80), (1, .int x1), (2, .int x2), (3, .int x3), (6, .int x6)] v Q) ∧ (¬ x5 = (-1 : Int32) → KI E d 203 [.ref 80, .int x7, .int x2, .int x3, .int (nI 3)] v (fun y2 v1 => ((y2 = (nI 0) → RV E (d + 1) 206 47 [(0, .ref 80), (1, .int x1), (2, .int x2), (3, .int x3), (4, .int x4), (5, .int x5), (6, .int x6), (7, .int (x7 + (nI 1)))] v1 Q) ∧ (¬ y2 = (nI 0) → vp_in x7 80 ∧ ((¬ ((gA v1 122) (x7).toNatClampNeg) = x4 → RV E (d + 1) 206 47 [(0, .ref 80), (1, .int x1), (2, .int x2), (3, .int x3), (4, .int x4), (5, .int x5), (6, .int x6), (7, .int (x7 + (nI 1)))] v1 Q) ∧ (((gA v1 122) (x7).toNatClampNeg) = x4 → vp_in x7 80 ∧ ((((gA v1 123) (x7).toNatClampNeg) = x5 → vp_in x7 80 ∧ vp_in ((gA v1 124) (x7).toNatClampNeg) 200 ∧ RV E (d + 1) 206 47 [(0, .ref 80), (1, .int x1), (2, .int x2), (3, .int x3), (4, .int x4), (5, .int x5), (6, .int (nI 1)), (7, .int (x7 + (nI 1)))] (v_A v1 128 (upd (gA v1 128) (((gA v1 124) (x7).toNatClampNeg)).toNatClampNeg (nI 1))) Q) ∧ (¬ ((gA v1 123) (x7).toNatClampNeg) = x5 → RV E (d + 1) 206 47 [(0, .ref 80), (1, .int x1), (2, .int x2), (3, .int x3), (4, .int x4), (5, .int x5), (6, .int x6), (7, .int (x7 + (nI 1)))] v1 Q)))))))))))))) : RV E (d + 1) 206 47 [(0, .ref 80), (1, .int x1), (2, .int x2), (3, .int x3), (4, .int x4), (5, .int x5), (6, .int x6), (7, .int x7)] v Q := by
  unfold RV
  refine xr_blk (lv1 := [(0, .ref 80), (1, .int x1), (2, .int x2), (3, .int x3), (4, .int x4), (5, .int x5), (6, .int x6), (7, .int x7)]) (st1 := [.int (gI v 80 70), .int x7]) (S1 := rt v) (pc1 := 53) [(.iload 7, .null, 0, 0), (.aload_n 0, .null, 0, 0), (.getfield 377, .null, 12, 70)] [] (by decide +kernel) rfl trivial ?_
  refine xr_ic_ge (tgt := 129) (off := 76) (by decide +kernel) (by decide) (fun hc => ?_) (fun hc => ?_)
  · replace h := h.1 hc
    exact x_R.sub [0, 1, 2, 3, 6] rfl h
  · replace h := h.2 hc
    refine xr_blk (lv1 := [(0, .ref 80), (1, .int x1), (2, .int x2), (3, .int x3), (4, .int x4), (5, .int x5), (6, .int x6), (7, .int x7)]) (st1 := [.int (-1), .int x4]) (S1 := rt v) (pc1 := 59) [(.iload 4, .null, 0, 0), (.iconst (-1), .int (-1), 0, 0)] [] (by decide +kernel) rfl trivial ?_
    refine xr_ic_eq (tgt := 129) (off := 70) (by decide +kernel) (by decide) (fun hc => ?_) (fun hc => ?_)
    · replace h := h.1 hc
      exact x_R.sub [0, 1, 2, 3, 6] rfl h
    · replace h := h.2 hc
      refine xr_blk (lv1 := [(0, .ref 80), (1, .int x1), (2, .int x2), (3, .int x3), (4, .int x4), (5, .int x5), (6, .int x6), (7, .int x7)]) (st1 := [.int (-1), .int x5]) (S1 := rt v) (pc1 := 65) [(.iload 5, .null, 0, 0), (.iconst (-1), .int (-1), 0, 0)] [] (by decide +kernel) rfl trivial ?_
      refine xr_ic_eq (tgt := 129) (off := 64) (by decide +kernel) (by decide) (fun hc => ?_) (fun hc => ?_)
      · replace h := h.1 hc
        exact x_R.sub [0, 1, 2, 3, 6] rfl h
      · replace h := h.2 hc
        refine xr_blk (lv1 := [(0, .ref 80), (1, .int x1), (2, .int x2), (3, .int x3), (4, .int x4), (5, .int x5), (6, .int x6), (7, .int x7)]) (st1 := [.int (nI 3), .int x3, .int x2, .int x7, .ref 80]) (S1 := rt v) (pc1 := 74) [(.aload_n 0, .null, 0, 0), (.iload 7, .null, 0, 0), (.iload_n 2, .null, 0, 0), (.iload_n 3, .null, 0, 0), (.iconst 3, .int (nI 3), 0, 0)] [] (by decide +kernel) rfl trivial ?_
        refine xk_VI (As := [.int x7, .int x2, .int x3, .int (nI 3)]) (bb := 80) (rest := []) (idx := 390) (i0 := 390) (m1 := 203) (ps := [1811, 1813, 83]) (by decide +kernel) (by decide +kernel) (by decide) rfl ((gK_s (by decide)).trans (by decide +kernel)) (by decide) (Nat.le_of_ble_eq_true rfl) rfl h (fun y2 v1 h => ?_)
        refine xr_if_eq (tgt := 123) (off := 46) (by decide +kernel) (by decide) (fun hc => ?_) (fun hc => ?_)
        · replace h := h.1 hc
          refine xr_blk (lv1 := [(7, .int (x7 + (nI 1))), (0, .ref 80), (1, .int x1), (2, .int x2), (3, .int x3), (4, .int x4), (5, .int x5), (6, .int x6)]) (st1 := []) (S1 := rt v1) (pc1 := 126) [(.iinc 7 1, .int (nI 1), 0, 0)] [] (by decide +kernel) rfl trivial ?_
          refine xr_goto (tgt := 47) (off := -79) (by decide +kernel) (by decide) ?_
          exact x_R.sub [1, 2, 3, 4, 5, 6, 7, 0] rfl h
        · replace h := h.2 hc
          obtain ⟨hb3, h⟩ := h
          refine xr_blk (lv1 := [(0, .ref 80), (1, .int x1), (2, .int x2), (3, .int x3), (4, .int x4), (5, .int x5), (6, .int x6), (7, .int x7)]) (st1 := [.int x4, .int ((gA v1 122) (x7).toNatClampNeg)]) (S1 := rt v1) (pc1 := 89) [(.aload_n 0, .null, 0, 0), (.getfield 139, .null, 12, 65), (.iload 7, .null, 0, 0), (.iaload, .null, 0, 0), (.iload 4, .null, 0, 0)] [(x7, 80)] (by decide +kernel) rfl ⟨hb3, trivial⟩ ?_
          refine xr_ic_ne (tgt := 123) (off := 34) (by decide +kernel) (by decide) (fun hc => ?_) (fun hc => ?_)
          · replace h := h.1 hc
            refine xr_blk (lv1 := [(7, .int (x7 + (nI 1))), (0, .ref 80), (1, .int x1), (2, .int x2), (3, .int x3), (4, .int x4), (5, .int x5), (6, .int x6)]) (st1 := []) (S1 := rt v1) (pc1 := 126) [(.iinc 7 1, .int (nI 1), 0, 0)] [] (by decide +kernel) rfl trivial ?_
            refine xr_goto (tgt := 47) (off := -79) (by decide +kernel) (by decide) ?_
            exact x_R.sub [1, 2, 3, 4, 5, 6, 7, 0] rfl h
          · replace h := h.2 hc
            obtain ⟨hb4, h⟩ := h
            refine xr_blk (lv1 := [(0, .ref 80), (1, .int x1), (2, .int x2), (3, .int x3), (4, .int x4), (5, .int x5), (6, .int x6), (7, .int x7)]) (st1 := [.int x5, .int ((gA v1 123) (x7).toNatClampNeg)]) (S1 := rt v1) (pc1 := 101) [(.aload_n 0, .null, 0, 0), (.getfield 142, .null, 12, 66), (.iload 7, .null, 0, 0), (.iaload, .null, 0, 0), (.iload 5, .null, 0, 0)] [(x7, 80)] (by decide +kernel) rfl ⟨hb4, trivial⟩ ?_
            refine xr_ic_eq (tgt := 107) (off := 6) (by decide +kernel) (by decide) (fun hc => ?_) (fun hc => ?_)
            · replace h := h.1 hc
              obtain ⟨hb5, h⟩ := h
              obtain ⟨hb6, h⟩ := h
              refine xr_blk (lv1 := [(7, .int (x7 + (nI 1))), (6, .int (nI 1)), (0, .ref 80), (1, .int x1), (2, .int x2), (3, .int x3), (4, .int x4), (5, .int x5)]) (st1 := []) (S1 := rt (v_A v1 128 (upd (gA v1 128) (((gA v1 124) (x7).toNatClampNeg)).toNatClampNeg (nI 1)))) (pc1 := 126) [(.aload_n 0, .null, 0, 0), (.getfield 157, .null, 12, 74), (.aload_n 0, .null, 0, 0), (.getfield 145, .null, 12, 67), (.iload 7, .null, 0, 0), (.iaload, .null, 0, 0), (.iconst 1, .int (nI 1), 0, 0), (.bastore, .null, 0, 0), (.iconst 1, .int (nI 1), 0, 0), (.istore 6, .null, 0, 0), (.iinc 7 1, .int (nI 1), 0, 0)] [(x7, 80), (((gA v1 124) (x7).toNatClampNeg), 200), ((nI 1), 2)] (by decide +kernel) rfl ⟨hb5, hb6, x_inl (by decide), trivial⟩ ?_
              refine xr_goto (tgt := 47) (off := -79) (by decide +kernel) (by decide) ?_
              exact x_R.sub [2, 3, 4, 5, 6, 7, 1, 0] rfl h
            · replace h := h.2 hc
              refine xr_goto (tgt := 123) (off := 19) (by decide +kernel) (by decide) ?_
              refine xr_blk (lv1 := [(7, .int (x7 + (nI 1))), (0, .ref 80), (1, .int x1), (2, .int x2), (3, .int x3), (4, .int x4), (5, .int x5), (6, .int x6)]) (st1 := []) (S1 := rt v1) (pc1 := 126) [(.iinc 7 1, .int (nI 1), 0, 0)] [] (by decide +kernel) rfl trivial ?_
              refine xr_goto (tgt := 47) (off := -79) (by decide +kernel) (by decide) ?_
              exact x_R.sub [1, 2, 3, 4, 5, 6, 7, 0] rfl h
set_option maxRecDepth 100000 in
theorem w_X12_keepByReading_129 {E : Nat × (Nat → Int32)} {d : Nat} {v : xV} {x1 : Int32} {x2 : Int32} {x3 : Int32} {x6 : Int32} {Q : xV → Prop} (h : ((x6 = (nI 0) → RV E (d + 1) 206 142 [(0, .ref 80), (1, .int x1), (2, .int x2), (3, .int x3), (7, .int (nI 0))] v Q) ∧ (¬ x6 = (nI 0) → KV E d 207 [.ref 80, .int x1] v (fun v1 => RV E (d + 1) 206 142 [(0, .ref 80), (1, .int x1), (2, .int x2), (3, .int x3), (7, .int (nI 0))] v1 Q)))) : RV E (d + 1) 206 129 [(0, .ref 80), (1, .int x1), (2, .int x2), (3, .int x3), (6, .int x6)] v Q := by
  unfold RV
  refine xr_blk (lv1 := [(0, .ref 80), (1, .int x1), (2, .int x2), (3, .int x3), (6, .int x6)]) (st1 := [.int x6]) (S1 := rt v) (pc1 := 131) [(.iload 6, .null, 0, 0)] [] (by decide +kernel) rfl trivial ?_
  refine xr_if_eq (tgt := 139) (off := 8) (by decide +kernel) (by decide) (fun hc => ?_) (fun hc => ?_)
  · replace h := h.1 hc
    refine xr_blk (lv1 := [(7, .int (nI 0)), (0, .ref 80), (1, .int x1), (2, .int x2), (3, .int x3), (6, .int x6)]) (st1 := []) (S1 := rt v) (pc1 := 142) [(.iconst 0, .int (nI 0), 0, 0), (.istore 7, .null, 0, 0)] [] (by decide +kernel) rfl trivial ?_
    exact x_R.sub [1, 2, 3, 4, 0] rfl h
  · replace h := h.2 hc
    refine xr_blk (lv1 := [(0, .ref 80), (1, .int x1), (2, .int x2), (3, .int x3), (6, .int x6)]) (st1 := [.int x1, .ref 80]) (S1 := rt v) (pc1 := 136) [(.aload_n 0, .null, 0, 0), (.iload_n 1, .null, 0, 0)] [] (by decide +kernel) rfl trivial ?_
    refine xk_VV (As := [.int x1]) (bb := 80) (rest := []) (idx := 411) (i0 := 411) (m1 := 207) (ps := [1826, 1828, 86]) (by decide +kernel) (by decide +kernel) (by decide) rfl ((gK_s (by decide)).trans (by decide +kernel)) (by decide) (Nat.le_of_ble_eq_true rfl) rfl h (fun v1 h => ?_)
    refine xr_blk (lv1 := [(7, .int (nI 0)), (0, .ref 80), (1, .int x1), (2, .int x2), (3, .int x3), (6, .int x6)]) (st1 := []) (S1 := rt v1) (pc1 := 142) [(.iconst 0, .int (nI 0), 0, 0), (.istore 7, .null, 0, 0)] [] (by decide +kernel) rfl trivial ?_
    exact x_R.sub [1, 2, 3, 4, 0] rfl h
set_option maxRecDepth 100000 in
theorem w_X12_keepByReading_142 {E : Nat × (Nat → Int32)} {d : Nat} {v : xV} {x1 : Int32} {x2 : Int32} {x3 : Int32} {x7 : Int32} {Q : xV → Prop} (h : vp_in x1 20 ∧ ((((gA v 117) (x1).toNatClampNeg) ≤ x7 → Q v) ∧ (¬ ((gA v 117) (x1).toNatClampNeg) ≤ x7 → vp_in (((nI 6) * x1) + x7) 120 ∧ ∀ y3 : Int32, y3 = ((gA v 116) ((((nI 6) * x1) + x7)).toNatClampNeg) → RV E (d + 1) 206 173 [(0, .ref 80), (1, .int x1), (2, .int x2), (3, .int x3), (6, .int (nI 0)), (7, .int x7), (8, .int y3), (9, .int (nI 0))] v Q))) : RV E (d + 1) 206 142 [(0, .ref 80), (1, .int x1), (2, .int x2), (3, .int x3), (7, .int x7)] v Q := by
  unfold RV
  obtain ⟨hb1, h⟩ := h
  refine xr_blk (lv1 := [(0, .ref 80), (1, .int x1), (2, .int x2), (3, .int x3), (7, .int x7)]) (st1 := [.int ((gA v 117) (x1).toNatClampNeg), .int x7]) (S1 := rt v) (pc1 := 150) [(.iload 7, .null, 0, 0), (.aload_n 0, .null, 0, 0), (.getfield 124, .null, 12, 58), (.iload_n 1, .null, 0, 0), (.iaload, .null, 0, 0)] [(x1, 20)] (by decide +kernel) rfl ⟨hb1, trivial⟩ ?_
  refine xr_ic_ge (tgt := 294) (off := 144) (by decide +kernel) (by decide) (fun hc => ?_) (fun hc => ?_)
  · replace h := h.1 hc
    exact xr_ret0 (by decide +kernel) rfl ⟨_, rfl, rfl, h⟩
  · replace h := h.2 hc
    obtain ⟨hb2, h⟩ := h
    refine xr_blk (lv1 := [(0, .ref 80), (1, .int x1), (2, .int x2), (3, .int x3), (7, .int x7)]) (st1 := [.int ((gA v 116) ((((nI 6) * x1) + x7)).toNatClampNeg)]) (S1 := rt v) (pc1 := 165) [(.aload_n 0, .null, 0, 0), (.getfield 121, .null, 12, 57), (.bipush 6, .int (nI 6), 0, 0), (.iload_n 1, .null, 0, 0), (.imul, .null, 0, 0), (.iload 7, .null, 0, 0), (.iadd, .null, 0, 0), (.iaload, .null, 0, 0)] [((((nI 6) * x1) + x7), 120)] (by decide +kernel) rfl ⟨hb2, trivial⟩ ?_
    refine xr_topi (fun y3 ey3 => ?_)
    replace h := h y3 ey3
    refine xr_blk (lv1 := [(9, .int (nI 0)), (6, .int (nI 0)), (8, .int y3), (0, .ref 80), (1, .int x1), (2, .int x2), (3, .int x3), (7, .int x7)]) (st1 := []) (S1 := rt v) (pc1 := 173) [(.istore 8, .null, 0, 0), (.iconst 0, .int (nI 0), 0, 0), (.istore 6, .null, 0, 0), (.iconst 0, .int (nI 0), 0, 0), (.istore 9, .null, 0, 0)] [] (by decide +kernel) rfl trivial ?_
    exact x_R.sub [3, 4, 5, 6, 1, 7, 2, 0] rfl h
set_option maxRecDepth 100000 in
theorem w_X12_keepByReading_173 {E : Nat × (Nat → Int32)} {d : Nat} {v : xV} {x1 : Int32} {x2 : Int32} {x3 : Int32} {x6 : Int32} {x7 : Int32} {x8 : Int32} {x9 : Int32} {Q : xV → Prop} (h : (((nI 200) ≤ x9 → RV E (d + 1) 206 198 [(0, .ref 80), (1, .int x1), (2, .int x2), (3, .int x3), (6, .int x6), (7, .int x7), (8, .int x8), (9, .int (nI 0))] v Q) ∧ (¬ (nI 200) ≤ x9 → vp_in x9 200 ∧ RV E (d + 1) 206 173 [(0, .ref 80), (1, .int x1), (2, .int x2), (3, .int x3), (6, .int x6), (7, .int x7), (8, .int x8), (9, .int (x9 + (nI 1)))] (v_A v 128 (upd (gA v 128) (x9).toNatClampNeg (nI 0))) Q))) : RV E (d + 1) 206 173 [(0, .ref 80), (1, .int x1), (2, .int x2), (3, .int x3), (6, .int x6), (7, .int x7), (8, .int x8), (9, .int x9)] v Q := by
  unfold RV
  refine xr_blk (lv1 := [(0, .ref 80), (1, .int x1), (2, .int x2), (3, .int x3), (6, .int x6), (7, .int x7), (8, .int x8), (9, .int x9)]) (st1 := [.int (nI 200), .int x9]) (S1 := rt v) (pc1 := 178) [(.iload 9, .null, 0, 0), (.sipush 200, .int (nI 200), 0, 0)] [] (by decide +kernel) rfl trivial ?_
  refine xr_ic_ge (tgt := 195) (off := 17) (by decide +kernel) (by decide) (fun hc => ?_) (fun hc => ?_)
  · replace h := h.1 hc
    refine xr_blk (lv1 := [(9, .int (nI 0)), (0, .ref 80), (1, .int x1), (2, .int x2), (3, .int x3), (6, .int x6), (7, .int x7), (8, .int x8)]) (st1 := []) (S1 := rt v) (pc1 := 198) [(.iconst 0, .int (nI 0), 0, 0), (.istore 9, .null, 0, 0)] [] (by decide +kernel) rfl trivial ?_
    exact x_R.sub [1, 2, 3, 4, 5, 6, 7, 0] rfl h
  · replace h := h.2 hc
    obtain ⟨hb1, h⟩ := h
    refine xr_blk (lv1 := [(9, .int (x9 + (nI 1))), (0, .ref 80), (1, .int x1), (2, .int x2), (3, .int x3), (6, .int x6), (7, .int x7), (8, .int x8)]) (st1 := []) (S1 := rt (v_A v 128 (upd (gA v 128) (x9).toNatClampNeg (nI 0)))) (pc1 := 192) [(.aload_n 0, .null, 0, 0), (.getfield 157, .null, 12, 74), (.iload 9, .null, 0, 0), (.iconst 0, .int (nI 0), 0, 0), (.bastore, .null, 0, 0), (.iinc 9 1, .int (nI 1), 0, 0)] [(x9, 200), ((nI 0), 2)] (by decide +kernel) rfl ⟨hb1, x_inl (by decide), trivial⟩ ?_
    refine xr_goto (tgt := 173) (off := -19) (by decide +kernel) (by decide) ?_
    exact x_R.sub [1, 2, 3, 4, 5, 6, 7, 0] rfl h
set_option maxRecDepth 100000 in
theorem w_X12_keepByReading_198 {E : Nat × (Nat → Int32)} {d : Nat} {v : xV} {x1 : Int32} {x2 : Int32} {x3 : Int32} {x6 : Int32} {x7 : Int32} {x8 : Int32} {x9 : Int32} {Q : xV → Prop} (h : (((gI v 80 70) ≤ x9 → ((x6 = (nI 0) → RV E (d + 1) 206 142 [(0, .ref 80), (1, .int x1), (2, .int x2), (3, .int x3), (7, .int (x7 + (nI 1)))] v Q) ∧ (¬ x6 = (nI 0) → KV E d 207 [.ref 80, .int x1] v (fun v1 => RV E (d + 1) 206 142 [(0, .ref 80), (1, .int x1), (2, .int x2), (3, .int x3), (7, .int (x7 + (nI 1)))] v1 Q)))) ∧ (¬ (gI v 80 70) ≤ x9 → KI E d 203 [.ref 80, .int x9, .int x2, .int x3, .int (nI 4)] v (fun y3 v2 => ((y3 = (nI 0) → RV E (d + 1) 206 198 [(0, .ref 80), (1, .int x1), (2, .int x2), (3, .int x3), (6, .int x6), (7, .int x7), (8, .int x8), (9, .int (x9 + (nI 1)))] v2 Q) ∧ (¬ y3 = (nI 0) → vp_in x9 80 ∧ ((((gA v2 122) (x9).toNatClampNeg) = x8 → vp_in x9 80 ∧ ∀ y6 : Int32, y6 = ((gA v2 124) (x9).toNatClampNeg) → RV E (d + 1) 206 243 [(0, .ref 80), (1, .int x1), (2, .int x2), (3, .int x3), (7, .int x7), (8, .int x8), (9, .int x9), (10, .int y6)] v2 Q) ∧ (¬ ((gA v2 122) (x9).toNatClampNeg) = x8 → RV E (d + 1) 206 198 [(0, .ref 80), (1, .int x1), (2, .int x2), (3, .int x3), (6, .int x6), (7, .int x7), (8, .int x8), (9, .int (x9 + (nI 1)))] v2 Q)))))))) : RV E (d + 1) 206 198 [(0, .ref 80), (1, .int x1), (2, .int x2), (3, .int x3), (6, .int x6), (7, .int x7), (8, .int x8), (9, .int x9)] v Q := by
  unfold RV
  refine xr_blk (lv1 := [(0, .ref 80), (1, .int x1), (2, .int x2), (3, .int x3), (6, .int x6), (7, .int x7), (8, .int x8), (9, .int x9)]) (st1 := [.int (gI v 80 70), .int x9]) (S1 := rt v) (pc1 := 204) [(.iload 9, .null, 0, 0), (.aload_n 0, .null, 0, 0), (.getfield 377, .null, 12, 70)] [] (by decide +kernel) rfl trivial ?_
  refine xr_ic_ge (tgt := 278) (off := 74) (by decide +kernel) (by decide) (fun hc => ?_) (fun hc => ?_)
  · replace h := h.1 hc
    refine xr_blk (lv1 := [(0, .ref 80), (1, .int x1), (2, .int x2), (3, .int x3), (6, .int x6), (7, .int x7), (8, .int x8), (9, .int x9)]) (st1 := [.int x6]) (S1 := rt v) (pc1 := 280) [(.iload 6, .null, 0, 0)] [] (by decide +kernel) rfl trivial ?_
    refine xr_if_eq (tgt := 288) (off := 8) (by decide +kernel) (by decide) (fun hc => ?_) (fun hc => ?_)
    · replace h := h.1 hc
      refine xr_blk (lv1 := [(7, .int (x7 + (nI 1))), (0, .ref 80), (1, .int x1), (2, .int x2), (3, .int x3), (6, .int x6), (8, .int x8), (9, .int x9)]) (st1 := []) (S1 := rt v) (pc1 := 291) [(.iinc 7 1, .int (nI 1), 0, 0)] [] (by decide +kernel) rfl trivial ?_
      refine xr_goto (tgt := 142) (off := -149) (by decide +kernel) (by decide) ?_
      exact x_R.sub [1, 2, 3, 4, 0] rfl h
    · replace h := h.2 hc
      refine xr_blk (lv1 := [(0, .ref 80), (1, .int x1), (2, .int x2), (3, .int x3), (6, .int x6), (7, .int x7), (8, .int x8), (9, .int x9)]) (st1 := [.int x1, .ref 80]) (S1 := rt v) (pc1 := 285) [(.aload_n 0, .null, 0, 0), (.iload_n 1, .null, 0, 0)] [] (by decide +kernel) rfl trivial ?_
      refine xk_VV (As := [.int x1]) (bb := 80) (rest := []) (idx := 411) (i0 := 411) (m1 := 207) (ps := [1826, 1828, 86]) (by decide +kernel) (by decide +kernel) (by decide) rfl ((gK_s (by decide)).trans (by decide +kernel)) (by decide) (Nat.le_of_ble_eq_true rfl) rfl h (fun v1 h => ?_)
      refine xr_blk (lv1 := [(7, .int (x7 + (nI 1))), (0, .ref 80), (1, .int x1), (2, .int x2), (3, .int x3), (6, .int x6), (8, .int x8), (9, .int x9)]) (st1 := []) (S1 := rt v1) (pc1 := 291) [(.iinc 7 1, .int (nI 1), 0, 0)] [] (by decide +kernel) rfl trivial ?_
      refine xr_goto (tgt := 142) (off := -149) (by decide +kernel) (by decide) ?_
      exact x_R.sub [1, 2, 3, 4, 0] rfl h
  · replace h := h.2 hc
    refine xr_blk (lv1 := [(0, .ref 80), (1, .int x1), (2, .int x2), (3, .int x3), (6, .int x6), (7, .int x7), (8, .int x8), (9, .int x9)]) (st1 := [.int (nI 4), .int x3, .int x2, .int x9, .ref 80]) (S1 := rt v) (pc1 := 213) [(.aload_n 0, .null, 0, 0), (.iload 9, .null, 0, 0), (.iload_n 2, .null, 0, 0), (.iload_n 3, .null, 0, 0), (.iconst 4, .int (nI 4), 0, 0)] [] (by decide +kernel) rfl trivial ?_
    refine xk_VI (As := [.int x9, .int x2, .int x3, .int (nI 4)]) (bb := 80) (rest := []) (idx := 390) (i0 := 390) (m1 := 203) (ps := [1811, 1813, 83]) (by decide +kernel) (by decide +kernel) (by decide) rfl ((gK_s (by decide)).trans (by decide +kernel)) (by decide) (Nat.le_of_ble_eq_true rfl) rfl h (fun y3 v2 h => ?_)
    refine xr_if_eq (tgt := 272) (off := 56) (by decide +kernel) (by decide) (fun hc => ?_) (fun hc => ?_)
    · replace h := h.1 hc
      refine xr_blk (lv1 := [(9, .int (x9 + (nI 1))), (0, .ref 80), (1, .int x1), (2, .int x2), (3, .int x3), (6, .int x6), (7, .int x7), (8, .int x8)]) (st1 := []) (S1 := rt v2) (pc1 := 275) [(.iinc 9 1, .int (nI 1), 0, 0)] [] (by decide +kernel) rfl trivial ?_
      refine xr_goto (tgt := 198) (off := -77) (by decide +kernel) (by decide) ?_
      exact x_R.sub [1, 2, 3, 4, 5, 6, 7, 0] rfl h
    · replace h := h.2 hc
      obtain ⟨hb4, h⟩ := h
      refine xr_blk (lv1 := [(0, .ref 80), (1, .int x1), (2, .int x2), (3, .int x3), (6, .int x6), (7, .int x7), (8, .int x8), (9, .int x9)]) (st1 := [.int x8, .int ((gA v2 122) (x9).toNatClampNeg)]) (S1 := rt v2) (pc1 := 228) [(.aload_n 0, .null, 0, 0), (.getfield 139, .null, 12, 65), (.iload 9, .null, 0, 0), (.iaload, .null, 0, 0), (.iload 8, .null, 0, 0)] [(x9, 80)] (by decide +kernel) rfl ⟨hb4, trivial⟩ ?_
      refine xr_ic_eq (tgt := 234) (off := 6) (by decide +kernel) (by decide) (fun hc => ?_) (fun hc => ?_)
      · replace h := h.1 hc
        obtain ⟨hb5, h⟩ := h
        refine xr_blk (lv1 := [(0, .ref 80), (1, .int x1), (2, .int x2), (3, .int x3), (6, .int x6), (7, .int x7), (8, .int x8), (9, .int x9)]) (st1 := [.int ((gA v2 124) (x9).toNatClampNeg)]) (S1 := rt v2) (pc1 := 241) [(.aload_n 0, .null, 0, 0), (.getfield 145, .null, 12, 67), (.iload 9, .null, 0, 0), (.iaload, .null, 0, 0)] [(x9, 80)] (by decide +kernel) rfl ⟨hb5, trivial⟩ ?_
        refine xr_topi (fun y6 ey6 => ?_)
        replace h := h y6 ey6
        refine xr_blk (lv1 := [(10, .int y6), (0, .ref 80), (1, .int x1), (2, .int x2), (3, .int x3), (6, .int x6), (7, .int x7), (8, .int x8), (9, .int x9)]) (st1 := []) (S1 := rt v2) (pc1 := 243) [(.istore 10, .null, 0, 0)] [] (by decide +kernel) rfl trivial ?_
        exact x_R.sub [1, 2, 3, 4, 6, 7, 8, 0] rfl h
      · replace h := h.2 hc
        refine xr_goto (tgt := 272) (off := 41) (by decide +kernel) (by decide) ?_
        refine xr_blk (lv1 := [(9, .int (x9 + (nI 1))), (0, .ref 80), (1, .int x1), (2, .int x2), (3, .int x3), (6, .int x6), (7, .int x7), (8, .int x8)]) (st1 := []) (S1 := rt v2) (pc1 := 275) [(.iinc 9 1, .int (nI 1), 0, 0)] [] (by decide +kernel) rfl trivial ?_
        refine xr_goto (tgt := 198) (off := -77) (by decide +kernel) (by decide) ?_
        exact x_R.sub [1, 2, 3, 4, 5, 6, 7, 0] rfl h
set_option maxRecDepth 100000 in
theorem w_X12_keepByReading_243 {E : Nat × (Nat → Int32)} {d : Nat} {v : xV} {x1 : Int32} {x2 : Int32} {x3 : Int32} {x7 : Int32} {x8 : Int32} {x9 : Int32} {x10 : Int32} {Q : xV → Prop} (h : vp_in x9 80 ∧ ((((gA v 125) (x9).toNatClampNeg) < x10 → RV E (d + 1) 206 198 [(0, .ref 80), (1, .int x1), (2, .int x2), (3, .int x3), (6, .int (nI 1)), (7, .int x7), (8, .int x8), (9, .int (x9 + (nI 1)))] v Q) ∧ (¬ ((gA v 125) (x9).toNatClampNeg) < x10 → vp_in x10 200 ∧ RV E (d + 1) 206 243 [(0, .ref 80), (1, .int x1), (2, .int x2), (3, .int x3), (7, .int x7), (8, .int x8), (9, .int x9), (10, .int (x10 + (nI 1)))] (v_A v 128 (upd (gA v 128) (x10).toNatClampNeg (nI 1))) Q))) : RV E (d + 1) 206 243 [(0, .ref 80), (1, .int x1), (2, .int x2), (3, .int x3), (7, .int x7), (8, .int x8), (9, .int x9), (10, .int x10)] v Q := by
  unfold RV
  obtain ⟨hb1, h⟩ := h
  refine xr_blk (lv1 := [(0, .ref 80), (1, .int x1), (2, .int x2), (3, .int x3), (7, .int x7), (8, .int x8), (9, .int x9), (10, .int x10)]) (st1 := [.int ((gA v 125) (x9).toNatClampNeg), .int x10]) (S1 := rt v) (pc1 := 252) [(.iload 10, .null, 0, 0), (.aload_n 0, .null, 0, 0), (.getfield 148, .null, 12, 68), (.iload 9, .null, 0, 0), (.iaload, .null, 0, 0)] [(x9, 80)] (by decide +kernel) rfl ⟨hb1, trivial⟩ ?_
  refine xr_ic_gt (tgt := 269) (off := 17) (by decide +kernel) (by decide) (fun hc => ?_) (fun hc => ?_)
  · replace h := h.1 hc
    refine xr_blk (lv1 := [(9, .int (x9 + (nI 1))), (6, .int (nI 1)), (0, .ref 80), (1, .int x1), (2, .int x2), (3, .int x3), (7, .int x7), (8, .int x8), (10, .int x10)]) (st1 := []) (S1 := rt v) (pc1 := 275) [(.iconst 1, .int (nI 1), 0, 0), (.istore 6, .null, 0, 0), (.iinc 9 1, .int (nI 1), 0, 0)] [] (by decide +kernel) rfl trivial ?_
    refine xr_goto (tgt := 198) (off := -77) (by decide +kernel) (by decide) ?_
    exact x_R.sub [2, 3, 4, 5, 1, 6, 7, 0] rfl h
  · replace h := h.2 hc
    obtain ⟨hb2, h⟩ := h
    refine xr_blk (lv1 := [(10, .int (x10 + (nI 1))), (0, .ref 80), (1, .int x1), (2, .int x2), (3, .int x3), (7, .int x7), (8, .int x8), (9, .int x9)]) (st1 := []) (S1 := rt (v_A v 128 (upd (gA v 128) (x10).toNatClampNeg (nI 1)))) (pc1 := 266) [(.aload_n 0, .null, 0, 0), (.getfield 157, .null, 12, 74), (.iload 10, .null, 0, 0), (.iconst 1, .int (nI 1), 0, 0), (.bastore, .null, 0, 0), (.iinc 10 1, .int (nI 1), 0, 0)] [(x10, 200), ((nI 1), 2)] (by decide +kernel) rfl ⟨hb2, x_inl (by decide), trivial⟩ ?_
    refine xr_goto (tgt := 243) (off := -23) (by decide +kernel) (by decide) ?_
    exact x_R.sub [1, 2, 3, 4, 5, 6, 7, 0] rfl h
theorem ok_206 : x_mOK 206 := ⟨x_tm8 (List.mem_of_getElem? (i := 45) rfl) rfl, 114, by decide +kernel⟩
/-! X12_keepSome: method 207, ScrawlHouseModel.keepSome(I)V -/
set_option maxRecDepth 100000 in
theorem w_X12_keepSome_0 {E : Nat × (Nat → Int32)} {d : Nat} {v : xV} {x1 : Int32} {Q : xV → Prop} (h : RV E d 207 2 [(0, .ref 80), (1, .int x1), (2, .int (nI 0))] v Q) : RV E d 207 0 [(0, .ref 80), (1, .int x1)] v Q := by
  unfold RV
  refine xr_blk (lv1 := [(2, .int (nI 0)), (0, .ref 80), (1, .int x1)]) (st1 := []) (S1 := rt v) (pc1 := 2) [(.iconst 0, .int (nI 0), 0, 0), (.istore_n 2, .null, 0, 0)] [] (by decide +kernel) rfl trivial ?_
  exact x_R.sub [1, 2, 0] rfl h
set_option maxRecDepth 100000 in
theorem w_X12_keepSome_2 {E : Nat × (Nat → Int32)} {d : Nat} {v : xV} {x1 : Int32} {x2 : Int32} {Q : xV → Prop} (h : (((nI 200) ≤ x2 → Q v) ∧ (¬ (nI 200) ≤ x2 → vp_in x2 200 ∧ ((¬ ((gA v 128) (x2).toNatClampNeg) = (nI 0) → RV E d 207 2 [(0, .ref 80), (1, .int x1), (2, .int (x2 + (nI 1)))] v Q) ∧ (((gA v 128) (x2).toNatClampNeg) = (nI 0) → vp_in (((nI 200) * x1) + x2) 10400 ∧ RV E d 207 2 [(0, .ref 80), (1, .int x1), (2, .int (x2 + (nI 1)))] (v_A v 127 (upd (gA v 127) ((((nI 200) * x1) + x2)).toNatClampNeg (nI 0))) Q))))) : RV E d 207 2 [(0, .ref 80), (1, .int x1), (2, .int x2)] v Q := by
  unfold RV
  refine xr_blk (lv1 := [(0, .ref 80), (1, .int x1), (2, .int x2)]) (st1 := [.int (nI 200), .int x2]) (S1 := rt v) (pc1 := 6) [(.iload_n 2, .null, 0, 0), (.sipush 200, .int (nI 200), 0, 0)] [] (by decide +kernel) rfl trivial ?_
  refine xr_ic_ge (tgt := 37) (off := 31) (by decide +kernel) (by decide) (fun hc => ?_) (fun hc => ?_)
  · replace h := h.1 hc
    exact xr_ret0 (by decide +kernel) rfl ⟨_, rfl, rfl, h⟩
  · replace h := h.2 hc
    obtain ⟨hb1, h⟩ := h
    refine xr_blk (lv1 := [(0, .ref 80), (1, .int x1), (2, .int x2)]) (st1 := [.int ((gA v 128) (x2).toNatClampNeg)]) (S1 := rt v) (pc1 := 15) [(.aload_n 0, .null, 0, 0), (.getfield 157, .null, 12, 74), (.iload_n 2, .null, 0, 0), (.baload, .null, 0, 0)] [(x2, 200)] (by decide +kernel) rfl ⟨hb1, trivial⟩ ?_
    refine xr_if_ne (tgt := 31) (off := 16) (by decide +kernel) (by decide) (fun hc => ?_) (fun hc => ?_)
    · replace h := h.1 hc
      refine xr_blk (lv1 := [(2, .int (x2 + (nI 1))), (0, .ref 80), (1, .int x1)]) (st1 := []) (S1 := rt v) (pc1 := 34) [(.iinc 2 1, .int (nI 1), 0, 0)] [] (by decide +kernel) rfl trivial ?_
      refine xr_goto (tgt := 2) (off := -32) (by decide +kernel) (by decide) ?_
      exact x_R.sub [1, 2, 0] rfl h
    · replace h := h.2 hc
      obtain ⟨hb2, h⟩ := h
      refine xr_blk (lv1 := [(2, .int (x2 + (nI 1))), (0, .ref 80), (1, .int x1)]) (st1 := []) (S1 := rt (v_A v 127 (upd (gA v 127) ((((nI 200) * x1) + x2)).toNatClampNeg (nI 0)))) (pc1 := 34) [(.aload_n 0, .null, 0, 0), (.getfield 154, .null, 12, 71), (.sipush 200, .int (nI 200), 0, 0), (.iload_n 1, .null, 0, 0), (.imul, .null, 0, 0), (.iload_n 2, .null, 0, 0), (.iadd, .null, 0, 0), (.iconst 0, .int (nI 0), 0, 0), (.bastore, .null, 0, 0), (.iinc 2 1, .int (nI 1), 0, 0)] [((((nI 200) * x1) + x2), 10400), ((nI 0), 2)] (by decide +kernel) rfl ⟨hb2, x_inl (by decide), trivial⟩ ?_
      refine xr_goto (tgt := 2) (off := -32) (by decide +kernel) (by decide) ?_
      exact x_R.sub [1, 2, 0] rfl h
theorem ok_207 : x_mOK 207 := ⟨x_tm8 (List.mem_of_getElem? (i := 49) rfl) rfl, 114, by decide +kernel⟩
/-! X12_span: method 208, ScrawlHouseModel.span(IIZ)I -/
set_option maxRecDepth 100000 in
theorem w_X12_span_0 {E : Nat × (Nat → Int32)} {d : Nat} {v : xV} {x1 : Int32} {x2 : Int32} {x3 : Int32} {Q : Int32 → xV → Prop} (h : KI E d 173 [.ref 80, .int x1, .int x2] (v_I v 80 0 (nI 0)) (fun y2 v1 => ((¬ y2 = (nI 0) → KV E d 204 [.ref 80, .int x2, .int (gI v1 80 70)] v1 (fun v3 => ((¬ (gI v3 80 72) = (nI 0) → ((x3 = (nI 0) → KI E d 200 [.ref 80, .int x1] v3 (fun y5 v4 => Q y5 v4)) ∧ (¬ x3 = (nI 0) → KI E d 201 [.ref 80, .int x1] v3 (fun y7 v6 => Q y7 v6)))) ∧ ((gI v3 80 72) = (nI 0) → Q (-1 : Int32) v3)))) ∧ (y2 = (nI 0) → Q (-1 : Int32) v1)))) : RI E (d + 1) 208 0 [(0, .ref 80), (1, .int x1), (2, .int x2), (3, .int x3)] v Q := by
  unfold RI
  refine xr_blk (lv1 := [(0, .ref 80), (1, .int x1), (2, .int x2), (3, .int x3)]) (st1 := [.int x2, .int x1, .ref 80]) (S1 := rt (v_I v 80 0 (nI 0))) (pc1 := 8) [(.aload_n 0, .null, 0, 0), (.iconst 0, .int (nI 0), 0, 0), (.putfield 190, .null, 12, 0), (.aload_n 0, .null, 0, 0), (.iload_n 1, .null, 0, 0), (.iload_n 2, .null, 0, 0)] [] (by decide +kernel) rfl trivial ?_
  refine xk_VI (As := [.int x1, .int x2]) (bb := 80) (rest := []) (idx := 321) (i0 := 321) (m1 := 173) (ps := [1712, 1714, 67]) (by decide +kernel) (by decide +kernel) (by decide) rfl ((gK_s (by decide)).trans (by decide +kernel)) (by decide) (Nat.le_of_ble_eq_true rfl) rfl h (fun y2 v1 h => ?_)
  refine xr_if_ne (tgt := 16) (off := 5) (by decide +kernel) (by decide) (fun hc => ?_) (fun hc => ?_)
  · replace h := h.1 hc
    refine xr_blk (lv1 := [(0, .ref 80), (1, .int x1), (2, .int x2), (3, .int x3)]) (st1 := [.int (gI v1 80 70), .int x2, .ref 80]) (S1 := rt v1) (pc1 := 22) [(.aload_n 0, .null, 0, 0), (.iload_n 2, .null, 0, 0), (.aload_n 0, .null, 0, 0), (.getfield 377, .null, 12, 70)] [] (by decide +kernel) rfl trivial ?_
    refine xk_VV (As := [.int x2, .int (gI v1 80 70)]) (bb := 80) (rest := []) (idx := 414) (i0 := 414) (m1 := 204) (ps := [1807, 1809, 82]) (by decide +kernel) (by decide +kernel) (by decide) rfl ((gK_s (by decide)).trans (by decide +kernel)) (by decide) (Nat.le_of_ble_eq_true rfl) rfl h (fun v3 h => ?_)
    refine xr_blk (lv1 := [(0, .ref 80), (1, .int x1), (2, .int x2), (3, .int x3)]) (st1 := [.int (gI v3 80 72)]) (S1 := rt v3) (pc1 := 29) [(.aload_n 0, .null, 0, 0), (.getfield 408, .null, 12, 72)] [] (by decide +kernel) rfl trivial ?_
    refine xr_if_ne (tgt := 36) (off := 7) (by decide +kernel) (by decide) (fun hc => ?_) (fun hc => ?_)
    · replace h := h.1 hc
      refine xr_blk (lv1 := [(0, .ref 80), (1, .int x1), (2, .int x2), (3, .int x3)]) (st1 := [.int x3]) (S1 := rt v3) (pc1 := 37) [(.iload_n 3, .null, 0, 0)] [] (by decide +kernel) rfl trivial ?_
      refine xr_if_eq (tgt := 48) (off := 11) (by decide +kernel) (by decide) (fun hc => ?_) (fun hc => ?_)
      · replace h := h.1 hc
        refine xr_blk (lv1 := [(0, .ref 80), (1, .int x1), (2, .int x2), (3, .int x3)]) (st1 := [.int x1, .ref 80]) (S1 := rt v3) (pc1 := 50) [(.aload_n 0, .null, 0, 0), (.iload_n 1, .null, 0, 0)] [] (by decide +kernel) rfl trivial ?_
        refine xk_VI (As := [.int x1]) (bb := 80) (rest := []) (idx := 380) (i0 := 380) (m1 := 200) (ps := [1834, 1836, 88]) (by decide +kernel) (by decide +kernel) (by decide) rfl ((gK_s (by decide)).trans (by decide +kernel)) (by decide) (Nat.le_of_ble_eq_true rfl) rfl h (fun y5 v4 h => ?_)
        exact xr_iret (by decide +kernel) rfl ⟨_, _, rfl, rfl, h⟩
      · replace h := h.2 hc
        refine xr_blk (lv1 := [(0, .ref 80), (1, .int x1), (2, .int x2), (3, .int x3)]) (st1 := [.int x1, .ref 80]) (S1 := rt v3) (pc1 := 42) [(.aload_n 0, .null, 0, 0), (.iload_n 1, .null, 0, 0)] [] (by decide +kernel) rfl trivial ?_
        refine xk_VI (As := [.int x1]) (bb := 80) (rest := []) (idx := 383) (i0 := 383) (m1 := 201) (ps := [1838, 1840, 89]) (by decide +kernel) (by decide +kernel) (by decide) rfl ((gK_s (by decide)).trans (by decide +kernel)) (by decide) (Nat.le_of_ble_eq_true rfl) rfl h (fun y7 v6 h => ?_)
        refine xr_goto (tgt := 53) (off := 8) (by decide +kernel) (by decide) ?_
        exact xr_iret (by decide +kernel) rfl ⟨_, _, rfl, rfl, h⟩
    · replace h := h.2 hc
      refine xr_blk (lv1 := [(0, .ref 80), (1, .int x1), (2, .int x2), (3, .int x3)]) (st1 := [.int (-1)]) (S1 := rt v3) (pc1 := 33) [(.iconst (-1), .int (-1), 0, 0)] [] (by decide +kernel) rfl trivial ?_
      refine xr_goto (tgt := 53) (off := 20) (by decide +kernel) (by decide) ?_
      exact xr_iret (by decide +kernel) rfl ⟨_, _, rfl, rfl, h⟩
  · replace h := h.2 hc
    refine xr_blk (lv1 := [(0, .ref 80), (1, .int x1), (2, .int x2), (3, .int x3)]) (st1 := [.int (-1)]) (S1 := rt v1) (pc1 := 15) [(.iconst (-1), .int (-1), 0, 0)] [] (by decide +kernel) rfl trivial ?_
    exact xr_iret (by decide +kernel) rfl ⟨_, _, rfl, rfl, h⟩
theorem ok_208 : x_mOK 208 := ⟨x_tm8 (List.mem_of_getElem? (i := 26) rfl) rfl, 114, by decide +kernel⟩
/-! X12_laid: method 209, ScrawlHouseModel.laid(IIIZ)I -/
set_option maxRecDepth 100000 in
theorem w_X12_laid_0 {E : Nat × (Nat → Int32)} {d : Nat} {v : xV} {x1 : Int32} {x2 : Int32} {x3 : Int32} {x4 : Int32} {Q : Int32 → xV → Prop} (h : KI E d 152 [.int x1, .int (nI 0), .int ((gI v 80 22) - (nI 1))] (v_I v 80 0 (nI 0)) (fun y2 v1 => ((y2 = (nI 0) → Q (-1 : Int32) v1) ∧ (¬ y2 = (nI 0) → vp_in x1 8 ∧ KI E d 152 [.int x2, .int (nI 0), .int (((gA v1 92) (x1).toNatClampNeg) - (nI 1))] v1 (fun y5 v4 => ((¬ y5 = (nI 0) → KV E d 204 [.ref 80, .int x3, .int (gI v4 80 70)] v4 (fun v6 => KI E d 198 [.int x1, .int x2] v6 (fun y8 v7 => ((¬ (gI v7 80 72) = (nI 0) → ((x4 = (nI 0) → KI E d 200 [.ref 80, .int y8] v7 (fun y10 v9 => Q y10 v9)) ∧ (¬ x4 = (nI 0) → KI E d 201 [.ref 80, .int y8] v7 (fun y12 v11 => Q y12 v11)))) ∧ ((gI v7 80 72) = (nI 0) → Q (-1 : Int32) v7))))) ∧ (y5 = (nI 0) → Q (-1 : Int32) v4))))))) : RI E (d + 1) 209 0 [(0, .ref 80), (1, .int x1), (2, .int x2), (3, .int x3), (4, .int x4)] v Q := by
  unfold RI
  refine xr_blk (lv1 := [(0, .ref 80), (1, .int x1), (2, .int x2), (3, .int x3), (4, .int x4)]) (st1 := [.int ((gI v 80 22) - (nI 1)), .int (nI 0), .int x1]) (S1 := rt (v_I v 80 0 (nI 0))) (pc1 := 13) [(.aload_n 0, .null, 0, 0), (.iconst 0, .int (nI 0), 0, 0), (.putfield 190, .null, 12, 0), (.iload_n 1, .null, 0, 0), (.iconst 0, .int (nI 0), 0, 0), (.aload_n 0, .null, 0, 0), (.getfield 228, .null, 12, 22), (.iconst 1, .int (nI 1), 0, 0), (.isub, .null, 0, 0)] [] (by decide +kernel) rfl trivial ?_
  refine xk_SI (As := [.int x1, .int (nI 0), .int ((gI v 80 22) - (nI 1))]) (rest := []) (idx := 200) (i0 := 200) (m1 := 152) (ps := [1616, 1617]) (by decide +kernel) (by decide +kernel) (by decide) rfl (Nat.le_of_ble_eq_true rfl) rfl h (fun y2 v1 h => ?_)
  refine xr_if_eq (tgt := 35) (off := 19) (by decide +kernel) (by decide) (fun hc => ?_) (fun hc => ?_)
  · replace h := h.1 hc
    refine xr_blk (lv1 := [(0, .ref 80), (1, .int x1), (2, .int x2), (3, .int x3), (4, .int x4)]) (st1 := [.int (-1)]) (S1 := rt v1) (pc1 := 36) [(.iconst (-1), .int (-1), 0, 0)] [] (by decide +kernel) rfl trivial ?_
    exact xr_iret (by decide +kernel) rfl ⟨_, _, rfl, rfl, h⟩
  · replace h := h.2 hc
    obtain ⟨hb3, h⟩ := h
    refine xr_blk (lv1 := [(0, .ref 80), (1, .int x1), (2, .int x2), (3, .int x3), (4, .int x4)]) (st1 := [.int (((gA v1 92) (x1).toNatClampNeg) - (nI 1)), .int (nI 0), .int x2]) (S1 := rt v1) (pc1 := 29) [(.iload_n 2, .null, 0, 0), (.iconst 0, .int (nI 0), 0, 0), (.aload_n 0, .null, 0, 0), (.getfield 47, .null, 12, 16), (.iload_n 1, .null, 0, 0), (.iaload, .null, 0, 0), (.iconst 1, .int (nI 1), 0, 0), (.isub, .null, 0, 0)] [(x1, 8)] (by decide +kernel) rfl ⟨hb3, trivial⟩ ?_
    refine xk_SI (As := [.int x2, .int (nI 0), .int (((gA v1 92) (x1).toNatClampNeg) - (nI 1))]) (rest := []) (idx := 200) (i0 := 200) (m1 := 152) (ps := [1616, 1617]) (by decide +kernel) (by decide +kernel) (by decide) rfl (Nat.le_of_ble_eq_true rfl) rfl h (fun y5 v4 h => ?_)
    refine xr_if_ne (tgt := 37) (off := 5) (by decide +kernel) (by decide) (fun hc => ?_) (fun hc => ?_)
    · replace h := h.1 hc
      refine xr_blk (lv1 := [(0, .ref 80), (1, .int x1), (2, .int x2), (3, .int x3), (4, .int x4)]) (st1 := [.int (gI v4 80 70), .int x3, .ref 80]) (S1 := rt v4) (pc1 := 43) [(.aload_n 0, .null, 0, 0), (.iload_n 3, .null, 0, 0), (.aload_n 0, .null, 0, 0), (.getfield 377, .null, 12, 70)] [] (by decide +kernel) rfl trivial ?_
      refine xk_VV (As := [.int x3, .int (gI v4 80 70)]) (bb := 80) (rest := []) (idx := 414) (i0 := 414) (m1 := 204) (ps := [1807, 1809, 82]) (by decide +kernel) (by decide +kernel) (by decide) rfl ((gK_s (by decide)).trans (by decide +kernel)) (by decide) (Nat.le_of_ble_eq_true rfl) rfl h (fun v6 h => ?_)
      refine xr_blk (lv1 := [(0, .ref 80), (1, .int x1), (2, .int x2), (3, .int x3), (4, .int x4)]) (st1 := [.int x2, .int x1]) (S1 := rt v6) (pc1 := 48) [(.iload_n 1, .null, 0, 0), (.iload_n 2, .null, 0, 0)] [] (by decide +kernel) rfl trivial ?_
      refine xk_SI (As := [.int x1, .int x2]) (rest := []) (idx := 393) (i0 := 393) (m1 := 198) (ps := [1815, 1816]) (by decide +kernel) (by decide +kernel) (by decide) rfl (Nat.le_of_ble_eq_true rfl) rfl h (fun y8 v7 h => ?_)
      refine xr_blk (lv1 := [(5, .int y8), (0, .ref 80), (1, .int x1), (2, .int x2), (3, .int x3), (4, .int x4)]) (st1 := [.int (gI v7 80 72)]) (S1 := rt v7) (pc1 := 57) [(.istore 5, .null, 0, 0), (.aload_n 0, .null, 0, 0), (.getfield 408, .null, 12, 72)] [] (by decide +kernel) rfl trivial ?_
      refine xr_if_ne (tgt := 64) (off := 7) (by decide +kernel) (by decide) (fun hc => ?_) (fun hc => ?_)
      · replace h := h.1 hc
        refine xr_blk (lv1 := [(5, .int y8), (0, .ref 80), (1, .int x1), (2, .int x2), (3, .int x3), (4, .int x4)]) (st1 := [.int x4]) (S1 := rt v7) (pc1 := 66) [(.iload 4, .null, 0, 0)] [] (by decide +kernel) rfl trivial ?_
        refine xr_if_eq (tgt := 78) (off := 12) (by decide +kernel) (by decide) (fun hc => ?_) (fun hc => ?_)
        · replace h := h.1 hc
          refine xr_blk (lv1 := [(5, .int y8), (0, .ref 80), (1, .int x1), (2, .int x2), (3, .int x3), (4, .int x4)]) (st1 := [.int y8, .ref 80]) (S1 := rt v7) (pc1 := 81) [(.aload_n 0, .null, 0, 0), (.iload 5, .null, 0, 0)] [] (by decide +kernel) rfl trivial ?_
          refine xk_VI (As := [.int y8]) (bb := 80) (rest := []) (idx := 380) (i0 := 380) (m1 := 200) (ps := [1834, 1836, 88]) (by decide +kernel) (by decide +kernel) (by decide) rfl ((gK_s (by decide)).trans (by decide +kernel)) (by decide) (Nat.le_of_ble_eq_true rfl) rfl h (fun y10 v9 h => ?_)
          exact xr_iret (by decide +kernel) rfl ⟨_, _, rfl, rfl, h⟩
        · replace h := h.2 hc
          refine xr_blk (lv1 := [(5, .int y8), (0, .ref 80), (1, .int x1), (2, .int x2), (3, .int x3), (4, .int x4)]) (st1 := [.int y8, .ref 80]) (S1 := rt v7) (pc1 := 72) [(.aload_n 0, .null, 0, 0), (.iload 5, .null, 0, 0)] [] (by decide +kernel) rfl trivial ?_
          refine xk_VI (As := [.int y8]) (bb := 80) (rest := []) (idx := 383) (i0 := 383) (m1 := 201) (ps := [1838, 1840, 89]) (by decide +kernel) (by decide +kernel) (by decide) rfl ((gK_s (by decide)).trans (by decide +kernel)) (by decide) (Nat.le_of_ble_eq_true rfl) rfl h (fun y12 v11 h => ?_)
          refine xr_goto (tgt := 84) (off := 9) (by decide +kernel) (by decide) ?_
          exact xr_iret (by decide +kernel) rfl ⟨_, _, rfl, rfl, h⟩
      · replace h := h.2 hc
        refine xr_blk (lv1 := [(5, .int y8), (0, .ref 80), (1, .int x1), (2, .int x2), (3, .int x3), (4, .int x4)]) (st1 := [.int (-1)]) (S1 := rt v7) (pc1 := 61) [(.iconst (-1), .int (-1), 0, 0)] [] (by decide +kernel) rfl trivial ?_
        refine xr_goto (tgt := 84) (off := 23) (by decide +kernel) (by decide) ?_
        exact xr_iret (by decide +kernel) rfl ⟨_, _, rfl, rfl, h⟩
    · replace h := h.2 hc
      refine xr_blk (lv1 := [(0, .ref 80), (1, .int x1), (2, .int x2), (3, .int x3), (4, .int x4)]) (st1 := [.int (-1)]) (S1 := rt v4) (pc1 := 36) [(.iconst (-1), .int (-1), 0, 0)] [] (by decide +kernel) rfl trivial ?_
      exact xr_iret (by decide +kernel) rfl ⟨_, _, rfl, rfl, h⟩
theorem ok_209 : x_mOK 209 := ⟨x_tm8 (List.mem_of_getElem? (i := 69) rfl) rfl, 114, by decide +kernel⟩
/-! X12_spoilt: method 210, ScrawlHouseModel.spoilt(I)I -/
set_option maxRecDepth 100000 in
theorem w_X12_spoilt_0 {E : Nat × (Nat → Int32)} {d : Nat} {v : xV} {x1 : Int32} {Q : Int32 → xV → Prop} (h : KV E d 204 [.ref 80, .int x1, .int (gI v 80 70)] (v_I v 80 0 (nI 0)) (fun v1 => (((gI v1 80 72) = (nI 0) → RI E (d + 1) 210 25 [(0, .ref 80), (1, .int x1), (2, .int (nI 0))] v1 Q) ∧ (¬ (gI v1 80 72) = (nI 0) → Q (-1 : Int32) v1)))) : RI E (d + 1) 210 0 [(0, .ref 80), (1, .int x1)] v Q := by
  unfold RI
  refine xr_blk (lv1 := [(0, .ref 80), (1, .int x1)]) (st1 := [.int (gI v 80 70), .int x1, .ref 80]) (S1 := rt (v_I v 80 0 (nI 0))) (pc1 := 11) [(.aload_n 0, .null, 0, 0), (.iconst 0, .int (nI 0), 0, 0), (.putfield 190, .null, 12, 0), (.aload_n 0, .null, 0, 0), (.iload_n 1, .null, 0, 0), (.aload_n 0, .null, 0, 0), (.getfield 377, .null, 12, 70)] [] (by decide +kernel) rfl trivial ?_
  refine xk_VV (As := [.int x1, .int (gI v 80 70)]) (bb := 80) (rest := []) (idx := 414) (i0 := 414) (m1 := 204) (ps := [1807, 1809, 82]) (by decide +kernel) (by decide +kernel) (by decide) rfl ((gK_s (by decide)).trans (by decide +kernel)) (by decide) (Nat.le_of_ble_eq_true rfl) rfl h (fun v1 h => ?_)
  refine xr_blk (lv1 := [(0, .ref 80), (1, .int x1)]) (st1 := [.int (gI v1 80 72)]) (S1 := rt v1) (pc1 := 18) [(.aload_n 0, .null, 0, 0), (.getfield 408, .null, 12, 72)] [] (by decide +kernel) rfl trivial ?_
  refine xr_if_eq (tgt := 23) (off := 5) (by decide +kernel) (by decide) (fun hc => ?_) (fun hc => ?_)
  · replace h := h.1 hc
    refine xr_blk (lv1 := [(2, .int (nI 0)), (0, .ref 80), (1, .int x1)]) (st1 := []) (S1 := rt v1) (pc1 := 25) [(.iconst 0, .int (nI 0), 0, 0), (.istore_n 2, .null, 0, 0)] [] (by decide +kernel) rfl trivial ?_
    exact x_R.sub [1, 2, 0] rfl h
  · replace h := h.2 hc
    refine xr_blk (lv1 := [(0, .ref 80), (1, .int x1)]) (st1 := [.int (-1)]) (S1 := rt v1) (pc1 := 22) [(.iconst (-1), .int (-1), 0, 0)] [] (by decide +kernel) rfl trivial ?_
    exact xr_iret (by decide +kernel) rfl ⟨_, _, rfl, rfl, h⟩
set_option maxRecDepth 100000 in
theorem w_X12_spoilt_25 {E : Nat × (Nat → Int32)} {d : Nat} {v : xV} {x1 : Int32} {x2 : Int32} {Q : Int32 → xV → Prop} (h : vp_in x2 80 ∧ ((x1 < ((gA v 126) (x2).toNatClampNeg) → RI E (d + 1) 210 25 [(0, .ref 80), (1, .int x1), (2, .int (x2 + (nI 1)))] v Q) ∧ (¬ x1 < ((gA v 126) (x2).toNatClampNeg) → KV E d 204 [.ref 80, .int x1, .int x2] v (fun v2 => ((¬ (gI v2 80 72) = (nI 0) → RI E (d + 1) 210 25 [(0, .ref 80), (1, .int x1), (2, .int (x2 + (nI 1)))] v2 Q) ∧ ((gI v2 80 72) = (nI 0) → Q x2 v2)))))) : RI E (d + 1) 210 25 [(0, .ref 80), (1, .int x1), (2, .int x2)] v Q := by
  unfold RI
  obtain ⟨hb1, h⟩ := h
  refine xr_blk (lv1 := [(0, .ref 80), (1, .int x1), (2, .int x2)]) (st1 := [.int x1, .int ((gA v 126) (x2).toNatClampNeg)]) (S1 := rt v) (pc1 := 32) [(.aload_n 0, .null, 0, 0), (.getfield 151, .null, 12, 69), (.iload_n 2, .null, 0, 0), (.iaload, .null, 0, 0), (.iload_n 1, .null, 0, 0)] [(x2, 80)] (by decide +kernel) rfl ⟨hb1, trivial⟩ ?_
  refine xr_ic_gt (tgt := 50) (off := 18) (by decide +kernel) (by decide) (fun hc => ?_) (fun hc => ?_)
  · replace h := h.1 hc
    refine xr_blk (lv1 := [(2, .int (x2 + (nI 1))), (0, .ref 80), (1, .int x1)]) (st1 := []) (S1 := rt v) (pc1 := 53) [(.iinc 2 1, .int (nI 1), 0, 0)] [] (by decide +kernel) rfl trivial ?_
    refine xr_goto (tgt := 25) (off := -28) (by decide +kernel) (by decide) ?_
    exact x_R.sub [1, 2, 0] rfl h
  · replace h := h.2 hc
    refine xr_blk (lv1 := [(0, .ref 80), (1, .int x1), (2, .int x2)]) (st1 := [.int x2, .int x1, .ref 80]) (S1 := rt v) (pc1 := 38) [(.aload_n 0, .null, 0, 0), (.iload_n 1, .null, 0, 0), (.iload_n 2, .null, 0, 0)] [] (by decide +kernel) rfl trivial ?_
    refine xk_VV (As := [.int x1, .int x2]) (bb := 80) (rest := []) (idx := 414) (i0 := 414) (m1 := 204) (ps := [1807, 1809, 82]) (by decide +kernel) (by decide +kernel) (by decide) rfl ((gK_s (by decide)).trans (by decide +kernel)) (by decide) (Nat.le_of_ble_eq_true rfl) rfl h (fun v2 h => ?_)
    refine xr_blk (lv1 := [(0, .ref 80), (1, .int x1), (2, .int x2)]) (st1 := [.int (gI v2 80 72)]) (S1 := rt v2) (pc1 := 45) [(.aload_n 0, .null, 0, 0), (.getfield 408, .null, 12, 72)] [] (by decide +kernel) rfl trivial ?_
    refine xr_if_ne (tgt := 50) (off := 5) (by decide +kernel) (by decide) (fun hc => ?_) (fun hc => ?_)
    · replace h := h.1 hc
      refine xr_blk (lv1 := [(2, .int (x2 + (nI 1))), (0, .ref 80), (1, .int x1)]) (st1 := []) (S1 := rt v2) (pc1 := 53) [(.iinc 2 1, .int (nI 1), 0, 0)] [] (by decide +kernel) rfl trivial ?_
      refine xr_goto (tgt := 25) (off := -28) (by decide +kernel) (by decide) ?_
      exact x_R.sub [1, 2, 0] rfl h
    · replace h := h.2 hc
      refine xr_blk (lv1 := [(0, .ref 80), (1, .int x1), (2, .int x2)]) (st1 := [.int x2]) (S1 := rt v2) (pc1 := 49) [(.iload_n 2, .null, 0, 0)] [] (by decide +kernel) rfl trivial ?_
      exact xr_iret (by decide +kernel) rfl ⟨_, _, rfl, rfl, h⟩
theorem ok_210 : x_mOK 210 := ⟨x_tm8 (List.mem_of_getElem? (i := 73) rfl) rfl, 114, by decide +kernel⟩
/-! X12_takeSpans: method 211, ScrawlHouseModel.takeSpans(I)V -/
set_option maxRecDepth 100000 in
theorem w_X12_takeSpans_0 {E : Nat × (Nat → Int32)} {d : Nat} {v : xV} {x1 : Int32} {Q : xV → Prop} (h : KV E d 204 [.ref 80, .int x1, .int (gI v 80 70)] v (fun v1 => RV E (d + 1) 211 11 [(0, .ref 80), (1, .int x1), (2, .int (nI 0))] v1 Q)) : RV E (d + 1) 211 0 [(0, .ref 80), (1, .int x1)] v Q := by
  unfold RV
  refine xr_blk (lv1 := [(0, .ref 80), (1, .int x1)]) (st1 := [.int (gI v 80 70), .int x1, .ref 80]) (S1 := rt v) (pc1 := 6) [(.aload_n 0, .null, 0, 0), (.iload_n 1, .null, 0, 0), (.aload_n 0, .null, 0, 0), (.getfield 377, .null, 12, 70)] [] (by decide +kernel) rfl trivial ?_
  refine xk_VV (As := [.int x1, .int (gI v 80 70)]) (bb := 80) (rest := []) (idx := 414) (i0 := 414) (m1 := 204) (ps := [1807, 1809, 82]) (by decide +kernel) (by decide +kernel) (by decide) rfl ((gK_s (by decide)).trans (by decide +kernel)) (by decide) (Nat.le_of_ble_eq_true rfl) rfl h (fun v1 h => ?_)
  refine xr_blk (lv1 := [(2, .int (nI 0)), (0, .ref 80), (1, .int x1)]) (st1 := []) (S1 := rt v1) (pc1 := 11) [(.iconst 0, .int (nI 0), 0, 0), (.istore_n 2, .null, 0, 0)] [] (by decide +kernel) rfl trivial ?_
  exact x_R.sub [1, 2, 0] rfl h
set_option maxRecDepth 100000 in
theorem w_X12_takeSpans_11 {E : Nat × (Nat → Int32)} {d : Nat} {v : xV} {x1 : Int32} {x2 : Int32} {Q : xV → Prop} (h : (((gI v 80 50) ≤ x2 → Q v) ∧ (¬ (gI v 80 50) ≤ x2 → (((gI v 80 72) = (nI 0) → vp_in x2 20 ∧ (((gI v 80 72) = (nI 0) → vp_in x2 20 ∧ RV E (d + 1) 211 11 [(0, .ref 80), (1, .int x1), (2, .int (x2 + (nI 1)))] (v_A (v_A v 130 (upd (gA v 130) (x2).toNatClampNeg (nI 0))) 131 (upd (gA v 131) (x2).toNatClampNeg (nI 200))) Q) ∧ (¬ (gI v 80 72) = (nI 0) → vp_in x2 20 ∧ ((x1 < ((gA v 103) (x2).toNatClampNeg) → vp_in x2 20 ∧ RV E (d + 1) 211 11 [(0, .ref 80), (1, .int x1), (2, .int (x2 + (nI 1)))] (v_A (v_A v 130 (upd (gA v 130) (x2).toNatClampNeg (nI 0))) 131 (upd (gA v 131) (x2).toNatClampNeg (nI 200))) Q) ∧ (¬ x1 < ((gA v 103) (x2).toNatClampNeg) → KI E d 201 [.ref 80, .int x2] (v_A v 130 (upd (gA v 130) (x2).toNatClampNeg (nI 0))) (fun y6 v5 => vp_in x2 20 ∧ RV E (d + 1) 211 11 [(0, .ref 80), (1, .int x1), (2, .int (x2 + (nI 1)))] (v_A v5 131 (upd (gA v5 131) (x2).toNatClampNeg y6)) Q)))))) ∧ (¬ (gI v 80 72) = (nI 0) → vp_in x2 20 ∧ ((x1 < ((gA v 103) (x2).toNatClampNeg) → vp_in x2 20 ∧ (((gI v 80 72) = (nI 0) → vp_in x2 20 ∧ RV E (d + 1) 211 11 [(0, .ref 80), (1, .int x1), (2, .int (x2 + (nI 1)))] (v_A (v_A v 130 (upd (gA v 130) (x2).toNatClampNeg (nI 0))) 131 (upd (gA v 131) (x2).toNatClampNeg (nI 200))) Q) ∧ (¬ (gI v 80 72) = (nI 0) → vp_in x2 20 ∧ ((x1 < ((gA v 103) (x2).toNatClampNeg) → vp_in x2 20 ∧ RV E (d + 1) 211 11 [(0, .ref 80), (1, .int x1), (2, .int (x2 + (nI 1)))] (v_A (v_A v 130 (upd (gA v 130) (x2).toNatClampNeg (nI 0))) 131 (upd (gA v 131) (x2).toNatClampNeg (nI 200))) Q) ∧ (¬ x1 < ((gA v 103) (x2).toNatClampNeg) → KI E d 201 [.ref 80, .int x2] (v_A v 130 (upd (gA v 130) (x2).toNatClampNeg (nI 0))) (fun y14 v13 => vp_in x2 20 ∧ RV E (d + 1) 211 11 [(0, .ref 80), (1, .int x1), (2, .int (x2 + (nI 1)))] (v_A v13 131 (upd (gA v13 131) (x2).toNatClampNeg y14)) Q)))))) ∧ (¬ x1 < ((gA v 103) (x2).toNatClampNeg) → KI E d 200 [.ref 80, .int x2] v (fun y17 v16 => vp_in x2 20 ∧ (((gI v16 80 72) = (nI 0) → vp_in x2 20 ∧ RV E (d + 1) 211 11 [(0, .ref 80), (1, .int x1), (2, .int (x2 + (nI 1)))] (v_A (v_A v16 130 (upd (gA v16 130) (x2).toNatClampNeg y17)) 131 (upd (gA v16 131) (x2).toNatClampNeg (nI 200))) Q) ∧ (¬ (gI v16 80 72) = (nI 0) → vp_in x2 20 ∧ ((x1 < ((gA v16 103) (x2).toNatClampNeg) → vp_in x2 20 ∧ RV E (d + 1) 211 11 [(0, .ref 80), (1, .int x1), (2, .int (x2 + (nI 1)))] (v_A (v_A v16 130 (upd (gA v16 130) (x2).toNatClampNeg y17)) 131 (upd (gA v16 131) (x2).toNatClampNeg (nI 200))) Q) ∧ (¬ x1 < ((gA v16 103) (x2).toNatClampNeg) → KI E d 201 [.ref 80, .int x2] (v_A v16 130 (upd (gA v16 130) (x2).toNatClampNeg y17)) (fun y23 v22 => vp_in x2 20 ∧ RV E (d + 1) 211 11 [(0, .ref 80), (1, .int x1), (2, .int (x2 + (nI 1)))] (v_A v22 131 (upd (gA v22 131) (x2).toNatClampNeg y23)) Q))))))))))))) : RV E (d + 1) 211 11 [(0, .ref 80), (1, .int x1), (2, .int x2)] v Q := by
  unfold RV
  refine xr_blk (lv1 := [(0, .ref 80), (1, .int x1), (2, .int x2)]) (st1 := [.int (gI v 80 50), .int x2]) (S1 := rt v) (pc1 := 16) [(.iload_n 2, .null, 0, 0), (.aload_n 0, .null, 0, 0), (.getfield 297, .null, 12, 50)] [] (by decide +kernel) rfl trivial ?_
  refine xr_ic_ge (tgt := 91) (off := 75) (by decide +kernel) (by decide) (fun hc => ?_) (fun hc => ?_)
  · replace h := h.1 hc
    exact xr_ret0 (by decide +kernel) rfl ⟨_, rfl, rfl, h⟩
  · replace h := h.2 hc
    refine xr_blk (lv1 := [(0, .ref 80), (1, .int x1), (2, .int x2)]) (st1 := [.int (gI v 80 72), .int x2, .ref 130]) (S1 := rt v) (pc1 := 28) [(.aload_n 0, .null, 0, 0), (.getfield 163, .null, 12, 76), (.iload_n 2, .null, 0, 0), (.aload_n 0, .null, 0, 0), (.getfield 408, .null, 12, 72)] [] (by decide +kernel) rfl trivial ?_
    refine xr_if_eq (tgt := 49) (off := 21) (by decide +kernel) (by decide) (fun hc => ?_) (fun hc => ?_)
    · replace h := h.1 hc
      obtain ⟨hb1, h⟩ := h
      refine xr_blk (lv1 := [(0, .ref 80), (1, .int x1), (2, .int x2)]) (st1 := [.int (gI v 80 72), .int x2, .ref 131]) (S1 := rt (v_A v 130 (upd (gA v 130) (x2).toNatClampNeg (nI 0)))) (pc1 := 60) [(.iconst 0, .int (nI 0), 0, 0), (.iastore, .null, 0, 0), (.aload_n 0, .null, 0, 0), (.getfield 166, .null, 12, 77), (.iload_n 2, .null, 0, 0), (.aload_n 0, .null, 0, 0), (.getfield 408, .null, 12, 72)] [(x2, 20)] (by decide +kernel) rfl ⟨hb1, trivial⟩ ?_
      refine xr_if_eq (tgt := 81) (off := 21) (by decide +kernel) (by decide) (fun hc => ?_) (fun hc => ?_)
      · replace h := h.1 hc
        obtain ⟨hb2, h⟩ := h
        refine xr_blk (lv1 := [(2, .int (x2 + (nI 1))), (0, .ref 80), (1, .int x1)]) (st1 := []) (S1 := rt (v_A (v_A v 130 (upd (gA v 130) (x2).toNatClampNeg (nI 0))) 131 (upd (gA v 131) (x2).toNatClampNeg (nI 200)))) (pc1 := 88) [(.sipush 200, .int (nI 200), 0, 0), (.iastore, .null, 0, 0), (.iinc 2 1, .int (nI 1), 0, 0)] [(x2, 20)] (by decide +kernel) rfl ⟨hb2, trivial⟩ ?_
        refine xr_goto (tgt := 11) (off := -77) (by decide +kernel) (by decide) ?_
        exact x_R.sub [1, 2, 0] rfl h
      · replace h := h.2 hc
        obtain ⟨hb3, h⟩ := h
        refine xr_blk (lv1 := [(0, .ref 80), (1, .int x1), (2, .int x2)]) (st1 := [.int x1, .int ((gA v 103) (x2).toNatClampNeg), .int x2, .ref 131]) (S1 := rt (v_A v 130 (upd (gA v 130) (x2).toNatClampNeg (nI 0)))) (pc1 := 70) [(.aload_n 0, .null, 0, 0), (.getfield 81, .null, 12, 41), (.iload_n 2, .null, 0, 0), (.iaload, .null, 0, 0), (.iload_n 1, .null, 0, 0)] [(x2, 20)] (by decide +kernel) rfl ⟨hb3, trivial⟩ ?_
        refine xr_ic_gt (tgt := 81) (off := 11) (by decide +kernel) (by decide) (fun hc => ?_) (fun hc => ?_)
        · replace h := h.1 hc
          obtain ⟨hb4, h⟩ := h
          refine xr_blk (lv1 := [(2, .int (x2 + (nI 1))), (0, .ref 80), (1, .int x1)]) (st1 := []) (S1 := rt (v_A (v_A v 130 (upd (gA v 130) (x2).toNatClampNeg (nI 0))) 131 (upd (gA v 131) (x2).toNatClampNeg (nI 200)))) (pc1 := 88) [(.sipush 200, .int (nI 200), 0, 0), (.iastore, .null, 0, 0), (.iinc 2 1, .int (nI 1), 0, 0)] [(x2, 20)] (by decide +kernel) rfl ⟨hb4, trivial⟩ ?_
          refine xr_goto (tgt := 11) (off := -77) (by decide +kernel) (by decide) ?_
          exact x_R.sub [1, 2, 0] rfl h
        · replace h := h.2 hc
          refine xr_blk (lv1 := [(0, .ref 80), (1, .int x1), (2, .int x2)]) (st1 := [.int x2, .ref 80, .int x2, .ref 131]) (S1 := rt (v_A v 130 (upd (gA v 130) (x2).toNatClampNeg (nI 0)))) (pc1 := 75) [(.aload_n 0, .null, 0, 0), (.iload_n 2, .null, 0, 0)] [] (by decide +kernel) rfl trivial ?_
          refine xk_VI (As := [.int x2]) (bb := 80) (rest := [.int x2, .ref 131]) (idx := 383) (i0 := 383) (m1 := 201) (ps := [1838, 1840, 89]) (by decide +kernel) (by decide +kernel) (by decide) rfl ((gK_s (by decide)).trans (by decide +kernel)) (by decide) (Nat.le_of_ble_eq_true rfl) rfl h (fun y6 v5 h => ?_)
          refine xr_goto (tgt := 84) (off := 6) (by decide +kernel) (by decide) ?_
          obtain ⟨hb7, h⟩ := h
          refine xr_blk (lv1 := [(2, .int (x2 + (nI 1))), (0, .ref 80), (1, .int x1)]) (st1 := []) (S1 := rt (v_A v5 131 (upd (gA v5 131) (x2).toNatClampNeg y6))) (pc1 := 88) [(.iastore, .null, 0, 0), (.iinc 2 1, .int (nI 1), 0, 0)] [(x2, 20)] (by decide +kernel) rfl ⟨hb7, trivial⟩ ?_
          refine xr_goto (tgt := 11) (off := -77) (by decide +kernel) (by decide) ?_
          exact x_R.sub [1, 2, 0] rfl h
    · replace h := h.2 hc
      obtain ⟨hb8, h⟩ := h
      refine xr_blk (lv1 := [(0, .ref 80), (1, .int x1), (2, .int x2)]) (st1 := [.int x1, .int ((gA v 103) (x2).toNatClampNeg), .int x2, .ref 130]) (S1 := rt v) (pc1 := 38) [(.aload_n 0, .null, 0, 0), (.getfield 81, .null, 12, 41), (.iload_n 2, .null, 0, 0), (.iaload, .null, 0, 0), (.iload_n 1, .null, 0, 0)] [(x2, 20)] (by decide +kernel) rfl ⟨hb8, trivial⟩ ?_
      refine xr_ic_gt (tgt := 49) (off := 11) (by decide +kernel) (by decide) (fun hc => ?_) (fun hc => ?_)
      · replace h := h.1 hc
        obtain ⟨hb9, h⟩ := h
        refine xr_blk (lv1 := [(0, .ref 80), (1, .int x1), (2, .int x2)]) (st1 := [.int (gI v 80 72), .int x2, .ref 131]) (S1 := rt (v_A v 130 (upd (gA v 130) (x2).toNatClampNeg (nI 0)))) (pc1 := 60) [(.iconst 0, .int (nI 0), 0, 0), (.iastore, .null, 0, 0), (.aload_n 0, .null, 0, 0), (.getfield 166, .null, 12, 77), (.iload_n 2, .null, 0, 0), (.aload_n 0, .null, 0, 0), (.getfield 408, .null, 12, 72)] [(x2, 20)] (by decide +kernel) rfl ⟨hb9, trivial⟩ ?_
        refine xr_if_eq (tgt := 81) (off := 21) (by decide +kernel) (by decide) (fun hc => ?_) (fun hc => ?_)
        · replace h := h.1 hc
          obtain ⟨hb10, h⟩ := h
          refine xr_blk (lv1 := [(2, .int (x2 + (nI 1))), (0, .ref 80), (1, .int x1)]) (st1 := []) (S1 := rt (v_A (v_A v 130 (upd (gA v 130) (x2).toNatClampNeg (nI 0))) 131 (upd (gA v 131) (x2).toNatClampNeg (nI 200)))) (pc1 := 88) [(.sipush 200, .int (nI 200), 0, 0), (.iastore, .null, 0, 0), (.iinc 2 1, .int (nI 1), 0, 0)] [(x2, 20)] (by decide +kernel) rfl ⟨hb10, trivial⟩ ?_
          refine xr_goto (tgt := 11) (off := -77) (by decide +kernel) (by decide) ?_
          exact x_R.sub [1, 2, 0] rfl h
        · replace h := h.2 hc
          obtain ⟨hb11, h⟩ := h
          refine xr_blk (lv1 := [(0, .ref 80), (1, .int x1), (2, .int x2)]) (st1 := [.int x1, .int ((gA v 103) (x2).toNatClampNeg), .int x2, .ref 131]) (S1 := rt (v_A v 130 (upd (gA v 130) (x2).toNatClampNeg (nI 0)))) (pc1 := 70) [(.aload_n 0, .null, 0, 0), (.getfield 81, .null, 12, 41), (.iload_n 2, .null, 0, 0), (.iaload, .null, 0, 0), (.iload_n 1, .null, 0, 0)] [(x2, 20)] (by decide +kernel) rfl ⟨hb11, trivial⟩ ?_
          refine xr_ic_gt (tgt := 81) (off := 11) (by decide +kernel) (by decide) (fun hc => ?_) (fun hc => ?_)
          · replace h := h.1 hc
            obtain ⟨hb12, h⟩ := h
            refine xr_blk (lv1 := [(2, .int (x2 + (nI 1))), (0, .ref 80), (1, .int x1)]) (st1 := []) (S1 := rt (v_A (v_A v 130 (upd (gA v 130) (x2).toNatClampNeg (nI 0))) 131 (upd (gA v 131) (x2).toNatClampNeg (nI 200)))) (pc1 := 88) [(.sipush 200, .int (nI 200), 0, 0), (.iastore, .null, 0, 0), (.iinc 2 1, .int (nI 1), 0, 0)] [(x2, 20)] (by decide +kernel) rfl ⟨hb12, trivial⟩ ?_
            refine xr_goto (tgt := 11) (off := -77) (by decide +kernel) (by decide) ?_
            exact x_R.sub [1, 2, 0] rfl h
          · replace h := h.2 hc
            refine xr_blk (lv1 := [(0, .ref 80), (1, .int x1), (2, .int x2)]) (st1 := [.int x2, .ref 80, .int x2, .ref 131]) (S1 := rt (v_A v 130 (upd (gA v 130) (x2).toNatClampNeg (nI 0)))) (pc1 := 75) [(.aload_n 0, .null, 0, 0), (.iload_n 2, .null, 0, 0)] [] (by decide +kernel) rfl trivial ?_
            refine xk_VI (As := [.int x2]) (bb := 80) (rest := [.int x2, .ref 131]) (idx := 383) (i0 := 383) (m1 := 201) (ps := [1838, 1840, 89]) (by decide +kernel) (by decide +kernel) (by decide) rfl ((gK_s (by decide)).trans (by decide +kernel)) (by decide) (Nat.le_of_ble_eq_true rfl) rfl h (fun y14 v13 h => ?_)
            refine xr_goto (tgt := 84) (off := 6) (by decide +kernel) (by decide) ?_
            obtain ⟨hb15, h⟩ := h
            refine xr_blk (lv1 := [(2, .int (x2 + (nI 1))), (0, .ref 80), (1, .int x1)]) (st1 := []) (S1 := rt (v_A v13 131 (upd (gA v13 131) (x2).toNatClampNeg y14))) (pc1 := 88) [(.iastore, .null, 0, 0), (.iinc 2 1, .int (nI 1), 0, 0)] [(x2, 20)] (by decide +kernel) rfl ⟨hb15, trivial⟩ ?_
            refine xr_goto (tgt := 11) (off := -77) (by decide +kernel) (by decide) ?_
            exact x_R.sub [1, 2, 0] rfl h
      · replace h := h.2 hc
        refine xr_blk (lv1 := [(0, .ref 80), (1, .int x1), (2, .int x2)]) (st1 := [.int x2, .ref 80, .int x2, .ref 130]) (S1 := rt v) (pc1 := 43) [(.aload_n 0, .null, 0, 0), (.iload_n 2, .null, 0, 0)] [] (by decide +kernel) rfl trivial ?_
        refine xk_VI (As := [.int x2]) (bb := 80) (rest := [.int x2, .ref 130]) (idx := 380) (i0 := 380) (m1 := 200) (ps := [1834, 1836, 88]) (by decide +kernel) (by decide +kernel) (by decide) rfl ((gK_s (by decide)).trans (by decide +kernel)) (by decide) (Nat.le_of_ble_eq_true rfl) rfl h (fun y17 v16 h => ?_)
        refine xr_goto (tgt := 50) (off := 4) (by decide +kernel) (by decide) ?_
        obtain ⟨hb18, h⟩ := h
        refine xr_blk (lv1 := [(0, .ref 80), (1, .int x1), (2, .int x2)]) (st1 := [.int (gI v16 80 72), .int x2, .ref 131]) (S1 := rt (v_A v16 130 (upd (gA v16 130) (x2).toNatClampNeg y17))) (pc1 := 60) [(.iastore, .null, 0, 0), (.aload_n 0, .null, 0, 0), (.getfield 166, .null, 12, 77), (.iload_n 2, .null, 0, 0), (.aload_n 0, .null, 0, 0), (.getfield 408, .null, 12, 72)] [(x2, 20)] (by decide +kernel) rfl ⟨hb18, trivial⟩ ?_
        refine xr_if_eq (tgt := 81) (off := 21) (by decide +kernel) (by decide) (fun hc => ?_) (fun hc => ?_)
        · replace h := h.1 hc
          obtain ⟨hb19, h⟩ := h
          refine xr_blk (lv1 := [(2, .int (x2 + (nI 1))), (0, .ref 80), (1, .int x1)]) (st1 := []) (S1 := rt (v_A (v_A v16 130 (upd (gA v16 130) (x2).toNatClampNeg y17)) 131 (upd (gA v16 131) (x2).toNatClampNeg (nI 200)))) (pc1 := 88) [(.sipush 200, .int (nI 200), 0, 0), (.iastore, .null, 0, 0), (.iinc 2 1, .int (nI 1), 0, 0)] [(x2, 20)] (by decide +kernel) rfl ⟨hb19, trivial⟩ ?_
          refine xr_goto (tgt := 11) (off := -77) (by decide +kernel) (by decide) ?_
          exact x_R.sub [1, 2, 0] rfl h
        · replace h := h.2 hc
          obtain ⟨hb20, h⟩ := h
          refine xr_blk (lv1 := [(0, .ref 80), (1, .int x1), (2, .int x2)]) (st1 := [.int x1, .int ((gA v16 103) (x2).toNatClampNeg), .int x2, .ref 131]) (S1 := rt (v_A v16 130 (upd (gA v16 130) (x2).toNatClampNeg y17))) (pc1 := 70) [(.aload_n 0, .null, 0, 0), (.getfield 81, .null, 12, 41), (.iload_n 2, .null, 0, 0), (.iaload, .null, 0, 0), (.iload_n 1, .null, 0, 0)] [(x2, 20)] (by decide +kernel) rfl ⟨hb20, trivial⟩ ?_
          refine xr_ic_gt (tgt := 81) (off := 11) (by decide +kernel) (by decide) (fun hc => ?_) (fun hc => ?_)
          · replace h := h.1 hc
            obtain ⟨hb21, h⟩ := h
            refine xr_blk (lv1 := [(2, .int (x2 + (nI 1))), (0, .ref 80), (1, .int x1)]) (st1 := []) (S1 := rt (v_A (v_A v16 130 (upd (gA v16 130) (x2).toNatClampNeg y17)) 131 (upd (gA v16 131) (x2).toNatClampNeg (nI 200)))) (pc1 := 88) [(.sipush 200, .int (nI 200), 0, 0), (.iastore, .null, 0, 0), (.iinc 2 1, .int (nI 1), 0, 0)] [(x2, 20)] (by decide +kernel) rfl ⟨hb21, trivial⟩ ?_
            refine xr_goto (tgt := 11) (off := -77) (by decide +kernel) (by decide) ?_
            exact x_R.sub [1, 2, 0] rfl h
          · replace h := h.2 hc
            refine xr_blk (lv1 := [(0, .ref 80), (1, .int x1), (2, .int x2)]) (st1 := [.int x2, .ref 80, .int x2, .ref 131]) (S1 := rt (v_A v16 130 (upd (gA v16 130) (x2).toNatClampNeg y17))) (pc1 := 75) [(.aload_n 0, .null, 0, 0), (.iload_n 2, .null, 0, 0)] [] (by decide +kernel) rfl trivial ?_
            refine xk_VI (As := [.int x2]) (bb := 80) (rest := [.int x2, .ref 131]) (idx := 383) (i0 := 383) (m1 := 201) (ps := [1838, 1840, 89]) (by decide +kernel) (by decide +kernel) (by decide) rfl ((gK_s (by decide)).trans (by decide +kernel)) (by decide) (Nat.le_of_ble_eq_true rfl) rfl h (fun y23 v22 h => ?_)
            refine xr_goto (tgt := 84) (off := 6) (by decide +kernel) (by decide) ?_
            obtain ⟨hb24, h⟩ := h
            refine xr_blk (lv1 := [(2, .int (x2 + (nI 1))), (0, .ref 80), (1, .int x1)]) (st1 := []) (S1 := rt (v_A v22 131 (upd (gA v22 131) (x2).toNatClampNeg y23))) (pc1 := 88) [(.iastore, .null, 0, 0), (.iinc 2 1, .int (nI 1), 0, 0)] [(x2, 20)] (by decide +kernel) rfl ⟨hb24, trivial⟩ ?_
            refine xr_goto (tgt := 11) (off := -77) (by decide +kernel) (by decide) ?_
            exact x_R.sub [1, 2, 0] rfl h
theorem ok_211 : x_mOK 211 := ⟨x_tm8 (List.mem_of_getElem? (i := 81) rfl) rfl, 114, by decide +kernel⟩
/-! X12_areApart: method 212, ScrawlHouseModel.areApart(II)Z -/
set_option maxRecDepth 100000 in
theorem w_X12_areApart_0 {E : Nat × (Nat → Int32)} {d : Nat} {v : xV} {x1 : Int32} {x2 : Int32} {Q : Int32 → xV → Prop} (h : vp_in x1 20 ∧ vp_in x2 20 ∧ (((nI 60) < (((gA v 130) (x1).toNatClampNeg) - ((gA v 131) (x2).toNatClampNeg)) → Q (nI 1) v) ∧ (¬ (nI 60) < (((gA v 130) (x1).toNatClampNeg) - ((gA v 131) (x2).toNatClampNeg)) → vp_in x2 20 ∧ vp_in x1 20 ∧ (((((gA v 130) (x2).toNatClampNeg) - ((gA v 131) (x1).toNatClampNeg)) ≤ (nI 60) → Q (nI 0) v) ∧ (¬ (((gA v 130) (x2).toNatClampNeg) - ((gA v 131) (x1).toNatClampNeg)) ≤ (nI 60) → Q (nI 1) v))))) : RI E d 212 0 [(0, .ref 80), (1, .int x1), (2, .int x2)] v Q := by
  unfold RI
  obtain ⟨hb1, h⟩ := h
  obtain ⟨hb2, h⟩ := h
  refine xr_blk (lv1 := [(0, .ref 80), (1, .int x1), (2, .int x2)]) (st1 := [.int (nI 60), .int (((gA v 130) (x1).toNatClampNeg) - ((gA v 131) (x2).toNatClampNeg))]) (S1 := rt v) (pc1 := 15) [(.aload_n 0, .null, 0, 0), (.getfield 163, .null, 12, 76), (.iload_n 1, .null, 0, 0), (.iaload, .null, 0, 0), (.aload_n 0, .null, 0, 0), (.getfield 166, .null, 12, 77), (.iload_n 2, .null, 0, 0), (.iaload, .null, 0, 0), (.isub, .null, 0, 0), (.bipush 60, .int (nI 60), 0, 0)] [(x1, 20), (x2, 20)] (by decide +kernel) rfl ⟨hb1, hb2, trivial⟩ ?_
  refine xr_ic_gt (tgt := 36) (off := 21) (by decide +kernel) (by decide) (fun hc => ?_) (fun hc => ?_)
  · replace h := h.1 hc
    refine xr_blk (lv1 := [(0, .ref 80), (1, .int x1), (2, .int x2)]) (st1 := [.int (nI 1)]) (S1 := rt v) (pc1 := 37) [(.iconst 1, .int (nI 1), 0, 0)] [] (by decide +kernel) rfl trivial ?_
    refine xr_goto (tgt := 41) (off := 4) (by decide +kernel) (by decide) ?_
    exact xr_zret (by decide +kernel) rfl x_in2_1 ⟨_, _, rfl, rfl, h⟩
  · replace h := h.2 hc
    obtain ⟨hb3, h⟩ := h
    obtain ⟨hb4, h⟩ := h
    refine xr_blk (lv1 := [(0, .ref 80), (1, .int x1), (2, .int x2)]) (st1 := [.int (nI 60), .int (((gA v 130) (x2).toNatClampNeg) - ((gA v 131) (x1).toNatClampNeg))]) (S1 := rt v) (pc1 := 33) [(.aload_n 0, .null, 0, 0), (.getfield 163, .null, 12, 76), (.iload_n 2, .null, 0, 0), (.iaload, .null, 0, 0), (.aload_n 0, .null, 0, 0), (.getfield 166, .null, 12, 77), (.iload_n 1, .null, 0, 0), (.iaload, .null, 0, 0), (.isub, .null, 0, 0), (.bipush 60, .int (nI 60), 0, 0)] [(x2, 20), (x1, 20)] (by decide +kernel) rfl ⟨hb3, hb4, trivial⟩ ?_
    refine xr_ic_le (tgt := 40) (off := 7) (by decide +kernel) (by decide) (fun hc => ?_) (fun hc => ?_)
    · replace h := h.1 hc
      refine xr_blk (lv1 := [(0, .ref 80), (1, .int x1), (2, .int x2)]) (st1 := [.int (nI 0)]) (S1 := rt v) (pc1 := 41) [(.iconst 0, .int (nI 0), 0, 0)] [] (by decide +kernel) rfl trivial ?_
      exact xr_zret (by decide +kernel) rfl x_in2_0 ⟨_, _, rfl, rfl, h⟩
    · replace h := h.2 hc
      refine xr_blk (lv1 := [(0, .ref 80), (1, .int x1), (2, .int x2)]) (st1 := [.int (nI 1)]) (S1 := rt v) (pc1 := 37) [(.iconst 1, .int (nI 1), 0, 0)] [] (by decide +kernel) rfl trivial ?_
      refine xr_goto (tgt := 41) (off := 4) (by decide +kernel) (by decide) ?_
      exact xr_zret (by decide +kernel) rfl x_in2_1 ⟨_, _, rfl, rfl, h⟩
theorem ok_212 : x_mOK 212 := ⟨x_tm8 (List.mem_of_getElem? (i := 93) rfl) rfl, 114, by decide +kernel⟩
/-! X12_hasUsed: method 213, ScrawlHouseModel.hasUsed(II)Z -/
set_option maxRecDepth 100000 in
theorem w_X12_hasUsed_0 {E : Nat × (Nat → Int32)} {d : Nat} {v : xV} {x1 : Int32} {x2 : Int32} {Q : Int32 → xV → Prop} (h : RI E (d + 1) 213 2 [(0, .ref 80), (1, .int x1), (2, .int x2), (3, .int (nI 0))] v Q) : RI E (d + 1) 213 0 [(0, .ref 80), (1, .int x1), (2, .int x2)] v Q := by
  unfold RI
  refine xr_blk (lv1 := [(3, .int (nI 0)), (0, .ref 80), (1, .int x1), (2, .int x2)]) (st1 := []) (S1 := rt v) (pc1 := 2) [(.iconst 0, .int (nI 0), 0, 0), (.istore_n 3, .null, 0, 0)] [] (by decide +kernel) rfl trivial ?_
  exact x_R.sub [1, 2, 3, 0] rfl h
set_option maxRecDepth 100000 in
theorem w_X12_hasUsed_2 {E : Nat × (Nat → Int32)} {d : Nat} {v : xV} {x1 : Int32} {x2 : Int32} {x3 : Int32} {Q : Int32 → xV → Prop} (h : (((nI 26) ≤ x3 → Q (nI 0) v) ∧ (¬ (nI 26) ≤ x3 → KI E d 191 [.ref 80, .int x1, .int x3, .int x2] v (fun y2 v1 => ((y2 = (-1 : Int32) → RI E (d + 1) 213 2 [(0, .ref 80), (1, .int x1), (2, .int x2), (3, .int (x3 + (nI 1)))] v1 Q) ∧ (¬ y2 = (-1 : Int32) → Q (nI 1) v1)))))) : RI E (d + 1) 213 2 [(0, .ref 80), (1, .int x1), (2, .int x2), (3, .int x3)] v Q := by
  unfold RI
  refine xr_blk (lv1 := [(0, .ref 80), (1, .int x1), (2, .int x2), (3, .int x3)]) (st1 := [.int (nI 26), .int x3]) (S1 := rt v) (pc1 := 5) [(.iload_n 3, .null, 0, 0), (.bipush 26, .int (nI 26), 0, 0)] [] (by decide +kernel) rfl trivial ?_
  refine xr_ic_ge (tgt := 27) (off := 22) (by decide +kernel) (by decide) (fun hc => ?_) (fun hc => ?_)
  · replace h := h.1 hc
    refine xr_blk (lv1 := [(0, .ref 80), (1, .int x1), (2, .int x2), (3, .int x3)]) (st1 := [.int (nI 0)]) (S1 := rt v) (pc1 := 28) [(.iconst 0, .int (nI 0), 0, 0)] [] (by decide +kernel) rfl trivial ?_
    exact xr_zret (by decide +kernel) rfl x_in2_0 ⟨_, _, rfl, rfl, h⟩
  · replace h := h.2 hc
    refine xr_blk (lv1 := [(0, .ref 80), (1, .int x1), (2, .int x2), (3, .int x3)]) (st1 := [.int x2, .int x3, .int x1, .ref 80]) (S1 := rt v) (pc1 := 12) [(.aload_n 0, .null, 0, 0), (.iload_n 1, .null, 0, 0), (.iload_n 3, .null, 0, 0), (.iload_n 2, .null, 0, 0)] [] (by decide +kernel) rfl trivial ?_
    refine xk_VI (As := [.int x1, .int x3, .int x2]) (bb := 80) (rest := []) (idx := 365) (i0 := 365) (m1 := 191) (ps := [1775, 1777, 78]) (by decide +kernel) (by decide +kernel) (by decide) rfl ((gK_s (by decide)).trans (by decide +kernel)) (by decide) (Nat.le_of_ble_eq_true rfl) rfl h (fun y2 v1 h => ?_)
    refine xr_blk (lv1 := [(0, .ref 80), (1, .int x1), (2, .int x2), (3, .int x3)]) (st1 := [.int (-1), .int y2]) (S1 := rt v1) (pc1 := 16) [(.iconst (-1), .int (-1), 0, 0)] [] (by decide +kernel) rfl trivial ?_
    refine xr_ic_eq (tgt := 21) (off := 5) (by decide +kernel) (by decide) (fun hc => ?_) (fun hc => ?_)
    · replace h := h.1 hc
      refine xr_blk (lv1 := [(3, .int (x3 + (nI 1))), (0, .ref 80), (1, .int x1), (2, .int x2)]) (st1 := []) (S1 := rt v1) (pc1 := 24) [(.iinc 3 1, .int (nI 1), 0, 0)] [] (by decide +kernel) rfl trivial ?_
      refine xr_goto (tgt := 2) (off := -22) (by decide +kernel) (by decide) ?_
      exact x_R.sub [1, 2, 3, 0] rfl h
    · replace h := h.2 hc
      refine xr_blk (lv1 := [(0, .ref 80), (1, .int x1), (2, .int x2), (3, .int x3)]) (st1 := [.int (nI 1)]) (S1 := rt v1) (pc1 := 20) [(.iconst 1, .int (nI 1), 0, 0)] [] (by decide +kernel) rfl trivial ?_
      exact xr_zret (by decide +kernel) rfl x_in2_1 ⟨_, _, rfl, rfl, h⟩
theorem ok_213 : x_mOK 213 := ⟨x_tm8 (List.mem_of_getElem? (i := 85) rfl) rfl, 114, by decide +kernel⟩
/-! X12_mayBeOf: method 214, ScrawlHouseModel.mayBeOf(III)Z -/
set_option maxRecDepth 100000 in
theorem w_X12_mayBeOf_0 {E : Nat × (Nat → Int32)} {d : Nat} {v : xV} {x1 : Int32} {x2 : Int32} {x3 : Int32} {Q : Int32 → xV → Prop} (h : RI E (d + 1) 214 6 [(0, .ref 80), (1, .int x1), (2, .int x2), (3, .int x3), (4, .int (nI 0)), (5, .int (nI 0))] v Q) : RI E (d + 1) 214 0 [(0, .ref 80), (1, .int x1), (2, .int x2), (3, .int x3)] v Q := by
  unfold RI
  refine xr_blk (lv1 := [(5, .int (nI 0)), (4, .int (nI 0)), (0, .ref 80), (1, .int x1), (2, .int x2), (3, .int x3)]) (st1 := []) (S1 := rt v) (pc1 := 6) [(.iconst 0, .int (nI 0), 0, 0), (.istore 4, .null, 0, 0), (.iconst 0, .int (nI 0), 0, 0), (.istore 5, .null, 0, 0)] [] (by decide +kernel) rfl trivial ?_
  exact x_R.sub [2, 3, 4, 5, 1, 0] rfl h
set_option maxRecDepth 100000 in
theorem w_X12_mayBeOf_6 {E : Nat × (Nat → Int32)} {d : Nat} {v : xV} {x1 : Int32} {x2 : Int32} {x3 : Int32} {x4 : Int32} {x5 : Int32} {Q : Int32 → xV → Prop} (h : ((x1 ≤ x5 → vp_in x4 2 ∧ Q x4 v) ∧ (¬ x1 ≤ x5 → vp_in x5 20 ∧ ((((gA v 129) (x5).toNatClampNeg) = x2 → KI E d 194 [.ref 80, .int x1, .int x5, .int x3] v (fun y3 v2 => ((y3 < (nI 0) → Q (nI 0) v2) ∧ (¬ y3 < (nI 0) → KI E d 212 [.ref 80, .int x1, .int x5] v2 (fun y5 v4 => ((y5 = (nI 0) → ((y3 < (nI 2) → RI E (d + 1) 214 6 [(0, .ref 80), (1, .int x1), (2, .int x2), (3, .int x3), (4, .int x4), (5, .int (x5 + (nI 1)))] v4 Q) ∧ (¬ y3 < (nI 2) → RI E (d + 1) 214 6 [(0, .ref 80), (1, .int x1), (2, .int x2), (3, .int x3), (4, .int (nI 1)), (5, .int (x5 + (nI 1)))] v4 Q))) ∧ (¬ y5 = (nI 0) → Q (nI 0) v4))))))) ∧ (¬ ((gA v 129) (x5).toNatClampNeg) = x2 → RI E (d + 1) 214 6 [(0, .ref 80), (1, .int x1), (2, .int x2), (3, .int x3), (4, .int x4), (5, .int (x5 + (nI 1)))] v Q))))) : RI E (d + 1) 214 6 [(0, .ref 80), (1, .int x1), (2, .int x2), (3, .int x3), (4, .int x4), (5, .int x5)] v Q := by
  unfold RI
  refine xr_blk (lv1 := [(0, .ref 80), (1, .int x1), (2, .int x2), (3, .int x3), (4, .int x4), (5, .int x5)]) (st1 := [.int x1, .int x5]) (S1 := rt v) (pc1 := 9) [(.iload 5, .null, 0, 0), (.iload_n 1, .null, 0, 0)] [] (by decide +kernel) rfl trivial ?_
  refine xr_ic_ge (tgt := 68) (off := 59) (by decide +kernel) (by decide) (fun hc => ?_) (fun hc => ?_)
  · replace h := h.1 hc
    refine xr_blk (lv1 := [(0, .ref 80), (1, .int x1), (2, .int x2), (3, .int x3), (4, .int x4), (5, .int x5)]) (st1 := [.int x4]) (S1 := rt v) (pc1 := 70) [(.iload 4, .null, 0, 0)] [] (by decide +kernel) rfl trivial ?_
    obtain ⟨hz, h⟩ := h
    exact xr_zret (by decide +kernel) rfl hz ⟨_, _, rfl, rfl, h⟩
  · replace h := h.2 hc
    obtain ⟨hb1, h⟩ := h
    refine xr_blk (lv1 := [(0, .ref 80), (1, .int x1), (2, .int x2), (3, .int x3), (4, .int x4), (5, .int x5)]) (st1 := [.int x2, .int ((gA v 129) (x5).toNatClampNeg)]) (S1 := rt v) (pc1 := 20) [(.aload_n 0, .null, 0, 0), (.getfield 160, .null, 12, 75), (.iload 5, .null, 0, 0), (.iaload, .null, 0, 0), (.iload_n 2, .null, 0, 0)] [(x5, 20)] (by decide +kernel) rfl ⟨hb1, trivial⟩ ?_
    refine xr_ic_eq (tgt := 26) (off := 6) (by decide +kernel) (by decide) (fun hc => ?_) (fun hc => ?_)
    · replace h := h.1 hc
      refine xr_blk (lv1 := [(0, .ref 80), (1, .int x1), (2, .int x2), (3, .int x3), (4, .int x4), (5, .int x5)]) (st1 := [.int x3, .int x5, .int x1, .ref 80]) (S1 := rt v) (pc1 := 31) [(.aload_n 0, .null, 0, 0), (.iload_n 1, .null, 0, 0), (.iload 5, .null, 0, 0), (.iload_n 3, .null, 0, 0)] [] (by decide +kernel) rfl trivial ?_
      refine xk_VI (As := [.int x1, .int x5, .int x3]) (bb := 80) (rest := []) (idx := 371) (i0 := 371) (m1 := 194) (ps := [1791, 1793, 80]) (by decide +kernel) (by decide +kernel) (by decide) rfl ((gK_s (by decide)).trans (by decide +kernel)) (by decide) (Nat.le_of_ble_eq_true rfl) rfl h (fun y3 v2 h => ?_)
      refine xr_blk (lv1 := [(6, .int y3), (0, .ref 80), (1, .int x1), (2, .int x2), (3, .int x3), (4, .int x4), (5, .int x5)]) (st1 := [.int y3]) (S1 := rt v2) (pc1 := 38) [(.istore 6, .null, 0, 0), (.iload 6, .null, 0, 0)] [] (by decide +kernel) rfl trivial ?_
      refine xr_if_lt (tgt := 51) (off := 13) (by decide +kernel) (by decide) (fun hc => ?_) (fun hc => ?_)
      · replace h := h.1 hc
        refine xr_blk (lv1 := [(6, .int y3), (0, .ref 80), (1, .int x1), (2, .int x2), (3, .int x3), (4, .int x4), (5, .int x5)]) (st1 := [.int (nI 0)]) (S1 := rt v2) (pc1 := 52) [(.iconst 0, .int (nI 0), 0, 0)] [] (by decide +kernel) rfl trivial ?_
        exact xr_zret (by decide +kernel) rfl x_in2_0 ⟨_, _, rfl, rfl, h⟩
      · replace h := h.2 hc
        refine xr_blk (lv1 := [(6, .int y3), (0, .ref 80), (1, .int x1), (2, .int x2), (3, .int x3), (4, .int x4), (5, .int x5)]) (st1 := [.int x5, .int x1, .ref 80]) (S1 := rt v2) (pc1 := 45) [(.aload_n 0, .null, 0, 0), (.iload_n 1, .null, 0, 0), (.iload 5, .null, 0, 0)] [] (by decide +kernel) rfl trivial ?_
        refine xk_VI (As := [.int x1, .int x5]) (bb := 80) (rest := []) (idx := 417) (i0 := 417) (m1 := 212) (ps := [1870, 1872, 94]) (by decide +kernel) (by decide +kernel) (by decide) rfl ((gK_s (by decide)).trans (by decide +kernel)) (by decide) (Nat.le_of_ble_eq_true rfl) rfl h (fun y5 v4 h => ?_)
        refine xr_if_eq (tgt := 53) (off := 5) (by decide +kernel) (by decide) (fun hc => ?_) (fun hc => ?_)
        · replace h := h.1 hc
          refine xr_blk (lv1 := [(6, .int y3), (0, .ref 80), (1, .int x1), (2, .int x2), (3, .int x3), (4, .int x4), (5, .int x5)]) (st1 := [.int (nI 2), .int y3]) (S1 := rt v4) (pc1 := 56) [(.iload 6, .null, 0, 0), (.iconst 2, .int (nI 2), 0, 0)] [] (by decide +kernel) rfl trivial ?_
          refine xr_ic_lt (tgt := 62) (off := 6) (by decide +kernel) (by decide) (fun hc => ?_) (fun hc => ?_)
          · replace h := h.1 hc
            refine xr_blk (lv1 := [(5, .int (x5 + (nI 1))), (6, .int y3), (0, .ref 80), (1, .int x1), (2, .int x2), (3, .int x3), (4, .int x4)]) (st1 := []) (S1 := rt v4) (pc1 := 65) [(.iinc 5 1, .int (nI 1), 0, 0)] [] (by decide +kernel) rfl trivial ?_
            refine xr_goto (tgt := 6) (off := -59) (by decide +kernel) (by decide) ?_
            exact x_R.sub [2, 3, 4, 5, 6, 0] rfl h
          · replace h := h.2 hc
            refine xr_blk (lv1 := [(5, .int (x5 + (nI 1))), (4, .int (nI 1)), (6, .int y3), (0, .ref 80), (1, .int x1), (2, .int x2), (3, .int x3)]) (st1 := []) (S1 := rt v4) (pc1 := 65) [(.iconst 1, .int (nI 1), 0, 0), (.istore 4, .null, 0, 0), (.iinc 5 1, .int (nI 1), 0, 0)] [] (by decide +kernel) rfl trivial ?_
            refine xr_goto (tgt := 6) (off := -59) (by decide +kernel) (by decide) ?_
            exact x_R.sub [3, 4, 5, 6, 1, 0] rfl h
        · replace h := h.2 hc
          refine xr_blk (lv1 := [(6, .int y3), (0, .ref 80), (1, .int x1), (2, .int x2), (3, .int x3), (4, .int x4), (5, .int x5)]) (st1 := [.int (nI 0)]) (S1 := rt v4) (pc1 := 52) [(.iconst 0, .int (nI 0), 0, 0)] [] (by decide +kernel) rfl trivial ?_
          exact xr_zret (by decide +kernel) rfl x_in2_0 ⟨_, _, rfl, rfl, h⟩
    · replace h := h.2 hc
      refine xr_goto (tgt := 62) (off := 39) (by decide +kernel) (by decide) ?_
      refine xr_blk (lv1 := [(5, .int (x5 + (nI 1))), (0, .ref 80), (1, .int x1), (2, .int x2), (3, .int x3), (4, .int x4)]) (st1 := []) (S1 := rt v) (pc1 := 65) [(.iinc 5 1, .int (nI 1), 0, 0)] [] (by decide +kernel) rfl trivial ?_
      refine xr_goto (tgt := 6) (off := -59) (by decide +kernel) (by decide) ?_
      exact x_R.sub [1, 2, 3, 4, 5, 0] rfl h
theorem ok_214 : x_mOK 214 := ⟨x_tm8 (List.mem_of_getElem? (i := 89) rfl) rfl, 114, by decide +kernel⟩
/-! X12_hand: method 215, ScrawlHouseModel.hand(II)I -/
set_option maxRecDepth 100000 in
theorem w_X12_hand_0 {E : Nat × (Nat → Int32)} {d : Nat} {v : xV} {x1 : Int32} {x2 : Int32} {Q : Int32 → xV → Prop} (h : KI E d 173 [.ref 80, .int x1, .int x2] (v_I v 80 0 (nI 0)) (fun y2 v1 => ((¬ y2 = (nI 0) → KV E d 211 [.ref 80, .int x2] v1 (fun v3 => RI E (d + 1) 215 26 [(0, .ref 80), (1, .int x1), (2, .int x2), (3, .int (nI 0)), (4, .int (nI 0))] v3 Q)) ∧ (y2 = (nI 0) → Q (-1 : Int32) v1)))) : RI E (d + 1) 215 0 [(0, .ref 80), (1, .int x1), (2, .int x2)] v Q := by
  unfold RI
  refine xr_blk (lv1 := [(0, .ref 80), (1, .int x1), (2, .int x2)]) (st1 := [.int x2, .int x1, .ref 80]) (S1 := rt (v_I v 80 0 (nI 0))) (pc1 := 8) [(.aload_n 0, .null, 0, 0), (.iconst 0, .int (nI 0), 0, 0), (.putfield 190, .null, 12, 0), (.aload_n 0, .null, 0, 0), (.iload_n 1, .null, 0, 0), (.iload_n 2, .null, 0, 0)] [] (by decide +kernel) rfl trivial ?_
  refine xk_VI (As := [.int x1, .int x2]) (bb := 80) (rest := []) (idx := 321) (i0 := 321) (m1 := 173) (ps := [1712, 1714, 67]) (by decide +kernel) (by decide +kernel) (by decide) rfl ((gK_s (by decide)).trans (by decide +kernel)) (by decide) (Nat.le_of_ble_eq_true rfl) rfl h (fun y2 v1 h => ?_)
  refine xr_if_ne (tgt := 16) (off := 5) (by decide +kernel) (by decide) (fun hc => ?_) (fun hc => ?_)
  · replace h := h.1 hc
    refine xr_blk (lv1 := [(0, .ref 80), (1, .int x1), (2, .int x2)]) (st1 := [.int x2, .ref 80]) (S1 := rt v1) (pc1 := 18) [(.aload_n 0, .null, 0, 0), (.iload_n 2, .null, 0, 0)] [] (by decide +kernel) rfl trivial ?_
    refine xk_VV (As := [.int x2]) (bb := 80) (rest := []) (idx := 420) (i0 := 420) (m1 := 211) (ps := [1858, 1860, 91]) (by decide +kernel) (by decide +kernel) (by decide) rfl ((gK_s (by decide)).trans (by decide +kernel)) (by decide) (Nat.le_of_ble_eq_true rfl) rfl h (fun v3 h => ?_)
    refine xr_blk (lv1 := [(4, .int (nI 0)), (3, .int (nI 0)), (0, .ref 80), (1, .int x1), (2, .int x2)]) (st1 := []) (S1 := rt v3) (pc1 := 26) [(.iconst 0, .int (nI 0), 0, 0), (.istore_n 3, .null, 0, 0), (.iconst 0, .int (nI 0), 0, 0), (.istore 4, .null, 0, 0)] [] (by decide +kernel) rfl trivial ?_
    exact x_R.sub [2, 3, 4, 1, 0] rfl h
  · replace h := h.2 hc
    refine xr_blk (lv1 := [(0, .ref 80), (1, .int x1), (2, .int x2)]) (st1 := [.int (-1)]) (S1 := rt v1) (pc1 := 15) [(.iconst (-1), .int (-1), 0, 0)] [] (by decide +kernel) rfl trivial ?_
    exact xr_iret (by decide +kernel) rfl ⟨_, _, rfl, rfl, h⟩
set_option maxRecDepth 100000 in
theorem w_X12_hand_26 {E : Nat × (Nat → Int32)} {d : Nat} {v : xV} {x1 : Int32} {x2 : Int32} {x3 : Int32} {x4 : Int32} {Q : Int32 → xV → Prop} (h : ((x1 < x4 → vp_in x1 20 ∧ Q ((gA v 129) (x1).toNatClampNeg) v) ∧ (¬ x1 < x4 → vp_in x4 20 ∧ vp_in x4 20 ∧ ((x2 < ((gA v 103) (x4).toNatClampNeg) → RI E (d + 1) 215 26 [(0, .ref 80), (1, .int x1), (2, .int x2), (3, .int x3), (4, .int (x4 + (nI 1)))] (v_A v 129 (upd (gA v 129) (x4).toNatClampNeg (-1 : Int32))) Q) ∧ (¬ x2 < ((gA v 103) (x4).toNatClampNeg) → KI E d 213 [.ref 80, .int x4, .int x2] (v_A v 129 (upd (gA v 129) (x4).toNatClampNeg (-1 : Int32))) (fun y5 v4 => ((¬ y5 = (nI 0) → RI E (d + 1) 215 67 [(0, .ref 80), (1, .int x1), (2, .int x2), (3, .int x3), (4, .int x4), (5, .int (nI 0))] v4 Q) ∧ (y5 = (nI 0) → RI E (d + 1) 215 26 [(0, .ref 80), (1, .int x1), (2, .int x2), (3, .int x3), (4, .int (x4 + (nI 1)))] v4 Q)))))))) : RI E (d + 1) 215 26 [(0, .ref 80), (1, .int x1), (2, .int x2), (3, .int x3), (4, .int x4)] v Q := by
  unfold RI
  refine xr_blk (lv1 := [(0, .ref 80), (1, .int x1), (2, .int x2), (3, .int x3), (4, .int x4)]) (st1 := [.int x1, .int x4]) (S1 := rt v) (pc1 := 29) [(.iload 4, .null, 0, 0), (.iload_n 1, .null, 0, 0)] [] (by decide +kernel) rfl trivial ?_
  refine xr_ic_gt (tgt := 115) (off := 86) (by decide +kernel) (by decide) (fun hc => ?_) (fun hc => ?_)
  · replace h := h.1 hc
    obtain ⟨hb1, h⟩ := h
    refine xr_blk (lv1 := [(0, .ref 80), (1, .int x1), (2, .int x2), (3, .int x3), (4, .int x4)]) (st1 := [.int ((gA v 129) (x1).toNatClampNeg)]) (S1 := rt v) (pc1 := 121) [(.aload_n 0, .null, 0, 0), (.getfield 160, .null, 12, 75), (.iload_n 1, .null, 0, 0), (.iaload, .null, 0, 0)] [(x1, 20)] (by decide +kernel) rfl ⟨hb1, trivial⟩ ?_
    exact xr_iret (by decide +kernel) rfl ⟨_, _, rfl, rfl, h⟩
  · replace h := h.2 hc
    obtain ⟨hb2, h⟩ := h
    obtain ⟨hb3, h⟩ := h
    refine xr_blk (lv1 := [(0, .ref 80), (1, .int x1), (2, .int x2), (3, .int x3), (4, .int x4)]) (st1 := [.int x2, .int ((gA v 103) (x4).toNatClampNeg)]) (S1 := rt (v_A v 129 (upd (gA v 129) (x4).toNatClampNeg (-1 : Int32)))) (pc1 := 48) [(.aload_n 0, .null, 0, 0), (.getfield 160, .null, 12, 75), (.iload 4, .null, 0, 0), (.iconst (-1), .int (-1), 0, 0), (.iastore, .null, 0, 0), (.aload_n 0, .null, 0, 0), (.getfield 81, .null, 12, 41), (.iload 4, .null, 0, 0), (.iaload, .null, 0, 0), (.iload_n 2, .null, 0, 0)] [(x4, 20), (x4, 20)] (by decide +kernel) rfl ⟨hb2, hb3, trivial⟩ ?_
    refine xr_ic_gt (tgt := 109) (off := 61) (by decide +kernel) (by decide) (fun hc => ?_) (fun hc => ?_)
    · replace h := h.1 hc
      refine xr_blk (lv1 := [(4, .int (x4 + (nI 1))), (0, .ref 80), (1, .int x1), (2, .int x2), (3, .int x3)]) (st1 := []) (S1 := rt (v_A v 129 (upd (gA v 129) (x4).toNatClampNeg (-1 : Int32)))) (pc1 := 112) [(.iinc 4 1, .int (nI 1), 0, 0)] [] (by decide +kernel) rfl trivial ?_
      refine xr_goto (tgt := 26) (off := -86) (by decide +kernel) (by decide) ?_
      exact x_R.sub [1, 2, 3, 4, 0] rfl h
    · replace h := h.2 hc
      refine xr_blk (lv1 := [(0, .ref 80), (1, .int x1), (2, .int x2), (3, .int x3), (4, .int x4)]) (st1 := [.int x2, .int x4, .ref 80]) (S1 := rt (v_A v 129 (upd (gA v 129) (x4).toNatClampNeg (-1 : Int32)))) (pc1 := 55) [(.aload_n 0, .null, 0, 0), (.iload 4, .null, 0, 0), (.iload_n 2, .null, 0, 0)] [] (by decide +kernel) rfl trivial ?_
      refine xk_VI (As := [.int x4, .int x2]) (bb := 80) (rest := []) (idx := 423) (i0 := 423) (m1 := 213) (ps := [1862, 1864, 92]) (by decide +kernel) (by decide +kernel) (by decide) rfl ((gK_s (by decide)).trans (by decide +kernel)) (by decide) (Nat.le_of_ble_eq_true rfl) rfl h (fun y5 v4 h => ?_)
      refine xr_if_ne (tgt := 64) (off := 6) (by decide +kernel) (by decide) (fun hc => ?_) (fun hc => ?_)
      · replace h := h.1 hc
        refine xr_blk (lv1 := [(5, .int (nI 0)), (0, .ref 80), (1, .int x1), (2, .int x2), (3, .int x3), (4, .int x4)]) (st1 := []) (S1 := rt v4) (pc1 := 67) [(.iconst 0, .int (nI 0), 0, 0), (.istore 5, .null, 0, 0)] [] (by decide +kernel) rfl trivial ?_
        exact x_R.sub [1, 2, 3, 4, 5, 0] rfl h
      · replace h := h.2 hc
        refine xr_goto (tgt := 109) (off := 48) (by decide +kernel) (by decide) ?_
        refine xr_blk (lv1 := [(4, .int (x4 + (nI 1))), (0, .ref 80), (1, .int x1), (2, .int x2), (3, .int x3)]) (st1 := []) (S1 := rt v4) (pc1 := 112) [(.iinc 4 1, .int (nI 1), 0, 0)] [] (by decide +kernel) rfl trivial ?_
        refine xr_goto (tgt := 26) (off := -86) (by decide +kernel) (by decide) ?_
        exact x_R.sub [1, 2, 3, 4, 0] rfl h
set_option maxRecDepth 100000 in
theorem w_X12_hand_67 {E : Nat × (Nat → Int32)} {d : Nat} {v : xV} {x1 : Int32} {x2 : Int32} {x3 : Int32} {x4 : Int32} {x5 : Int32} {Q : Int32 → xV → Prop} (h : ((x3 ≤ x5 → RI E (d + 1) 215 91 [(0, .ref 80), (1, .int x1), (2, .int x2), (3, .int x3), (4, .int x4), (5, .int x5)] v Q) ∧ (¬ x3 ≤ x5 → KI E d 214 [.ref 80, .int x4, .int x5, .int x2] v (fun y2 v1 => ((¬ y2 = (nI 0) → RI E (d + 1) 215 91 [(0, .ref 80), (1, .int x1), (2, .int x2), (3, .int x3), (4, .int x4), (5, .int x5)] v1 Q) ∧ (y2 = (nI 0) → RI E (d + 1) 215 67 [(0, .ref 80), (1, .int x1), (2, .int x2), (3, .int x3), (4, .int x4), (5, .int (x5 + (nI 1)))] v1 Q)))))) : RI E (d + 1) 215 67 [(0, .ref 80), (1, .int x1), (2, .int x2), (3, .int x3), (4, .int x4), (5, .int x5)] v Q := by
  unfold RI
  refine xr_blk (lv1 := [(0, .ref 80), (1, .int x1), (2, .int x2), (3, .int x3), (4, .int x4), (5, .int x5)]) (st1 := [.int x3, .int x5]) (S1 := rt v) (pc1 := 70) [(.iload 5, .null, 0, 0), (.iload_n 3, .null, 0, 0)] [] (by decide +kernel) rfl trivial ?_
  refine xr_ic_ge (tgt := 91) (off := 21) (by decide +kernel) (by decide) (fun hc => ?_) (fun hc => ?_)
  · replace h := h.1 hc
    exact x_R.sub [0, 1, 2, 3, 4, 5] rfl h
  · replace h := h.2 hc
    refine xr_blk (lv1 := [(0, .ref 80), (1, .int x1), (2, .int x2), (3, .int x3), (4, .int x4), (5, .int x5)]) (st1 := [.int x2, .int x5, .int x4, .ref 80]) (S1 := rt v) (pc1 := 79) [(.aload_n 0, .null, 0, 0), (.iload 4, .null, 0, 0), (.iload 5, .null, 0, 0), (.iload_n 2, .null, 0, 0)] [] (by decide +kernel) rfl trivial ?_
    refine xk_VI (As := [.int x4, .int x5, .int x2]) (bb := 80) (rest := []) (idx := 426) (i0 := 426) (m1 := 214) (ps := [1866, 1868, 93]) (by decide +kernel) (by decide +kernel) (by decide) rfl ((gK_s (by decide)).trans (by decide +kernel)) (by decide) (Nat.le_of_ble_eq_true rfl) rfl h (fun y2 v1 h => ?_)
    refine xr_if_ne (tgt := 91) (off := 9) (by decide +kernel) (by decide) (fun hc => ?_) (fun hc => ?_)
    · replace h := h.1 hc
      exact x_R.sub [0, 1, 2, 3, 4, 5] rfl h
    · replace h := h.2 hc
      refine xr_blk (lv1 := [(5, .int (x5 + (nI 1))), (0, .ref 80), (1, .int x1), (2, .int x2), (3, .int x3), (4, .int x4)]) (st1 := []) (S1 := rt v1) (pc1 := 88) [(.iinc 5 1, .int (nI 1), 0, 0)] [] (by decide +kernel) rfl trivial ?_
      refine xr_goto (tgt := 67) (off := -21) (by decide +kernel) (by decide) ?_
      exact x_R.sub [1, 2, 3, 4, 5, 0] rfl h
set_option maxRecDepth 100000 in
theorem w_X12_hand_91 {E : Nat × (Nat → Int32)} {d : Nat} {v : xV} {x1 : Int32} {x2 : Int32} {x3 : Int32} {x4 : Int32} {x5 : Int32} {Q : Int32 → xV → Prop} (h : vp_in x4 20 ∧ ((¬ x5 = x3 → RI E (d + 1) 215 26 [(0, .ref 80), (1, .int x1), (2, .int x2), (3, .int x3), (4, .int (x4 + (nI 1)))] (v_A v 129 (upd (gA v 129) (x4).toNatClampNeg x5)) Q) ∧ (x5 = x3 → RI E (d + 1) 215 26 [(0, .ref 80), (1, .int x1), (2, .int x2), (3, .int (x3 + (nI 1))), (4, .int (x4 + (nI 1)))] (v_A v 129 (upd (gA v 129) (x4).toNatClampNeg x5)) Q))) : RI E (d + 1) 215 91 [(0, .ref 80), (1, .int x1), (2, .int x2), (3, .int x3), (4, .int x4), (5, .int x5)] v Q := by
  unfold RI
  obtain ⟨hb1, h⟩ := h
  refine xr_blk (lv1 := [(0, .ref 80), (1, .int x1), (2, .int x2), (3, .int x3), (4, .int x4), (5, .int x5)]) (st1 := [.int x3, .int x5]) (S1 := rt (v_A v 129 (upd (gA v 129) (x4).toNatClampNeg x5))) (pc1 := 103) [(.aload_n 0, .null, 0, 0), (.getfield 160, .null, 12, 75), (.iload 4, .null, 0, 0), (.iload 5, .null, 0, 0), (.iastore, .null, 0, 0), (.iload 5, .null, 0, 0), (.iload_n 3, .null, 0, 0)] [(x4, 20)] (by decide +kernel) rfl ⟨hb1, trivial⟩ ?_
  refine xr_ic_ne (tgt := 109) (off := 6) (by decide +kernel) (by decide) (fun hc => ?_) (fun hc => ?_)
  · replace h := h.1 hc
    refine xr_blk (lv1 := [(4, .int (x4 + (nI 1))), (0, .ref 80), (1, .int x1), (2, .int x2), (3, .int x3), (5, .int x5)]) (st1 := []) (S1 := rt (v_A v 129 (upd (gA v 129) (x4).toNatClampNeg x5))) (pc1 := 112) [(.iinc 4 1, .int (nI 1), 0, 0)] [] (by decide +kernel) rfl trivial ?_
    refine xr_goto (tgt := 26) (off := -86) (by decide +kernel) (by decide) ?_
    exact x_R.sub [1, 2, 3, 4, 0] rfl h
  · replace h := h.2 hc
    refine xr_blk (lv1 := [(4, .int (x4 + (nI 1))), (3, .int (x3 + (nI 1))), (0, .ref 80), (1, .int x1), (2, .int x2), (5, .int x5)]) (st1 := []) (S1 := rt (v_A v 129 (upd (gA v 129) (x4).toNatClampNeg x5))) (pc1 := 112) [(.iinc 3 1, .int (nI 1), 0, 0), (.iinc 4 1, .int (nI 1), 0, 0)] [] (by decide +kernel) rfl trivial ?_
    refine xr_goto (tgt := 26) (off := -86) (by decide +kernel) (by decide) ?_
    exact x_R.sub [2, 3, 4, 1, 0] rfl h
theorem ok_215 : x_mOK 215 := ⟨x_tm8 (List.mem_of_getElem? (i := 77) rfl) rfl, 114, by decide +kernel⟩
/-! X12_areTwo: method 216, ScrawlHouseModel.areTwo(II)Z -/
set_option maxRecDepth 100000 in
theorem w_X12_areTwo_0 {E : Nat × (Nat → Int32)} {d : Nat} {v : xV} {x1 : Int32} {x2 : Int32} {Q : Int32 → xV → Prop} (h : KI E d 190 [.ref 80, .int x1, .int (nI 1)] v (fun y2 v1 => KI E d 190 [.ref 80, .int x2, .int (nI 1)] v1 (fun y4 v3 => ((y2 = (-1 : Int32) → RI E (d + 1) 216 32 [(0, .ref 80), (1, .int x1), (2, .int x2)] v3 Q) ∧ (¬ y2 = (-1 : Int32) → ((y4 = (-1 : Int32) → RI E (d + 1) 216 32 [(0, .ref 80), (1, .int x1), (2, .int x2)] v3 Q) ∧ (¬ y4 = (-1 : Int32) → ((¬ y2 = y4 → Q (nI 1) v3) ∧ (y2 = y4 → RI E (d + 1) 216 32 [(0, .ref 80), (1, .int x1), (2, .int x2)] v3 Q))))))))) : RI E (d + 1) 216 0 [(0, .ref 80), (1, .int x1), (2, .int x2)] v Q := by
  unfold RI
  refine xr_blk (lv1 := [(0, .ref 80), (1, .int x1), (2, .int x2)]) (st1 := [.int (nI 1), .int x1, .ref 80]) (S1 := rt v) (pc1 := 3) [(.aload_n 0, .null, 0, 0), (.iload_n 1, .null, 0, 0), (.iconst 1, .int (nI 1), 0, 0)] [] (by decide +kernel) rfl trivial ?_
  refine xk_VI (As := [.int x1, .int (nI 1)]) (bb := 80) (rest := []) (idx := 368) (i0 := 368) (m1 := 190) (ps := [1779, 1781, 79]) (by decide +kernel) (by decide +kernel) (by decide) rfl ((gK_s (by decide)).trans (by decide +kernel)) (by decide) (Nat.le_of_ble_eq_true rfl) rfl h (fun y2 v1 h => ?_)
  refine xr_blk (lv1 := [(3, .int y2), (0, .ref 80), (1, .int x1), (2, .int x2)]) (st1 := [.int (nI 1), .int x2, .ref 80]) (S1 := rt v1) (pc1 := 10) [(.istore_n 3, .null, 0, 0), (.aload_n 0, .null, 0, 0), (.iload_n 2, .null, 0, 0), (.iconst 1, .int (nI 1), 0, 0)] [] (by decide +kernel) rfl trivial ?_
  refine xk_VI (As := [.int x2, .int (nI 1)]) (bb := 80) (rest := []) (idx := 368) (i0 := 368) (m1 := 190) (ps := [1779, 1781, 79]) (by decide +kernel) (by decide +kernel) (by decide) rfl ((gK_s (by decide)).trans (by decide +kernel)) (by decide) (Nat.le_of_ble_eq_true rfl) rfl h (fun y4 v3 h => ?_)
  refine xr_blk (lv1 := [(4, .int y4), (3, .int y2), (0, .ref 80), (1, .int x1), (2, .int x2)]) (st1 := [.int (-1), .int y2]) (S1 := rt v3) (pc1 := 17) [(.istore 4, .null, 0, 0), (.iload_n 3, .null, 0, 0), (.iconst (-1), .int (-1), 0, 0)] [] (by decide +kernel) rfl trivial ?_
  refine xr_ic_eq (tgt := 32) (off := 15) (by decide +kernel) (by decide) (fun hc => ?_) (fun hc => ?_)
  · replace h := h.1 hc
    exact x_R.sub [2, 3, 4] rfl h
  · replace h := h.2 hc
    refine xr_blk (lv1 := [(4, .int y4), (3, .int y2), (0, .ref 80), (1, .int x1), (2, .int x2)]) (st1 := [.int (-1), .int y4]) (S1 := rt v3) (pc1 := 23) [(.iload 4, .null, 0, 0), (.iconst (-1), .int (-1), 0, 0)] [] (by decide +kernel) rfl trivial ?_
    refine xr_ic_eq (tgt := 32) (off := 9) (by decide +kernel) (by decide) (fun hc => ?_) (fun hc => ?_)
    · replace h := h.1 hc
      exact x_R.sub [2, 3, 4] rfl h
    · replace h := h.2 hc
      refine xr_blk (lv1 := [(4, .int y4), (3, .int y2), (0, .ref 80), (1, .int x1), (2, .int x2)]) (st1 := [.int y4, .int y2]) (S1 := rt v3) (pc1 := 29) [(.iload_n 3, .null, 0, 0), (.iload 4, .null, 0, 0)] [] (by decide +kernel) rfl trivial ?_
      refine xr_ic_ne (tgt := 41) (off := 12) (by decide +kernel) (by decide) (fun hc => ?_) (fun hc => ?_)
      · replace h := h.1 hc
        refine xr_blk (lv1 := [(4, .int y4), (3, .int y2), (0, .ref 80), (1, .int x1), (2, .int x2)]) (st1 := [.int (nI 1)]) (S1 := rt v3) (pc1 := 42) [(.iconst 1, .int (nI 1), 0, 0)] [] (by decide +kernel) rfl trivial ?_
        refine xr_goto (tgt := 46) (off := 4) (by decide +kernel) (by decide) ?_
        exact xr_zret (by decide +kernel) rfl x_in2_1 ⟨_, _, rfl, rfl, h⟩
      · replace h := h.2 hc
        exact x_R.sub [2, 3, 4] rfl h
set_option maxRecDepth 100000 in
theorem w_X12_areTwo_32 {E : Nat × (Nat → Int32)} {d : Nat} {v : xV} {x1 : Int32} {x2 : Int32} {Q : Int32 → xV → Prop} (h : KI E d 212 [.ref 80, .int x1, .int x2] v (fun y2 v1 => ((y2 = (nI 0) → Q (nI 0) v1) ∧ (¬ y2 = (nI 0) → Q (nI 1) v1)))) : RI E (d + 1) 216 32 [(0, .ref 80), (1, .int x1), (2, .int x2)] v Q := by
  unfold RI
  refine xr_blk (lv1 := [(0, .ref 80), (1, .int x1), (2, .int x2)]) (st1 := [.int x2, .int x1, .ref 80]) (S1 := rt v) (pc1 := 35) [(.aload_n 0, .null, 0, 0), (.iload_n 1, .null, 0, 0), (.iload_n 2, .null, 0, 0)] [] (by decide +kernel) rfl trivial ?_
  refine xk_VI (As := [.int x1, .int x2]) (bb := 80) (rest := []) (idx := 417) (i0 := 417) (m1 := 212) (ps := [1870, 1872, 94]) (by decide +kernel) (by decide +kernel) (by decide) rfl ((gK_s (by decide)).trans (by decide +kernel)) (by decide) (Nat.le_of_ble_eq_true rfl) rfl h (fun y2 v1 h => ?_)
  refine xr_if_eq (tgt := 45) (off := 7) (by decide +kernel) (by decide) (fun hc => ?_) (fun hc => ?_)
  · replace h := h.1 hc
    refine xr_blk (lv1 := [(0, .ref 80), (1, .int x1), (2, .int x2)]) (st1 := [.int (nI 0)]) (S1 := rt v1) (pc1 := 46) [(.iconst 0, .int (nI 0), 0, 0)] [] (by decide +kernel) rfl trivial ?_
    exact xr_zret (by decide +kernel) rfl x_in2_0 ⟨_, _, rfl, rfl, h⟩
  · replace h := h.2 hc
    refine xr_blk (lv1 := [(0, .ref 80), (1, .int x1), (2, .int x2)]) (st1 := [.int (nI 1)]) (S1 := rt v1) (pc1 := 42) [(.iconst 1, .int (nI 1), 0, 0)] [] (by decide +kernel) rfl trivial ?_
    refine xr_goto (tgt := 46) (off := 4) (by decide +kernel) (by decide) ?_
    exact xr_zret (by decide +kernel) rfl x_in2_1 ⟨_, _, rfl, rfl, h⟩
theorem ok_216 : x_mOK 216 := ⟨x_tm8 (List.mem_of_getElem? (i := 113) rfl) rfl, 114, by decide +kernel⟩

/-! X12_mayJoin: method 217, ScrawlHouseModel.mayJoin(II)Z -/
set_option maxRecDepth 100000 in
theorem w_X12_mayJoin_0 {E : Nat × (Nat → Int32)} {d : Nat} {v : xV} {x1 : Int32} {x2 : Int32} {Q : Int32 → xV → Prop} (h : RI E (d + 1) 217 2 [(0, .ref 80), (1, .int x1), (2, .int x2), (3, .int (nI 0))] v Q) : RI E (d + 1) 217 0 [(0, .ref 80), (1, .int x1), (2, .int x2)] v Q := by
  unfold RI
  refine xr_blk (lv1 := [(3, .int (nI 0)), (0, .ref 80), (1, .int x1), (2, .int x2)]) (st1 := []) (S1 := rt v) (pc1 := 2) [(.iconst 0, .int (nI 0), 0, 0), (.istore_n 3, .null, 0, 0)] [] (by decide +kernel) rfl trivial ?_
  exact x_R.sub [1, 2, 3, 0] rfl h
set_option maxRecDepth 100000 in
theorem w_X12_mayJoin_2 {E : Nat × (Nat → Int32)} {d : Nat} {v : xV} {x1 : Int32} {x2 : Int32} {x3 : Int32} {Q : Int32 → xV → Prop} (h : ((x1 ≤ x3 → Q (nI 1) v) ∧ (¬ x1 ≤ x3 → vp_in x3 10 ∧ ((¬ ((gA v 134) (x3).toNatClampNeg) = x2 → RI E (d + 1) 217 2 [(0, .ref 80), (1, .int x1), (2, .int x2), (3, .int (x3 + (nI 1)))] v Q) ∧ (((gA v 134) (x3).toNatClampNeg) = x2 → vp_in x3 10 ∧ vp_in x1 10 ∧ KI E d 216 [.ref 80, .int ((gA v 132) (x3).toNatClampNeg), .int ((gA v 132) (x1).toNatClampNeg)] v (fun y5 v4 => ((y5 = (nI 0) → RI E (d + 1) 217 2 [(0, .ref 80), (1, .int x1), (2, .int x2), (3, .int (x3 + (nI 1)))] v4 Q) ∧ (¬ y5 = (nI 0) → Q (nI 0) v4)))))))) : RI E (d + 1) 217 2 [(0, .ref 80), (1, .int x1), (2, .int x2), (3, .int x3)] v Q := by
  unfold RI
  refine xr_blk (lv1 := [(0, .ref 80), (1, .int x1), (2, .int x2), (3, .int x3)]) (st1 := [.int x1, .int x3]) (S1 := rt v) (pc1 := 4) [(.iload_n 3, .null, 0, 0), (.iload_n 1, .null, 0, 0)] [] (by decide +kernel) rfl trivial ?_
  refine xr_ic_ge (tgt := 44) (off := 40) (by decide +kernel) (by decide) (fun hc => ?_) (fun hc => ?_)
  · replace h := h.1 hc
    refine xr_blk (lv1 := [(0, .ref 80), (1, .int x1), (2, .int x2), (3, .int x3)]) (st1 := [.int (nI 1)]) (S1 := rt v) (pc1 := 45) [(.iconst 1, .int (nI 1), 0, 0)] [] (by decide +kernel) rfl trivial ?_
    exact xr_zret (by decide +kernel) rfl x_in2_1 ⟨_, _, rfl, rfl, h⟩
  · replace h := h.2 hc
    obtain ⟨hb1, h⟩ := h
    refine xr_blk (lv1 := [(0, .ref 80), (1, .int x1), (2, .int x2), (3, .int x3)]) (st1 := [.int x2, .int ((gA v 134) (x3).toNatClampNeg)]) (S1 := rt v) (pc1 := 14) [(.aload_n 0, .null, 0, 0), (.getfield 175, .null, 12, 80), (.iload_n 3, .null, 0, 0), (.iaload, .null, 0, 0), (.iload_n 2, .null, 0, 0)] [(x3, 10)] (by decide +kernel) rfl ⟨hb1, trivial⟩ ?_
    refine xr_ic_ne (tgt := 38) (off := 24) (by decide +kernel) (by decide) (fun hc => ?_) (fun hc => ?_)
    · replace h := h.1 hc
      refine xr_blk (lv1 := [(3, .int (x3 + (nI 1))), (0, .ref 80), (1, .int x1), (2, .int x2)]) (st1 := []) (S1 := rt v) (pc1 := 41) [(.iinc 3 1, .int (nI 1), 0, 0)] [] (by decide +kernel) rfl trivial ?_
      refine xr_goto (tgt := 2) (off := -39) (by decide +kernel) (by decide) ?_
      exact x_R.sub [1, 2, 3, 0] rfl h
    · replace h := h.2 hc
      obtain ⟨hb2, h⟩ := h
      obtain ⟨hb3, h⟩ := h
      refine xr_blk (lv1 := [(0, .ref 80), (1, .int x1), (2, .int x2), (3, .int x3)]) (st1 := [.int ((gA v 132) (x1).toNatClampNeg), .int ((gA v 132) (x3).toNatClampNeg), .ref 80]) (S1 := rt v) (pc1 := 30) [(.aload_n 0, .null, 0, 0), (.aload_n 0, .null, 0, 0), (.getfield 169, .null, 12, 78), (.iload_n 3, .null, 0, 0), (.iaload, .null, 0, 0), (.aload_n 0, .null, 0, 0), (.getfield 169, .null, 12, 78), (.iload_n 1, .null, 0, 0), (.iaload, .null, 0, 0)] [(x3, 10), (x1, 10)] (by decide +kernel) rfl ⟨hb2, hb3, trivial⟩ ?_
      refine xk_VI (As := [.int ((gA v 132) (x3).toNatClampNeg), .int ((gA v 132) (x1).toNatClampNeg)]) (bb := 80) (rest := []) (idx := 429) (i0 := 429) (m1 := 216) (ps := [1890, 1892, 98]) (by decide +kernel) (by decide +kernel) (by decide) rfl ((gK_s (by decide)).trans (by decide +kernel)) (by decide) (Nat.le_of_ble_eq_true rfl) rfl h (fun y5 v4 h => ?_)
      refine xr_if_eq (tgt := 38) (off := 5) (by decide +kernel) (by decide) (fun hc => ?_) (fun hc => ?_)
      · replace h := h.1 hc
        refine xr_blk (lv1 := [(3, .int (x3 + (nI 1))), (0, .ref 80), (1, .int x1), (2, .int x2)]) (st1 := []) (S1 := rt v4) (pc1 := 41) [(.iinc 3 1, .int (nI 1), 0, 0)] [] (by decide +kernel) rfl trivial ?_
        refine xr_goto (tgt := 2) (off := -39) (by decide +kernel) (by decide) ?_
        exact x_R.sub [1, 2, 3, 0] rfl h
      · replace h := h.2 hc
        refine xr_blk (lv1 := [(0, .ref 80), (1, .int x1), (2, .int x2), (3, .int x3)]) (st1 := [.int (nI 0)]) (S1 := rt v4) (pc1 := 37) [(.iconst 0, .int (nI 0), 0, 0)] [] (by decide +kernel) rfl trivial ?_
        exact xr_zret (by decide +kernel) rfl x_in2_0 ⟨_, _, rfl, rfl, h⟩
theorem ok_217 : x_mOK 217 := ⟨x_tm8 (List.mem_of_getElem? (i := 109) rfl) rfl, 114, by decide +kernel⟩
/-! X12_partInto: method 218, ScrawlHouseModel.partInto(I)Z -/
set_option maxRecDepth 100000 in
theorem w_X12_partInto_0 {E : Nat × (Nat → Int32)} {d : Nat} {v : xV} {x1 : Int32} {Q : Int32 → xV → Prop} (h : ∀ f1 : Nat → Int32, f1 = (upd (gA v 134) ((nI 0)).toNatClampNeg (-1 : Int32)) → RI E (d + 1) 218 9 [(0, .ref 80), (1, .int x1), (2, .int (nI 0))] (v_A v 134 f1) Q) : RI E (d + 1) 218 0 [(0, .ref 80), (1, .int x1)] v Q := by
  unfold RI
  refine xr_blk (lv1 := [(2, .int (nI 0)), (0, .ref 80), (1, .int x1)]) (st1 := []) (S1 := rt (v_A v 134 (upd (gA v 134) ((nI 0)).toNatClampNeg (-1 : Int32)))) (pc1 := 9) [(.iconst 0, .int (nI 0), 0, 0), (.istore_n 2, .null, 0, 0), (.aload_n 0, .null, 0, 0), (.getfield 175, .null, 12, 80), (.iconst 0, .int (nI 0), 0, 0), (.iconst (-1), .int (-1), 0, 0), (.iastore, .null, 0, 0)] [((nI 0), 10)] (by decide +kernel) rfl ⟨x_inl (by decide), trivial⟩ ?_
  refine (fun (k : ∀ f1 : Nat → Int32, f1 = (upd (gA v 134) ((nI 0)).toNatClampNeg (-1 : Int32)) → x_R E (d + 1) 218 9 [(2, .int (nI 0)), (0, .ref 80), (1, .int x1)] [] (rt (v_A v 134 f1)) _) => k _ rfl) (fun f1 ef1 => ?_)
  replace h := h f1 ef1
  exact x_R.sub [1, 2, 0] rfl h
set_option maxRecDepth 100000 in
theorem w_X12_partInto_9 {E : Nat × (Nat → Int32)} {d : Nat} {v : xV} {x1 : Int32} {x2 : Int32} {Q : Int32 → xV → Prop} (h : ((x2 < (nI 0) → Q (nI 0) v) ∧ (¬ x2 < (nI 0) → ((¬ x2 = (nI 0) → vp_in (x2 - (nI 1)) 10 ∧ ∀ y2 : Int32, y2 = ((gA v 135) ((x2 - (nI 1))).toNatClampNeg) → vp_in x2 10 ∧ ∀ y4 : Int32, y4 = (((gA v 134) (x2).toNatClampNeg) + (nI 1)) → RI E (d + 1) 218 40 [(0, .ref 80), (1, .int x1), (2, .int x2), (3, .int y2), (4, .int y4)] v Q) ∧ (x2 = (nI 0) → vp_in x2 10 ∧ ∀ y6 : Int32, y6 = (((gA v 134) (x2).toNatClampNeg) + (nI 1)) → RI E (d + 1) 218 40 [(0, .ref 80), (1, .int x1), (2, .int x2), (3, .int (-1)), (4, .int y6)] v Q))))) : RI E (d + 1) 218 9 [(0, .ref 80), (1, .int x1), (2, .int x2)] v Q := by
  unfold RI
  refine xr_blk (lv1 := [(0, .ref 80), (1, .int x1), (2, .int x2)]) (st1 := [.int x2]) (S1 := rt v) (pc1 := 10) [(.iload_n 2, .null, 0, 0)] [] (by decide +kernel) rfl trivial ?_
  refine xr_if_lt (tgt := 139) (off := 129) (by decide +kernel) (by decide) (fun hc => ?_) (fun hc => ?_)
  · replace h := h.1 hc
    refine xr_blk (lv1 := [(0, .ref 80), (1, .int x1), (2, .int x2)]) (st1 := [.int (nI 0)]) (S1 := rt v) (pc1 := 140) [(.iconst 0, .int (nI 0), 0, 0)] [] (by decide +kernel) rfl trivial ?_
    exact xr_zret (by decide +kernel) rfl x_in2_0 ⟨_, _, rfl, rfl, h⟩
  · replace h := h.2 hc
    refine xr_blk (lv1 := [(0, .ref 80), (1, .int x1), (2, .int x2)]) (st1 := [.int x2]) (S1 := rt v) (pc1 := 14) [(.iload_n 2, .null, 0, 0)] [] (by decide +kernel) rfl trivial ?_
    refine xr_if_ne (tgt := 21) (off := 7) (by decide +kernel) (by decide) (fun hc => ?_) (fun hc => ?_)
    · replace h := h.1 hc
      obtain ⟨hb1, h⟩ := h
      refine xr_blk (lv1 := [(0, .ref 80), (1, .int x1), (2, .int x2)]) (st1 := [.int ((gA v 135) ((x2 - (nI 1))).toNatClampNeg)]) (S1 := rt v) (pc1 := 29) [(.aload_n 0, .null, 0, 0), (.getfield 178, .null, 12, 81), (.iload_n 2, .null, 0, 0), (.iconst 1, .int (nI 1), 0, 0), (.isub, .null, 0, 0), (.iaload, .null, 0, 0)] [((x2 - (nI 1)), 10)] (by decide +kernel) rfl ⟨hb1, trivial⟩ ?_
      refine xr_topi (fun y2 ey2 => ?_)
      replace h := h y2 ey2
      obtain ⟨hb3, h⟩ := h
      refine xr_blk (lv1 := [(3, .int y2), (0, .ref 80), (1, .int x1), (2, .int x2)]) (st1 := [.int (((gA v 134) (x2).toNatClampNeg) + (nI 1))]) (S1 := rt v) (pc1 := 38) [(.istore_n 3, .null, 0, 0), (.aload_n 0, .null, 0, 0), (.getfield 175, .null, 12, 80), (.iload_n 2, .null, 0, 0), (.iaload, .null, 0, 0), (.iconst 1, .int (nI 1), 0, 0), (.iadd, .null, 0, 0)] [(x2, 10)] (by decide +kernel) rfl ⟨hb3, trivial⟩ ?_
      refine xr_topi (fun y4 ey4 => ?_)
      replace h := h y4 ey4
      refine xr_blk (lv1 := [(4, .int y4), (3, .int y2), (0, .ref 80), (1, .int x1), (2, .int x2)]) (st1 := []) (S1 := rt v) (pc1 := 40) [(.istore 4, .null, 0, 0)] [] (by decide +kernel) rfl trivial ?_
      exact x_R.sub [2, 3, 4, 1, 0] rfl h
    · replace h := h.2 hc
      refine xr_blk (lv1 := [(0, .ref 80), (1, .int x1), (2, .int x2)]) (st1 := [.int (-1)]) (S1 := rt v) (pc1 := 18) [(.iconst (-1), .int (-1), 0, 0)] [] (by decide +kernel) rfl trivial ?_
      refine xr_goto (tgt := 29) (off := 11) (by decide +kernel) (by decide) ?_
      obtain ⟨hb5, h⟩ := h
      refine xr_blk (lv1 := [(3, .int (-1)), (0, .ref 80), (1, .int x1), (2, .int x2)]) (st1 := [.int (((gA v 134) (x2).toNatClampNeg) + (nI 1))]) (S1 := rt v) (pc1 := 38) [(.istore_n 3, .null, 0, 0), (.aload_n 0, .null, 0, 0), (.getfield 175, .null, 12, 80), (.iload_n 2, .null, 0, 0), (.iaload, .null, 0, 0), (.iconst 1, .int (nI 1), 0, 0), (.iadd, .null, 0, 0)] [(x2, 10)] (by decide +kernel) rfl ⟨hb5, trivial⟩ ?_
      refine xr_topi (fun y6 ey6 => ?_)
      replace h := h y6 ey6
      refine xr_blk (lv1 := [(4, .int y6), (3, .int (-1)), (0, .ref 80), (1, .int x1), (2, .int x2)]) (st1 := []) (S1 := rt v) (pc1 := 40) [(.istore 4, .null, 0, 0)] [] (by decide +kernel) rfl trivial ?_
      exact x_R.sub [2, 3, 4, 1, 0] rfl h
set_option maxRecDepth 100000 in
theorem w_X12_partInto_40 {E : Nat × (Nat → Int32)} {d : Nat} {v : xV} {x1 : Int32} {x2 : Int32} {x3 : Int32} {x4 : Int32} {Q : Int32 → xV → Prop} (h : (((x3 + (nI 1)) < x4 → RI E (d + 1) 218 70 [(0, .ref 80), (1, .int x1), (2, .int x2), (3, .int x3), (4, .int x4)] v Q) ∧ (¬ (x3 + (nI 1)) < x4 → ((x1 ≤ x4 → RI E (d + 1) 218 70 [(0, .ref 80), (1, .int x1), (2, .int x2), (3, .int x3), (4, .int x4)] v Q) ∧ (¬ x1 ≤ x4 → KI E d 217 [.ref 80, .int x2, .int x4] v (fun y2 v1 => ((¬ y2 = (nI 0) → RI E (d + 1) 218 70 [(0, .ref 80), (1, .int x1), (2, .int x2), (3, .int x3), (4, .int x4)] v1 Q) ∧ (y2 = (nI 0) → RI E (d + 1) 218 40 [(0, .ref 80), (1, .int x1), (2, .int x2), (3, .int x3), (4, .int (x4 + (nI 1)))] v1 Q)))))))) : RI E (d + 1) 218 40 [(0, .ref 80), (1, .int x1), (2, .int x2), (3, .int x3), (4, .int x4)] v Q := by
  unfold RI
  refine xr_blk (lv1 := [(0, .ref 80), (1, .int x1), (2, .int x2), (3, .int x3), (4, .int x4)]) (st1 := [.int (x3 + (nI 1)), .int x4]) (S1 := rt v) (pc1 := 45) [(.iload 4, .null, 0, 0), (.iload_n 3, .null, 0, 0), (.iconst 1, .int (nI 1), 0, 0), (.iadd, .null, 0, 0)] [] (by decide +kernel) rfl trivial ?_
  refine xr_ic_gt (tgt := 70) (off := 25) (by decide +kernel) (by decide) (fun hc => ?_) (fun hc => ?_)
  · replace h := h.1 hc
    exact x_R.sub [0, 1, 2, 3, 4] rfl h
  · replace h := h.2 hc
    refine xr_blk (lv1 := [(0, .ref 80), (1, .int x1), (2, .int x2), (3, .int x3), (4, .int x4)]) (st1 := [.int x1, .int x4]) (S1 := rt v) (pc1 := 51) [(.iload 4, .null, 0, 0), (.iload_n 1, .null, 0, 0)] [] (by decide +kernel) rfl trivial ?_
    refine xr_ic_ge (tgt := 70) (off := 19) (by decide +kernel) (by decide) (fun hc => ?_) (fun hc => ?_)
    · replace h := h.1 hc
      exact x_R.sub [0, 1, 2, 3, 4] rfl h
    · replace h := h.2 hc
      refine xr_blk (lv1 := [(0, .ref 80), (1, .int x1), (2, .int x2), (3, .int x3), (4, .int x4)]) (st1 := [.int x4, .int x2, .ref 80]) (S1 := rt v) (pc1 := 58) [(.aload_n 0, .null, 0, 0), (.iload_n 2, .null, 0, 0), (.iload 4, .null, 0, 0)] [] (by decide +kernel) rfl trivial ?_
      refine xk_VI (As := [.int x2, .int x4]) (bb := 80) (rest := []) (idx := 432) (i0 := 432) (m1 := 217) (ps := [1886, 1888, 97]) (by decide +kernel) (by decide +kernel) (by decide) rfl ((gK_s (by decide)).trans (by decide +kernel)) (by decide) (Nat.le_of_ble_eq_true rfl) rfl h (fun y2 v1 h => ?_)
      refine xr_if_ne (tgt := 70) (off := 9) (by decide +kernel) (by decide) (fun hc => ?_) (fun hc => ?_)
      · replace h := h.1 hc
        exact x_R.sub [0, 1, 2, 3, 4] rfl h
      · replace h := h.2 hc
        refine xr_blk (lv1 := [(4, .int (x4 + (nI 1))), (0, .ref 80), (1, .int x1), (2, .int x2), (3, .int x3)]) (st1 := []) (S1 := rt v1) (pc1 := 67) [(.iinc 4 1, .int (nI 1), 0, 0)] [] (by decide +kernel) rfl trivial ?_
        refine xr_goto (tgt := 40) (off := -27) (by decide +kernel) (by decide) ?_
        exact x_R.sub [1, 2, 3, 4, 0] rfl h
set_option maxRecDepth 100000 in
theorem w_X12_partInto_70 {E : Nat × (Nat → Int32)} {d : Nat} {v : xV} {x1 : Int32} {x2 : Int32} {x3 : Int32} {x4 : Int32} {Q : Int32 → xV → Prop} (h : (((x3 + (nI 1)) < x4 → RI E (d + 1) 218 9 [(0, .ref 80), (1, .int x1), (2, .int (x2 + (-1 : Int32)))] v Q) ∧ (¬ (x3 + (nI 1)) < x4 → ((x4 < x1 → vp_in x2 10 ∧ ∀ f2 : Nat → Int32, f2 = (upd (gA v 134) (x2).toNatClampNeg x4) → ((x4 ≤ x3 → vp_in x2 10 ∧ ∀ f4 : Nat → Int32, f4 = (upd (gA v 135) (x2).toNatClampNeg x3) → ((¬ (x2 + (nI 1)) = (gI v 80 82) → vp_in (x2 + (nI 1)) 10 ∧ ∀ f6 : Nat → Int32, f6 = (upd f2 ((x2 + (nI 1))).toNatClampNeg (-1 : Int32)) → RI E (d + 1) 218 9 [(0, .ref 80), (1, .int x1), (2, .int (x2 + (nI 1)))] (v_A (v_A (v_A v 134 f2) 135 f4) 134 f6) Q) ∧ ((x2 + (nI 1)) = (gI v 80 82) → Q (nI 1) (v_A (v_A v 134 f2) 135 f4)))) ∧ (¬ x4 ≤ x3 → vp_in x2 10 ∧ ∀ f8 : Nat → Int32, f8 = (upd (gA v 135) (x2).toNatClampNeg x4) → ((¬ (x2 + (nI 1)) = (gI v 80 82) → vp_in (x2 + (nI 1)) 10 ∧ ∀ f10 : Nat → Int32, f10 = (upd f2 ((x2 + (nI 1))).toNatClampNeg (-1 : Int32)) → RI E (d + 1) 218 9 [(0, .ref 80), (1, .int x1), (2, .int (x2 + (nI 1)))] (v_A (v_A (v_A v 134 f2) 135 f8) 134 f10) Q) ∧ ((x2 + (nI 1)) = (gI v 80 82) → Q (nI 1) (v_A (v_A v 134 f2) 135 f8)))))) ∧ (¬ x4 < x1 → RI E (d + 1) 218 9 [(0, .ref 80), (1, .int x1), (2, .int (x2 + (-1 : Int32)))] v Q))))) : RI E (d + 1) 218 70 [(0, .ref 80), (1, .int x1), (2, .int x2), (3, .int x3), (4, .int x4)] v Q := by
  unfold RI
  refine xr_blk (lv1 := [(0, .ref 80), (1, .int x1), (2, .int x2), (3, .int x3), (4, .int x4)]) (st1 := [.int (x3 + (nI 1)), .int x4]) (S1 := rt v) (pc1 := 75) [(.iload 4, .null, 0, 0), (.iload_n 3, .null, 0, 0), (.iconst 1, .int (nI 1), 0, 0), (.iadd, .null, 0, 0)] [] (by decide +kernel) rfl trivial ?_
  refine xr_ic_gt (tgt := 84) (off := 9) (by decide +kernel) (by decide) (fun hc => ?_) (fun hc => ?_)
  · replace h := h.1 hc
    refine xr_blk (lv1 := [(2, .int (x2 + (-1 : Int32))), (0, .ref 80), (1, .int x1), (3, .int x3), (4, .int x4)]) (st1 := []) (S1 := rt v) (pc1 := 87) [(.iinc 2 (-1), .int (-1), 0, 0)] [] (by decide +kernel) rfl trivial ?_
    refine xr_goto (tgt := 9) (off := -78) (by decide +kernel) (by decide) ?_
    exact x_R.sub [1, 2, 0] rfl h
  · replace h := h.2 hc
    refine xr_blk (lv1 := [(0, .ref 80), (1, .int x1), (2, .int x2), (3, .int x3), (4, .int x4)]) (st1 := [.int x1, .int x4]) (S1 := rt v) (pc1 := 81) [(.iload 4, .null, 0, 0), (.iload_n 1, .null, 0, 0)] [] (by decide +kernel) rfl trivial ?_
    refine xr_ic_lt (tgt := 90) (off := 9) (by decide +kernel) (by decide) (fun hc => ?_) (fun hc => ?_)
    · replace h := h.1 hc
      obtain ⟨hb1, h⟩ := h
      refine xr_blk (lv1 := [(0, .ref 80), (1, .int x1), (2, .int x2), (3, .int x3), (4, .int x4)]) (st1 := [.int x3, .int x4, .int x2, .ref 135]) (S1 := rt (v_A v 134 (upd (gA v 134) (x2).toNatClampNeg x4))) (pc1 := 106) [(.aload_n 0, .null, 0, 0), (.getfield 175, .null, 12, 80), (.iload_n 2, .null, 0, 0), (.iload 4, .null, 0, 0), (.iastore, .null, 0, 0), (.aload_n 0, .null, 0, 0), (.getfield 178, .null, 12, 81), (.iload_n 2, .null, 0, 0), (.iload 4, .null, 0, 0), (.iload_n 3, .null, 0, 0)] [(x2, 10)] (by decide +kernel) rfl ⟨hb1, trivial⟩ ?_
      refine (fun (k : ∀ f2 : Nat → Int32, f2 = (upd (gA v 134) (x2).toNatClampNeg x4) → x_R E (d + 1) 218 106 [(0, .ref 80), (1, .int x1), (2, .int x2), (3, .int x3), (4, .int x4)] [.int x3, .int x4, .int x2, .ref 135] (rt (v_A v 134 f2)) _) => k _ rfl) (fun f2 ef2 => ?_)
      replace h := h f2 ef2
      refine xr_ic_le (tgt := 114) (off := 8) (by decide +kernel) (by decide) (fun hc => ?_) (fun hc => ?_)
      · replace h := h.1 hc
        obtain ⟨hb3, h⟩ := h
        refine xr_blk (lv1 := [(2, .int (x2 + (nI 1))), (0, .ref 80), (1, .int x1), (3, .int x3), (4, .int x4)]) (st1 := [.int (gI v 80 82), .int (x2 + (nI 1))]) (S1 := rt (v_A (v_A v 134 f2) 135 (upd (gA v 135) (x2).toNatClampNeg x3))) (pc1 := 124) [(.iload_n 3, .null, 0, 0), (.iastore, .null, 0, 0), (.iinc 2 1, .int (nI 1), 0, 0), (.iload_n 2, .null, 0, 0), (.aload_n 0, .null, 0, 0), (.getfield 435, .null, 12, 82)] [(x2, 10)] (by decide +kernel) rfl ⟨hb3, trivial⟩ ?_
        refine (fun (k : ∀ f4 : Nat → Int32, f4 = (upd (gA v 135) (x2).toNatClampNeg x3) → x_R E (d + 1) 218 124 [(2, .int (x2 + (nI 1))), (0, .ref 80), (1, .int x1), (3, .int x3), (4, .int x4)] [.int (gI v 80 82), .int (x2 + (nI 1))] (rt (v_A (v_A v 134 f2) 135 f4)) _) => k _ rfl) (fun f4 ef4 => ?_)
        replace h := h f4 ef4
        refine xr_ic_ne (tgt := 129) (off := 5) (by decide +kernel) (by decide) (fun hc => ?_) (fun hc => ?_)
        · replace h := h.1 hc
          obtain ⟨hb5, h⟩ := h
          refine xr_blk (lv1 := [(2, .int (x2 + (nI 1))), (0, .ref 80), (1, .int x1), (3, .int x3), (4, .int x4)]) (st1 := []) (S1 := rt (v_A (v_A (v_A v 134 f2) 135 f4) 134 (upd f2 ((x2 + (nI 1))).toNatClampNeg (-1 : Int32)))) (pc1 := 136) [(.aload_n 0, .null, 0, 0), (.getfield 175, .null, 12, 80), (.iload_n 2, .null, 0, 0), (.iconst (-1), .int (-1), 0, 0), (.iastore, .null, 0, 0)] [((x2 + (nI 1)), 10)] (by decide +kernel) rfl ⟨hb5, trivial⟩ ?_
          refine (fun (k : ∀ f6 : Nat → Int32, f6 = (upd f2 ((x2 + (nI 1))).toNatClampNeg (-1 : Int32)) → x_R E (d + 1) 218 136 [(2, .int (x2 + (nI 1))), (0, .ref 80), (1, .int x1), (3, .int x3), (4, .int x4)] [] (rt (v_A (v_A (v_A v 134 f2) 135 f4) 134 f6)) _) => k _ rfl) (fun f6 ef6 => ?_)
          replace h := h f6 ef6
          refine xr_goto (tgt := 9) (off := -127) (by decide +kernel) (by decide) ?_
          exact x_R.sub [1, 2, 0] rfl h
        · replace h := h.2 hc
          refine xr_blk (lv1 := [(2, .int (x2 + (nI 1))), (0, .ref 80), (1, .int x1), (3, .int x3), (4, .int x4)]) (st1 := [.int (nI 1)]) (S1 := rt (v_A (v_A v 134 f2) 135 f4)) (pc1 := 128) [(.iconst 1, .int (nI 1), 0, 0)] [] (by decide +kernel) rfl trivial ?_
          exact xr_zret (by decide +kernel) rfl x_in2_1 ⟨_, _, rfl, rfl, h⟩
      · replace h := h.2 hc
        refine xr_blk (lv1 := [(0, .ref 80), (1, .int x1), (2, .int x2), (3, .int x3), (4, .int x4)]) (st1 := [.int x4, .int x2, .ref 135]) (S1 := rt (v_A v 134 f2)) (pc1 := 111) [(.iload 4, .null, 0, 0)] [] (by decide +kernel) rfl trivial ?_
        refine xr_goto (tgt := 115) (off := 4) (by decide +kernel) (by decide) ?_
        obtain ⟨hb7, h⟩ := h
        refine xr_blk (lv1 := [(2, .int (x2 + (nI 1))), (0, .ref 80), (1, .int x1), (3, .int x3), (4, .int x4)]) (st1 := [.int (gI v 80 82), .int (x2 + (nI 1))]) (S1 := rt (v_A (v_A v 134 f2) 135 (upd (gA v 135) (x2).toNatClampNeg x4))) (pc1 := 124) [(.iastore, .null, 0, 0), (.iinc 2 1, .int (nI 1), 0, 0), (.iload_n 2, .null, 0, 0), (.aload_n 0, .null, 0, 0), (.getfield 435, .null, 12, 82)] [(x2, 10)] (by decide +kernel) rfl ⟨hb7, trivial⟩ ?_
        refine (fun (k : ∀ f8 : Nat → Int32, f8 = (upd (gA v 135) (x2).toNatClampNeg x4) → x_R E (d + 1) 218 124 [(2, .int (x2 + (nI 1))), (0, .ref 80), (1, .int x1), (3, .int x3), (4, .int x4)] [.int (gI v 80 82), .int (x2 + (nI 1))] (rt (v_A (v_A v 134 f2) 135 f8)) _) => k _ rfl) (fun f8 ef8 => ?_)
        replace h := h f8 ef8
        refine xr_ic_ne (tgt := 129) (off := 5) (by decide +kernel) (by decide) (fun hc => ?_) (fun hc => ?_)
        · replace h := h.1 hc
          obtain ⟨hb9, h⟩ := h
          refine xr_blk (lv1 := [(2, .int (x2 + (nI 1))), (0, .ref 80), (1, .int x1), (3, .int x3), (4, .int x4)]) (st1 := []) (S1 := rt (v_A (v_A (v_A v 134 f2) 135 f8) 134 (upd f2 ((x2 + (nI 1))).toNatClampNeg (-1 : Int32)))) (pc1 := 136) [(.aload_n 0, .null, 0, 0), (.getfield 175, .null, 12, 80), (.iload_n 2, .null, 0, 0), (.iconst (-1), .int (-1), 0, 0), (.iastore, .null, 0, 0)] [((x2 + (nI 1)), 10)] (by decide +kernel) rfl ⟨hb9, trivial⟩ ?_
          refine (fun (k : ∀ f10 : Nat → Int32, f10 = (upd f2 ((x2 + (nI 1))).toNatClampNeg (-1 : Int32)) → x_R E (d + 1) 218 136 [(2, .int (x2 + (nI 1))), (0, .ref 80), (1, .int x1), (3, .int x3), (4, .int x4)] [] (rt (v_A (v_A (v_A v 134 f2) 135 f8) 134 f10)) _) => k _ rfl) (fun f10 ef10 => ?_)
          replace h := h f10 ef10
          refine xr_goto (tgt := 9) (off := -127) (by decide +kernel) (by decide) ?_
          exact x_R.sub [1, 2, 0] rfl h
        · replace h := h.2 hc
          refine xr_blk (lv1 := [(2, .int (x2 + (nI 1))), (0, .ref 80), (1, .int x1), (3, .int x3), (4, .int x4)]) (st1 := [.int (nI 1)]) (S1 := rt (v_A (v_A v 134 f2) 135 f8)) (pc1 := 128) [(.iconst 1, .int (nI 1), 0, 0)] [] (by decide +kernel) rfl trivial ?_
          exact xr_zret (by decide +kernel) rfl x_in2_1 ⟨_, _, rfl, rfl, h⟩
    · replace h := h.2 hc
      refine xr_blk (lv1 := [(2, .int (x2 + (-1 : Int32))), (0, .ref 80), (1, .int x1), (3, .int x3), (4, .int x4)]) (st1 := []) (S1 := rt v) (pc1 := 87) [(.iinc 2 (-1), .int (-1), 0, 0)] [] (by decide +kernel) rfl trivial ?_
      refine xr_goto (tgt := 9) (off := -78) (by decide +kernel) (by decide) ?_
      exact x_R.sub [1, 2, 0] rfl h
theorem ok_218 : x_mOK 218 := ⟨x_tm8 (List.mem_of_getElem? (i := 105) rfl) rfl, 114, by decide +kernel⟩
/-! X12_partAll: method 219, ScrawlHouseModel.partAll(II)V -/
set_option maxRecDepth 100000 in
theorem w_X12_partAll_0 {E : Nat × (Nat → Int32)} {d : Nat} {v : xV} {x1 : Int32} {x2 : Int32} {Q : xV → Prop} (h : KV E d 211 [.ref 80, .int x2] v (fun v1 => RV E (d + 1) 219 17 [(0, .ref 80), (1, .int x1), (2, .int x2), (3, .int (nI 0))] (v_I (v_I v1 80 82 (nI 0)) 80 83 (nI 0)) Q)) : RV E (d + 1) 219 0 [(0, .ref 80), (1, .int x1), (2, .int x2)] v Q := by
  unfold RV
  refine xr_blk (lv1 := [(0, .ref 80), (1, .int x1), (2, .int x2)]) (st1 := [.int x2, .ref 80]) (S1 := rt v) (pc1 := 2) [(.aload_n 0, .null, 0, 0), (.iload_n 2, .null, 0, 0)] [] (by decide +kernel) rfl trivial ?_
  refine xk_VV (As := [.int x2]) (bb := 80) (rest := []) (idx := 420) (i0 := 420) (m1 := 211) (ps := [1858, 1860, 91]) (by decide +kernel) (by decide +kernel) (by decide) rfl ((gK_s (by decide)).trans (by decide +kernel)) (by decide) (Nat.le_of_ble_eq_true rfl) rfl h (fun v1 h => ?_)
  refine xr_blk (lv1 := [(3, .int (nI 0)), (0, .ref 80), (1, .int x1), (2, .int x2)]) (st1 := []) (S1 := rt (v_I (v_I v1 80 82 (nI 0)) 80 83 (nI 0))) (pc1 := 17) [(.aload_n 0, .null, 0, 0), (.iconst 0, .int (nI 0), 0, 0), (.putfield 435, .null, 12, 82), (.aload_n 0, .null, 0, 0), (.iconst 0, .int (nI 0), 0, 0), (.putfield 438, .null, 12, 83), (.iconst 0, .int (nI 0), 0, 0), (.istore_n 3, .null, 0, 0)] [] (by decide +kernel) rfl trivial ?_
  exact x_R.sub [1, 2, 3, 0] rfl h
set_option maxRecDepth 100000 in
theorem w_X12_partAll_17 {E : Nat × (Nat → Int32)} {d : Nat} {v : xV} {x1 : Int32} {x2 : Int32} {x3 : Int32} {Q : xV → Prop} (h : (((gI v 80 50) ≤ x3 → RV E (d + 1) 219 83 [(0, .ref 80)] v Q) ∧ (¬ (gI v 80 50) ≤ x3 → (((nI 10) ≤ (gI v 80 82) → RV E (d + 1) 219 83 [(0, .ref 80)] v Q) ∧ (¬ (nI 10) ≤ (gI v 80 82) → vp_in x3 20 ∧ ((x2 < ((gA v 103) (x3).toNatClampNeg) → RV E (d + 1) 219 17 [(0, .ref 80), (1, .int x1), (2, .int x2), (3, .int (x3 + (nI 1)))] v Q) ∧ (¬ x2 < ((gA v 103) (x3).toNatClampNeg) → KI E d 190 [.ref 80, .int x3, .int (nI 0)] v (fun y3 v2 => ((y3 = x1 → vp_in (gI v2 80 82) 10 ∧ RV E (d + 1) 219 17 [(0, .ref 80), (1, .int x1), (2, .int x2), (3, .int (x3 + (nI 1)))] (v_I (v_A v2 132 (upd (gA v2 132) ((gI v2 80 82)).toNatClampNeg x3)) 80 82 ((gI v2 80 82) + (nI 1))) Q) ∧ (¬ y3 = x1 → RV E (d + 1) 219 17 [(0, .ref 80), (1, .int x1), (2, .int x2), (3, .int (x3 + (nI 1)))] v2 Q)))))))))) : RV E (d + 1) 219 17 [(0, .ref 80), (1, .int x1), (2, .int x2), (3, .int x3)] v Q := by
  unfold RV
  refine xr_blk (lv1 := [(0, .ref 80), (1, .int x1), (2, .int x2), (3, .int x3)]) (st1 := [.int (gI v 80 50), .int x3]) (S1 := rt v) (pc1 := 22) [(.iload_n 3, .null, 0, 0), (.aload_n 0, .null, 0, 0), (.getfield 297, .null, 12, 50)] [] (by decide +kernel) rfl trivial ?_
  refine xr_ic_ge (tgt := 83) (off := 61) (by decide +kernel) (by decide) (fun hc => ?_) (fun hc => ?_)
  · replace h := h.1 hc
    exact x_R.sub [0] rfl h
  · replace h := h.2 hc
    refine xr_blk (lv1 := [(0, .ref 80), (1, .int x1), (2, .int x2), (3, .int x3)]) (st1 := [.int (nI 10), .int (gI v 80 82)]) (S1 := rt v) (pc1 := 31) [(.aload_n 0, .null, 0, 0), (.getfield 435, .null, 12, 82), (.bipush 10, .int (nI 10), 0, 0)] [] (by decide +kernel) rfl trivial ?_
    refine xr_ic_ge (tgt := 83) (off := 52) (by decide +kernel) (by decide) (fun hc => ?_) (fun hc => ?_)
    · replace h := h.1 hc
      exact x_R.sub [0] rfl h
    · replace h := h.2 hc
      obtain ⟨hb1, h⟩ := h
      refine xr_blk (lv1 := [(0, .ref 80), (1, .int x1), (2, .int x2), (3, .int x3)]) (st1 := [.int x2, .int ((gA v 103) (x3).toNatClampNeg)]) (S1 := rt v) (pc1 := 41) [(.aload_n 0, .null, 0, 0), (.getfield 81, .null, 12, 41), (.iload_n 3, .null, 0, 0), (.iaload, .null, 0, 0), (.iload_n 2, .null, 0, 0)] [(x3, 20)] (by decide +kernel) rfl ⟨hb1, trivial⟩ ?_
      refine xr_ic_gt (tgt := 77) (off := 36) (by decide +kernel) (by decide) (fun hc => ?_) (fun hc => ?_)
      · replace h := h.1 hc
        refine xr_blk (lv1 := [(3, .int (x3 + (nI 1))), (0, .ref 80), (1, .int x1), (2, .int x2)]) (st1 := []) (S1 := rt v) (pc1 := 80) [(.iinc 3 1, .int (nI 1), 0, 0)] [] (by decide +kernel) rfl trivial ?_
        refine xr_goto (tgt := 17) (off := -63) (by decide +kernel) (by decide) ?_
        exact x_R.sub [1, 2, 3, 0] rfl h
      · replace h := h.2 hc
        refine xr_blk (lv1 := [(0, .ref 80), (1, .int x1), (2, .int x2), (3, .int x3)]) (st1 := [.int (nI 0), .int x3, .ref 80]) (S1 := rt v) (pc1 := 47) [(.aload_n 0, .null, 0, 0), (.iload_n 3, .null, 0, 0), (.iconst 0, .int (nI 0), 0, 0)] [] (by decide +kernel) rfl trivial ?_
        refine xk_VI (As := [.int x3, .int (nI 0)]) (bb := 80) (rest := []) (idx := 368) (i0 := 368) (m1 := 190) (ps := [1779, 1781, 79]) (by decide +kernel) (by decide +kernel) (by decide) rfl ((gK_s (by decide)).trans (by decide +kernel)) (by decide) (Nat.le_of_ble_eq_true rfl) rfl h (fun y3 v2 h => ?_)
        refine xr_blk (lv1 := [(0, .ref 80), (1, .int x1), (2, .int x2), (3, .int x3)]) (st1 := [.int x1, .int y3]) (S1 := rt v2) (pc1 := 51) [(.iload_n 1, .null, 0, 0)] [] (by decide +kernel) rfl trivial ?_
        refine xr_ic_eq (tgt := 57) (off := 6) (by decide +kernel) (by decide) (fun hc => ?_) (fun hc => ?_)
        · replace h := h.1 hc
          obtain ⟨hb4, h⟩ := h
          refine xr_blk (lv1 := [(3, .int (x3 + (nI 1))), (0, .ref 80), (1, .int x1), (2, .int x2)]) (st1 := []) (S1 := rt (v_I (v_A v2 132 (upd (gA v2 132) ((gI v2 80 82)).toNatClampNeg x3)) 80 82 ((gI v2 80 82) + (nI 1)))) (pc1 := 80) [(.aload_n 0, .null, 0, 0), (.getfield 169, .null, 12, 78), (.aload_n 0, .null, 0, 0), (.getfield 435, .null, 12, 82), (.iload_n 3, .null, 0, 0), (.iastore, .null, 0, 0), (.aload_n 0, .null, 0, 0), (.dup, .null, 0, 0), (.getfield 435, .null, 12, 82), (.iconst 1, .int (nI 1), 0, 0), (.iadd, .null, 0, 0), (.putfield 435, .null, 12, 82), (.iinc 3 1, .int (nI 1), 0, 0)] [((gI v2 80 82), 10)] (by decide +kernel) rfl ⟨hb4, trivial⟩ ?_
          refine xr_goto (tgt := 17) (off := -63) (by decide +kernel) (by decide) ?_
          exact x_R.sub [1, 2, 3, 0] rfl h
        · replace h := h.2 hc
          refine xr_goto (tgt := 77) (off := 23) (by decide +kernel) (by decide) ?_
          refine xr_blk (lv1 := [(3, .int (x3 + (nI 1))), (0, .ref 80), (1, .int x1), (2, .int x2)]) (st1 := []) (S1 := rt v2) (pc1 := 80) [(.iinc 3 1, .int (nI 1), 0, 0)] [] (by decide +kernel) rfl trivial ?_
          refine xr_goto (tgt := 17) (off := -63) (by decide +kernel) (by decide) ?_
          exact x_R.sub [1, 2, 3, 0] rfl h
set_option maxRecDepth 100000 in
theorem w_X12_partAll_83 {E : Nat × (Nat → Int32)} {d : Nat} {v : xV} {Q : xV → Prop} (h : ((¬ (gI v 80 82) = (nI 0) → RV E (d + 1) 219 96 [(0, .ref 80)] (v_I v 80 83 (nI 1)) Q) ∧ ((gI v 80 82) = (nI 0) → Q v))) : RV E (d + 1) 219 83 [(0, .ref 80)] v Q := by
  unfold RV
  refine xr_blk (lv1 := [(0, .ref 80)]) (st1 := [.int (gI v 80 82)]) (S1 := rt v) (pc1 := 87) [(.aload_n 0, .null, 0, 0), (.getfield 435, .null, 12, 82)] [] (by decide +kernel) rfl trivial ?_
  refine xr_if_ne (tgt := 91) (off := 4) (by decide +kernel) (by decide) (fun hc => ?_) (fun hc => ?_)
  · replace h := h.1 hc
    refine xr_blk (lv1 := [(0, .ref 80)]) (st1 := []) (S1 := rt (v_I v 80 83 (nI 1))) (pc1 := 96) [(.aload_n 0, .null, 0, 0), (.iconst 1, .int (nI 1), 0, 0), (.putfield 438, .null, 12, 83)] [] (by decide +kernel) rfl trivial ?_
    exact x_R.sub [0] rfl h
  · replace h := h.2 hc
    exact xr_ret0 (by decide +kernel) rfl ⟨_, rfl, rfl, h⟩
set_option maxRecDepth 100000 in
theorem w_X12_partAll_96 {E : Nat × (Nat → Int32)} {d : Nat} {v : xV} {Q : xV → Prop} (h : KI E d 218 [.ref 80, .int (gI v 80 83)] v (fun y2 v1 => ((¬ y2 = (nI 0) → RV E (d + 1) 219 122 [(0, .ref 80), (3, .int (nI 0))] v1 Q) ∧ (y2 = (nI 0) → RV E (d + 1) 219 96 [(0, .ref 80)] (v_I v1 80 83 ((gI v1 80 83) + (nI 1))) Q)))) : RV E (d + 1) 219 96 [(0, .ref 80)] v Q := by
  unfold RV
  refine xr_blk (lv1 := [(0, .ref 80)]) (st1 := [.int (gI v 80 83), .ref 80]) (S1 := rt v) (pc1 := 101) [(.aload_n 0, .null, 0, 0), (.aload_n 0, .null, 0, 0), (.getfield 438, .null, 12, 83)] [] (by decide +kernel) rfl trivial ?_
  refine xk_VI (As := [.int (gI v 80 83)]) (bb := 80) (rest := []) (idx := 441) (i0 := 441) (m1 := 218) (ps := [1882, 1884, 96]) (by decide +kernel) (by decide +kernel) (by decide) rfl ((gK_s (by decide)).trans (by decide +kernel)) (by decide) (Nat.le_of_ble_eq_true rfl) rfl h (fun y2 v1 h => ?_)
  refine xr_if_ne (tgt := 120) (off := 16) (by decide +kernel) (by decide) (fun hc => ?_) (fun hc => ?_)
  · replace h := h.1 hc
    refine xr_blk (lv1 := [(3, .int (nI 0)), (0, .ref 80)]) (st1 := []) (S1 := rt v1) (pc1 := 122) [(.iconst 0, .int (nI 0), 0, 0), (.istore_n 3, .null, 0, 0)] [] (by decide +kernel) rfl trivial ?_
    exact x_R.sub [1, 0] rfl h
  · replace h := h.2 hc
    refine xr_blk (lv1 := [(0, .ref 80)]) (st1 := []) (S1 := rt (v_I v1 80 83 ((gI v1 80 83) + (nI 1)))) (pc1 := 117) [(.aload_n 0, .null, 0, 0), (.dup, .null, 0, 0), (.getfield 438, .null, 12, 83), (.iconst 1, .int (nI 1), 0, 0), (.iadd, .null, 0, 0), (.putfield 438, .null, 12, 83)] [] (by decide +kernel) rfl trivial ?_
    refine xr_goto (tgt := 96) (off := -21) (by decide +kernel) (by decide) ?_
    exact x_R.sub [0] rfl h
set_option maxRecDepth 100000 in
theorem w_X12_partAll_122 {E : Nat × (Nat → Int32)} {d : Nat} {v : xV} {x3 : Int32} {Q : xV → Prop} (h : (((gI v 80 82) ≤ x3 → Q v) ∧ (¬ (gI v 80 82) ≤ x3 → vp_in x3 10 ∧ vp_in x3 10 ∧ RV E (d + 1) 219 122 [(0, .ref 80), (3, .int (x3 + (nI 1)))] (v_A v 133 (upd (gA v 133) (x3).toNatClampNeg ((gA v 134) (x3).toNatClampNeg))) Q))) : RV E (d + 1) 219 122 [(0, .ref 80), (3, .int x3)] v Q := by
  unfold RV
  refine xr_blk (lv1 := [(0, .ref 80), (3, .int x3)]) (st1 := [.int (gI v 80 82), .int x3]) (S1 := rt v) (pc1 := 127) [(.iload_n 3, .null, 0, 0), (.aload_n 0, .null, 0, 0), (.getfield 435, .null, 12, 82)] [] (by decide +kernel) rfl trivial ?_
  refine xr_ic_ge (tgt := 148) (off := 21) (by decide +kernel) (by decide) (fun hc => ?_) (fun hc => ?_)
  · replace h := h.1 hc
    exact xr_ret0 (by decide +kernel) rfl ⟨_, rfl, rfl, h⟩
  · replace h := h.2 hc
    obtain ⟨hb1, h⟩ := h
    obtain ⟨hb2, h⟩ := h
    refine xr_blk (lv1 := [(3, .int (x3 + (nI 1))), (0, .ref 80)]) (st1 := []) (S1 := rt (v_A v 133 (upd (gA v 133) (x3).toNatClampNeg ((gA v 134) (x3).toNatClampNeg)))) (pc1 := 145) [(.aload_n 0, .null, 0, 0), (.getfield 172, .null, 12, 79), (.iload_n 3, .null, 0, 0), (.aload_n 0, .null, 0, 0), (.getfield 175, .null, 12, 80), (.iload_n 3, .null, 0, 0), (.iaload, .null, 0, 0), (.iastore, .null, 0, 0), (.iinc 3 1, .int (nI 1), 0, 0)] [(x3, 10), (x3, 10)] (by decide +kernel) rfl ⟨hb1, hb2, trivial⟩ ?_
    refine xr_goto (tgt := 122) (off := -23) (by decide +kernel) (by decide) ?_
    exact x_R.sub [1, 0] rfl h
theorem ok_219 : x_mOK 219 := ⟨x_tm8 (List.mem_of_getElem? (i := 101) rfl) rfl, 114, by decide +kernel⟩
/-! X12_persons: method 220, ScrawlHouseModel.persons(II)I -/
set_option maxRecDepth 100000 in
theorem w_X12_persons_0 {E : Nat × (Nat → Int32)} {d : Nat} {v : xV} {x1 : Int32} {x2 : Int32} {Q : Int32 → xV → Prop} (h : KI E d 196 [.ref 80, .int x1, .int (nI 0)] (v_I v 80 0 (nI 0)) (fun y2 v1 => ((¬ y2 = (nI 0) → KV E d 219 [.ref 80, .int x1, .int x2] v1 (fun v3 => Q (gI v3 80 83) v3)) ∧ (y2 = (nI 0) → Q (-1 : Int32) v1)))) : RI E (d + 1) 220 0 [(0, .ref 80), (1, .int x1), (2, .int x2)] v Q := by
  unfold RI
  refine xr_blk (lv1 := [(0, .ref 80), (1, .int x1), (2, .int x2)]) (st1 := [.int (nI 0), .int x1, .ref 80]) (S1 := rt (v_I v 80 0 (nI 0))) (pc1 := 8) [(.aload_n 0, .null, 0, 0), (.iconst 0, .int (nI 0), 0, 0), (.putfield 190, .null, 12, 0), (.aload_n 0, .null, 0, 0), (.iload_n 1, .null, 0, 0), (.iconst 0, .int (nI 0), 0, 0)] [] (by decide +kernel) rfl trivial ?_
  refine xk_VI (As := [.int x1, .int (nI 0)]) (bb := 80) (rest := []) (idx := 374) (i0 := 374) (m1 := 196) (ps := [1799, 1801, 81]) (by decide +kernel) (by decide +kernel) (by decide) rfl ((gK_s (by decide)).trans (by decide +kernel)) (by decide) (Nat.le_of_ble_eq_true rfl) rfl h (fun y2 v1 h => ?_)
  refine xr_if_ne (tgt := 16) (off := 5) (by decide +kernel) (by decide) (fun hc => ?_) (fun hc => ?_)
  · replace h := h.1 hc
    refine xr_blk (lv1 := [(0, .ref 80), (1, .int x1), (2, .int x2)]) (st1 := [.int x2, .int x1, .ref 80]) (S1 := rt v1) (pc1 := 19) [(.aload_n 0, .null, 0, 0), (.iload_n 1, .null, 0, 0), (.iload_n 2, .null, 0, 0)] [] (by decide +kernel) rfl trivial ?_
    refine xk_VV (As := [.int x1, .int x2]) (bb := 80) (rest := []) (idx := 444) (i0 := 444) (m1 := 219) (ps := [1878, 1880, 95]) (by decide +kernel) (by decide +kernel) (by decide) rfl ((gK_s (by decide)).trans (by decide +kernel)) (by decide) (Nat.le_of_ble_eq_true rfl) rfl h (fun v3 h => ?_)
    refine xr_blk (lv1 := [(0, .ref 80), (1, .int x1), (2, .int x2)]) (st1 := [.int (gI v3 80 83)]) (S1 := rt v3) (pc1 := 26) [(.aload_n 0, .null, 0, 0), (.getfield 438, .null, 12, 83)] [] (by decide +kernel) rfl trivial ?_
    exact xr_iret (by decide +kernel) rfl ⟨_, _, rfl, rfl, h⟩
  · replace h := h.2 hc
    refine xr_blk (lv1 := [(0, .ref 80), (1, .int x1), (2, .int x2)]) (st1 := [.int (-1)]) (S1 := rt v1) (pc1 := 15) [(.iconst (-1), .int (-1), 0, 0)] [] (by decide +kernel) rfl trivial ?_
    exact xr_iret (by decide +kernel) rfl ⟨_, _, rfl, rfl, h⟩
theorem ok_220 : x_mOK 220 := ⟨x_tm8 (List.mem_of_getElem? (i := 97) rfl) rfl, 114, by decide +kernel⟩
/-! X12_person: method 221, ScrawlHouseModel.person(II)I -/
set_option maxRecDepth 100000 in
theorem w_X12_person_0 {E : Nat × (Nat → Int32)} {d : Nat} {v : xV} {x1 : Int32} {x2 : Int32} {Q : Int32 → xV → Prop} (h : KI E d 173 [.ref 80, .int x1, .int x2] (v_I v 80 0 (nI 0)) (fun y2 v1 => ((¬ y2 = (nI 0) → KV E d 182 [.ref 80, .int x2] v1 (fun v3 => KI E d 190 [.ref 80, .int x1, .int (nI 0)] v3 (fun y5 v4 => ((¬ y5 = (-1 : Int32) → KV E d 219 [.ref 80, .int y5, .int x2] v4 (fun v6 => RI E (d + 1) 221 44 [(0, .ref 80), (1, .int x1), (4, .int (nI 0))] v6 Q)) ∧ (y5 = (-1 : Int32) → Q (-1 : Int32) v4))))) ∧ (y2 = (nI 0) → Q (-1 : Int32) v1)))) : RI E (d + 1) 221 0 [(0, .ref 80), (1, .int x1), (2, .int x2)] v Q := by
  unfold RI
  refine xr_blk (lv1 := [(0, .ref 80), (1, .int x1), (2, .int x2)]) (st1 := [.int x2, .int x1, .ref 80]) (S1 := rt (v_I v 80 0 (nI 0))) (pc1 := 8) [(.aload_n 0, .null, 0, 0), (.iconst 0, .int (nI 0), 0, 0), (.putfield 190, .null, 12, 0), (.aload_n 0, .null, 0, 0), (.iload_n 1, .null, 0, 0), (.iload_n 2, .null, 0, 0)] [] (by decide +kernel) rfl trivial ?_
  refine xk_VI (As := [.int x1, .int x2]) (bb := 80) (rest := []) (idx := 321) (i0 := 321) (m1 := 173) (ps := [1712, 1714, 67]) (by decide +kernel) (by decide +kernel) (by decide) rfl ((gK_s (by decide)).trans (by decide +kernel)) (by decide) (Nat.le_of_ble_eq_true rfl) rfl h (fun y2 v1 h => ?_)
  refine xr_if_ne (tgt := 16) (off := 5) (by decide +kernel) (by decide) (fun hc => ?_) (fun hc => ?_)
  · replace h := h.1 hc
    refine xr_blk (lv1 := [(0, .ref 80), (1, .int x1), (2, .int x2)]) (st1 := [.int x2, .ref 80]) (S1 := rt v1) (pc1 := 18) [(.aload_n 0, .null, 0, 0), (.iload_n 2, .null, 0, 0)] [] (by decide +kernel) rfl trivial ?_
    refine xk_VV (As := [.int x2]) (bb := 80) (rest := []) (idx := 356) (i0 := 356) (m1 := 182) (ps := [1736, 1738, 71]) (by decide +kernel) (by decide +kernel) (by decide) rfl ((gK_s (by decide)).trans (by decide +kernel)) (by decide) (Nat.le_of_ble_eq_true rfl) rfl h (fun v3 h => ?_)
    refine xr_blk (lv1 := [(0, .ref 80), (1, .int x1), (2, .int x2)]) (st1 := [.int (nI 0), .int x1, .ref 80]) (S1 := rt v3) (pc1 := 24) [(.aload_n 0, .null, 0, 0), (.iload_n 1, .null, 0, 0), (.iconst 0, .int (nI 0), 0, 0)] [] (by decide +kernel) rfl trivial ?_
    refine xk_VI (As := [.int x1, .int (nI 0)]) (bb := 80) (rest := []) (idx := 368) (i0 := 368) (m1 := 190) (ps := [1779, 1781, 79]) (by decide +kernel) (by decide +kernel) (by decide) rfl ((gK_s (by decide)).trans (by decide +kernel)) (by decide) (Nat.le_of_ble_eq_true rfl) rfl h (fun y5 v4 h => ?_)
    refine xr_blk (lv1 := [(3, .int y5), (0, .ref 80), (1, .int x1), (2, .int x2)]) (st1 := [.int (-1), .int y5]) (S1 := rt v4) (pc1 := 30) [(.istore_n 3, .null, 0, 0), (.iload_n 3, .null, 0, 0), (.iconst (-1), .int (-1), 0, 0)] [] (by decide +kernel) rfl trivial ?_
    refine xr_ic_ne (tgt := 35) (off := 5) (by decide +kernel) (by decide) (fun hc => ?_) (fun hc => ?_)
    · replace h := h.1 hc
      refine xr_blk (lv1 := [(3, .int y5), (0, .ref 80), (1, .int x1), (2, .int x2)]) (st1 := [.int x2, .int y5, .ref 80]) (S1 := rt v4) (pc1 := 38) [(.aload_n 0, .null, 0, 0), (.iload_n 3, .null, 0, 0), (.iload_n 2, .null, 0, 0)] [] (by decide +kernel) rfl trivial ?_
      refine xk_VV (As := [.int y5, .int x2]) (bb := 80) (rest := []) (idx := 444) (i0 := 444) (m1 := 219) (ps := [1878, 1880, 95]) (by decide +kernel) (by decide +kernel) (by decide) rfl ((gK_s (by decide)).trans (by decide +kernel)) (by decide) (Nat.le_of_ble_eq_true rfl) rfl h (fun v6 h => ?_)
      refine xr_blk (lv1 := [(4, .int (nI 0)), (3, .int y5), (0, .ref 80), (1, .int x1), (2, .int x2)]) (st1 := []) (S1 := rt v6) (pc1 := 44) [(.iconst 0, .int (nI 0), 0, 0), (.istore 4, .null, 0, 0)] [] (by decide +kernel) rfl trivial ?_
      exact x_R.sub [2, 3, 0] rfl h
    · replace h := h.2 hc
      refine xr_blk (lv1 := [(3, .int y5), (0, .ref 80), (1, .int x1), (2, .int x2)]) (st1 := [.int (-1)]) (S1 := rt v4) (pc1 := 34) [(.iconst (-1), .int (-1), 0, 0)] [] (by decide +kernel) rfl trivial ?_
      exact xr_iret (by decide +kernel) rfl ⟨_, _, rfl, rfl, h⟩
  · replace h := h.2 hc
    refine xr_blk (lv1 := [(0, .ref 80), (1, .int x1), (2, .int x2)]) (st1 := [.int (-1)]) (S1 := rt v1) (pc1 := 15) [(.iconst (-1), .int (-1), 0, 0)] [] (by decide +kernel) rfl trivial ?_
    exact xr_iret (by decide +kernel) rfl ⟨_, _, rfl, rfl, h⟩
set_option maxRecDepth 100000 in
theorem w_X12_person_44 {E : Nat × (Nat → Int32)} {d : Nat} {v : xV} {x1 : Int32} {x4 : Int32} {Q : Int32 → xV → Prop} (h : (((gI v 80 82) ≤ x4 → Q (-1 : Int32) v) ∧ (¬ (gI v 80 82) ≤ x4 → vp_in x4 10 ∧ ((¬ ((gA v 132) (x4).toNatClampNeg) = x1 → RI E (d + 1) 221 44 [(0, .ref 80), (1, .int x1), (4, .int (x4 + (nI 1)))] v Q) ∧ (((gA v 132) (x4).toNatClampNeg) = x1 → vp_in x4 10 ∧ Q ((gA v 133) (x4).toNatClampNeg) v))))) : RI E (d + 1) 221 44 [(0, .ref 80), (1, .int x1), (4, .int x4)] v Q := by
  unfold RI
  refine xr_blk (lv1 := [(0, .ref 80), (1, .int x1), (4, .int x4)]) (st1 := [.int (gI v 80 82), .int x4]) (S1 := rt v) (pc1 := 50) [(.iload 4, .null, 0, 0), (.aload_n 0, .null, 0, 0), (.getfield 435, .null, 12, 82)] [] (by decide +kernel) rfl trivial ?_
  refine xr_ic_ge (tgt := 78) (off := 28) (by decide +kernel) (by decide) (fun hc => ?_) (fun hc => ?_)
  · replace h := h.1 hc
    refine xr_blk (lv1 := [(0, .ref 80), (1, .int x1), (4, .int x4)]) (st1 := [.int (-1)]) (S1 := rt v) (pc1 := 79) [(.iconst (-1), .int (-1), 0, 0)] [] (by decide +kernel) rfl trivial ?_
    exact xr_iret (by decide +kernel) rfl ⟨_, _, rfl, rfl, h⟩
  · replace h := h.2 hc
    obtain ⟨hb1, h⟩ := h
    refine xr_blk (lv1 := [(0, .ref 80), (1, .int x1), (4, .int x4)]) (st1 := [.int x1, .int ((gA v 132) (x4).toNatClampNeg)]) (S1 := rt v) (pc1 := 61) [(.aload_n 0, .null, 0, 0), (.getfield 169, .null, 12, 78), (.iload 4, .null, 0, 0), (.iaload, .null, 0, 0), (.iload_n 1, .null, 0, 0)] [(x4, 10)] (by decide +kernel) rfl ⟨hb1, trivial⟩ ?_
    refine xr_ic_ne (tgt := 72) (off := 11) (by decide +kernel) (by decide) (fun hc => ?_) (fun hc => ?_)
    · replace h := h.1 hc
      refine xr_blk (lv1 := [(4, .int (x4 + (nI 1))), (0, .ref 80), (1, .int x1)]) (st1 := []) (S1 := rt v) (pc1 := 75) [(.iinc 4 1, .int (nI 1), 0, 0)] [] (by decide +kernel) rfl trivial ?_
      refine xr_goto (tgt := 44) (off := -31) (by decide +kernel) (by decide) ?_
      exact x_R.sub [1, 2, 0] rfl h
    · replace h := h.2 hc
      obtain ⟨hb2, h⟩ := h
      refine xr_blk (lv1 := [(0, .ref 80), (1, .int x1), (4, .int x4)]) (st1 := [.int ((gA v 133) (x4).toNatClampNeg)]) (S1 := rt v) (pc1 := 71) [(.aload_n 0, .null, 0, 0), (.getfield 172, .null, 12, 79), (.iload 4, .null, 0, 0), (.iaload, .null, 0, 0)] [(x4, 10)] (by decide +kernel) rfl ⟨hb2, trivial⟩ ?_
      exact xr_iret (by decide +kernel) rfl ⟨_, _, rfl, rfl, h⟩
theorem ok_221 : x_mOK 221 := ⟨x_tm8 (List.mem_of_getElem? (i := 117) rfl) rfl, 114, by decide +kernel⟩
/-! X12_measure: method 222, ScrawlHouseModel.measure()V -/
set_option maxRecDepth 100000 in
theorem w_X12_measure_0 {E : Nat × (Nat → Int32)} {d : Nat} {v : xV} {Q : xV → Prop} (h : RV E d 222 2 [(0, .ref 80), (1, .int (nI 0))] v Q) : RV E d 222 0 [(0, .ref 80)] v Q := by
  unfold RV
  refine xr_blk (lv1 := [(1, .int (nI 0)), (0, .ref 80)]) (st1 := []) (S1 := rt v) (pc1 := 2) [(.iconst 0, .int (nI 0), 0, 0), (.istore_n 1, .null, 0, 0)] [] (by decide +kernel) rfl trivial ?_
  exact x_R.sub [1, 0] rfl h
set_option maxRecDepth 100000 in
theorem w_X12_measure_2 {E : Nat × (Nat → Int32)} {d : Nat} {v : xV} {x1 : Int32} {Q : xV → Prop} (h : (((nI 12) ≤ x1 → RV E d 222 53 [(0, .ref 80), (1, .int (nI 0))] v Q) ∧ (¬ (nI 12) ≤ x1 → RV E d 222 10 [(0, .ref 80), (1, .int x1), (2, .int (nI 0))] v Q))) : RV E d 222 2 [(0, .ref 80), (1, .int x1)] v Q := by
  unfold RV
  refine xr_blk (lv1 := [(0, .ref 80), (1, .int x1)]) (st1 := [.int (nI 12), .int x1]) (S1 := rt v) (pc1 := 5) [(.iload_n 1, .null, 0, 0), (.bipush 12, .int (nI 12), 0, 0)] [] (by decide +kernel) rfl trivial ?_
  refine xr_ic_ge (tgt := 51) (off := 46) (by decide +kernel) (by decide) (fun hc => ?_) (fun hc => ?_)
  · replace h := h.1 hc
    refine xr_blk (lv1 := [(1, .int (nI 0)), (0, .ref 80)]) (st1 := []) (S1 := rt v) (pc1 := 53) [(.iconst 0, .int (nI 0), 0, 0), (.istore_n 1, .null, 0, 0)] [] (by decide +kernel) rfl trivial ?_
    exact x_R.sub [1, 0] rfl h
  · replace h := h.2 hc
    refine xr_blk (lv1 := [(2, .int (nI 0)), (0, .ref 80), (1, .int x1)]) (st1 := []) (S1 := rt v) (pc1 := 10) [(.iconst 0, .int (nI 0), 0, 0), (.istore_n 2, .null, 0, 0)] [] (by decide +kernel) rfl trivial ?_
    exact x_R.sub [1, 2, 0] rfl h
set_option maxRecDepth 100000 in
theorem w_X12_measure_10 {E : Nat × (Nat → Int32)} {d : Nat} {v : xV} {x1 : Int32} {x2 : Int32} {Q : xV → Prop} (h : (((nI 12) ≤ x2 → RV E d 222 2 [(0, .ref 80), (1, .int (x1 + (nI 1)))] v Q) ∧ (¬ (nI 12) ≤ x2 → ((¬ x1 = x2 → vp_in (((nI 12) * x1) + x2) 144 ∧ RV E d 222 10 [(0, .ref 80), (1, .int x1), (2, .int (x2 + (nI 1)))] (v_A v 136 (upd (gA v 136) ((((nI 12) * x1) + x2)).toNatClampNeg (nI 100000000))) Q) ∧ (x1 = x2 → vp_in (((nI 12) * x1) + x2) 144 ∧ RV E d 222 10 [(0, .ref 80), (1, .int x1), (2, .int (x2 + (nI 1)))] (v_A v 136 (upd (gA v 136) ((((nI 12) * x1) + x2)).toNatClampNeg (nI 0))) Q))))) : RV E d 222 10 [(0, .ref 80), (1, .int x1), (2, .int x2)] v Q := by
  unfold RV
  refine xr_blk (lv1 := [(0, .ref 80), (1, .int x1), (2, .int x2)]) (st1 := [.int (nI 12), .int x2]) (S1 := rt v) (pc1 := 13) [(.iload_n 2, .null, 0, 0), (.bipush 12, .int (nI 12), 0, 0)] [] (by decide +kernel) rfl trivial ?_
  refine xr_ic_ge (tgt := 45) (off := 32) (by decide +kernel) (by decide) (fun hc => ?_) (fun hc => ?_)
  · replace h := h.1 hc
    refine xr_blk (lv1 := [(1, .int (x1 + (nI 1))), (0, .ref 80), (2, .int x2)]) (st1 := []) (S1 := rt v) (pc1 := 48) [(.iinc 1 1, .int (nI 1), 0, 0)] [] (by decide +kernel) rfl trivial ?_
    refine xr_goto (tgt := 2) (off := -46) (by decide +kernel) (by decide) ?_
    exact x_R.sub [1, 0] rfl h
  · replace h := h.2 hc
    refine xr_blk (lv1 := [(0, .ref 80), (1, .int x1), (2, .int x2)]) (st1 := [.int x2, .int x1, .int (((nI 12) * x1) + x2), .ref 136]) (S1 := rt v) (pc1 := 28) [(.aload_n 0, .null, 0, 0), (.getfield 181, .null, 12, 84), (.bipush 12, .int (nI 12), 0, 0), (.iload_n 1, .null, 0, 0), (.imul, .null, 0, 0), (.iload_n 2, .null, 0, 0), (.iadd, .null, 0, 0), (.iload_n 1, .null, 0, 0), (.iload_n 2, .null, 0, 0)] [] (by decide +kernel) rfl trivial ?_
    refine xr_ic_ne (tgt := 35) (off := 7) (by decide +kernel) (by decide) (fun hc => ?_) (fun hc => ?_)
    · replace h := h.1 hc
      obtain ⟨hb1, h⟩ := h
      refine xr_blk (lv1 := [(2, .int (x2 + (nI 1))), (0, .ref 80), (1, .int x1)]) (st1 := []) (S1 := rt (v_A v 136 (upd (gA v 136) ((((nI 12) * x1) + x2)).toNatClampNeg (nI 100000000)))) (pc1 := 42) [(.ldc_w 313, .int (nI 100000000), 0, 0), (.iastore, .null, 0, 0), (.iinc 2 1, .int (nI 1), 0, 0)] [((((nI 12) * x1) + x2), 144)] (by decide +kernel) rfl ⟨hb1, trivial⟩ ?_
      refine xr_goto (tgt := 10) (off := -32) (by decide +kernel) (by decide) ?_
      exact x_R.sub [1, 2, 0] rfl h
    · replace h := h.2 hc
      refine xr_blk (lv1 := [(0, .ref 80), (1, .int x1), (2, .int x2)]) (st1 := [.int (nI 0), .int (((nI 12) * x1) + x2), .ref 136]) (S1 := rt v) (pc1 := 32) [(.iconst 0, .int (nI 0), 0, 0)] [] (by decide +kernel) rfl trivial ?_
      refine xr_goto (tgt := 38) (off := 6) (by decide +kernel) (by decide) ?_
      obtain ⟨hb2, h⟩ := h
      refine xr_blk (lv1 := [(2, .int (x2 + (nI 1))), (0, .ref 80), (1, .int x1)]) (st1 := []) (S1 := rt (v_A v 136 (upd (gA v 136) ((((nI 12) * x1) + x2)).toNatClampNeg (nI 0)))) (pc1 := 42) [(.iastore, .null, 0, 0), (.iinc 2 1, .int (nI 1), 0, 0)] [((((nI 12) * x1) + x2), 144)] (by decide +kernel) rfl ⟨hb2, trivial⟩ ?_
      refine xr_goto (tgt := 10) (off := -32) (by decide +kernel) (by decide) ?_
      exact x_R.sub [1, 2, 0] rfl h
set_option maxRecDepth 100000 in
theorem w_X12_measure_53 {E : Nat × (Nat → Int32)} {d : Nat} {v : xV} {x1 : Int32} {Q : xV → Prop} (h : (((gI v 80 21) ≤ x1 → RV E d 222 140 [(0, .ref 80), (1, .int (nI 0))] v Q) ∧ (¬ (gI v 80 21) ≤ x1 → vp_in x1 30 ∧ ∀ y2 : Int32, y2 = ((gA v 88) (x1).toNatClampNeg) → vp_in x1 30 ∧ ∀ y4 : Int32, y4 = ((gA v 89) (x1).toNatClampNeg) → vp_in x1 30 ∧ vp_in (((nI 12) * y2) + y4) 144 ∧ ((((gA v 90) (x1).toNatClampNeg) < ((gA v 136) ((((nI 12) * y2) + y4)).toNatClampNeg) → vp_in x1 30 ∧ vp_in (((nI 12) * y2) + y4) 144 ∧ vp_in x1 30 ∧ vp_in (((nI 12) * y4) + y2) 144 ∧ RV E d 222 53 [(0, .ref 80), (1, .int (x1 + (nI 1)))] (v_A (v_A v 136 (upd (gA v 136) ((((nI 12) * y2) + y4)).toNatClampNeg ((gA v 90) (x1).toNatClampNeg))) 136 (upd (upd (gA v 136) ((((nI 12) * y2) + y4)).toNatClampNeg ((gA v 90) (x1).toNatClampNeg)) ((((nI 12) * y4) + y2)).toNatClampNeg ((gA v 90) (x1).toNatClampNeg))) Q) ∧ (¬ ((gA v 90) (x1).toNatClampNeg) < ((gA v 136) ((((nI 12) * y2) + y4)).toNatClampNeg) → RV E d 222 53 [(0, .ref 80), (1, .int (x1 + (nI 1)))] v Q))))) : RV E d 222 53 [(0, .ref 80), (1, .int x1)] v Q := by
  unfold RV
  refine xr_blk (lv1 := [(0, .ref 80), (1, .int x1)]) (st1 := [.int (gI v 80 21), .int x1]) (S1 := rt v) (pc1 := 58) [(.iload_n 1, .null, 0, 0), (.aload_n 0, .null, 0, 0), (.getfield 222, .null, 12, 21)] [] (by decide +kernel) rfl trivial ?_
  refine xr_ic_ge (tgt := 138) (off := 80) (by decide +kernel) (by decide) (fun hc => ?_) (fun hc => ?_)
  · replace h := h.1 hc
    refine xr_blk (lv1 := [(1, .int (nI 0)), (0, .ref 80)]) (st1 := []) (S1 := rt v) (pc1 := 140) [(.iconst 0, .int (nI 0), 0, 0), (.istore_n 1, .null, 0, 0)] [] (by decide +kernel) rfl trivial ?_
    exact x_R.sub [1, 0] rfl h
  · replace h := h.2 hc
    obtain ⟨hb1, h⟩ := h
    refine xr_blk (lv1 := [(0, .ref 80), (1, .int x1)]) (st1 := [.int ((gA v 88) (x1).toNatClampNeg)]) (S1 := rt v) (pc1 := 67) [(.aload_n 0, .null, 0, 0), (.getfield 35, .null, 12, 12), (.iload_n 1, .null, 0, 0), (.iaload, .null, 0, 0)] [(x1, 30)] (by decide +kernel) rfl ⟨hb1, trivial⟩ ?_
    refine xr_topi (fun y2 ey2 => ?_)
    replace h := h y2 ey2
    obtain ⟨hb3, h⟩ := h
    refine xr_blk (lv1 := [(2, .int y2), (0, .ref 80), (1, .int x1)]) (st1 := [.int ((gA v 89) (x1).toNatClampNeg)]) (S1 := rt v) (pc1 := 74) [(.istore_n 2, .null, 0, 0), (.aload_n 0, .null, 0, 0), (.getfield 38, .null, 12, 13), (.iload_n 1, .null, 0, 0), (.iaload, .null, 0, 0)] [(x1, 30)] (by decide +kernel) rfl ⟨hb3, trivial⟩ ?_
    refine xr_topi (fun y4 ey4 => ?_)
    replace h := h y4 ey4
    obtain ⟨hb5, h⟩ := h
    obtain ⟨hb6, h⟩ := h
    refine xr_blk (lv1 := [(3, .int y4), (2, .int y2), (0, .ref 80), (1, .int x1)]) (st1 := [.int ((gA v 136) ((((nI 12) * y2) + y4)).toNatClampNeg), .int ((gA v 90) (x1).toNatClampNeg)]) (S1 := rt v) (pc1 := 92) [(.istore_n 3, .null, 0, 0), (.aload_n 0, .null, 0, 0), (.getfield 41, .null, 12, 14), (.iload_n 1, .null, 0, 0), (.iaload, .null, 0, 0), (.aload_n 0, .null, 0, 0), (.getfield 181, .null, 12, 84), (.bipush 12, .int (nI 12), 0, 0), (.iload_n 2, .null, 0, 0), (.imul, .null, 0, 0), (.iload_n 3, .null, 0, 0), (.iadd, .null, 0, 0), (.iaload, .null, 0, 0)] [(x1, 30), ((((nI 12) * y2) + y4), 144)] (by decide +kernel) rfl ⟨hb5, hb6, trivial⟩ ?_
    refine xr_ic_lt (tgt := 98) (off := 6) (by decide +kernel) (by decide) (fun hc => ?_) (fun hc => ?_)
    · replace h := h.1 hc
      obtain ⟨hb7, h⟩ := h
      obtain ⟨hb8, h⟩ := h
      obtain ⟨hb9, h⟩ := h
      obtain ⟨hb10, h⟩ := h
      refine xr_blk (lv1 := [(1, .int (x1 + (nI 1))), (3, .int y4), (2, .int y2), (0, .ref 80)]) (st1 := []) (S1 := rt (v_A (v_A v 136 (upd (gA v 136) ((((nI 12) * y2) + y4)).toNatClampNeg ((gA v 90) (x1).toNatClampNeg))) 136 (upd (upd (gA v 136) ((((nI 12) * y2) + y4)).toNatClampNeg ((gA v 90) (x1).toNatClampNeg)) ((((nI 12) * y4) + y2)).toNatClampNeg ((gA v 90) (x1).toNatClampNeg)))) (pc1 := 135) [(.aload_n 0, .null, 0, 0), (.getfield 181, .null, 12, 84), (.bipush 12, .int (nI 12), 0, 0), (.iload_n 2, .null, 0, 0), (.imul, .null, 0, 0), (.iload_n 3, .null, 0, 0), (.iadd, .null, 0, 0), (.aload_n 0, .null, 0, 0), (.getfield 41, .null, 12, 14), (.iload_n 1, .null, 0, 0), (.iaload, .null, 0, 0), (.iastore, .null, 0, 0), (.aload_n 0, .null, 0, 0), (.getfield 181, .null, 12, 84), (.bipush 12, .int (nI 12), 0, 0), (.iload_n 3, .null, 0, 0), (.imul, .null, 0, 0), (.iload_n 2, .null, 0, 0), (.iadd, .null, 0, 0), (.aload_n 0, .null, 0, 0), (.getfield 41, .null, 12, 14), (.iload_n 1, .null, 0, 0), (.iaload, .null, 0, 0), (.iastore, .null, 0, 0), (.iinc 1 1, .int (nI 1), 0, 0)] [(x1, 30), ((((nI 12) * y2) + y4), 144), (x1, 30), ((((nI 12) * y4) + y2), 144)] (by decide +kernel) rfl ⟨hb7, hb8, hb9, hb10, trivial⟩ ?_
      refine xr_goto (tgt := 53) (off := -82) (by decide +kernel) (by decide) ?_
      exact x_R.sub [3, 0] rfl h
    · replace h := h.2 hc
      refine xr_goto (tgt := 132) (off := 37) (by decide +kernel) (by decide) ?_
      refine xr_blk (lv1 := [(1, .int (x1 + (nI 1))), (3, .int y4), (2, .int y2), (0, .ref 80)]) (st1 := []) (S1 := rt v) (pc1 := 135) [(.iinc 1 1, .int (nI 1), 0, 0)] [] (by decide +kernel) rfl trivial ?_
      refine xr_goto (tgt := 53) (off := -82) (by decide +kernel) (by decide) ?_
      exact x_R.sub [3, 0] rfl h
set_option maxRecDepth 100000 in
theorem w_X12_measure_140 {E : Nat × (Nat → Int32)} {d : Nat} {v : xV} {x1 : Int32} {Q : xV → Prop} (h : (((nI 12) ≤ x1 → Q v) ∧ (¬ (nI 12) ≤ x1 → RV E d 222 148 [(0, .ref 80), (1, .int x1), (2, .int (nI 0))] v Q))) : RV E d 222 140 [(0, .ref 80), (1, .int x1)] v Q := by
  unfold RV
  refine xr_blk (lv1 := [(0, .ref 80), (1, .int x1)]) (st1 := [.int (nI 12), .int x1]) (S1 := rt v) (pc1 := 143) [(.iload_n 1, .null, 0, 0), (.bipush 12, .int (nI 12), 0, 0)] [] (by decide +kernel) rfl trivial ?_
  refine xr_ic_ge (tgt := 251) (off := 108) (by decide +kernel) (by decide) (fun hc => ?_) (fun hc => ?_)
  · replace h := h.1 hc
    exact xr_ret0 (by decide +kernel) rfl ⟨_, rfl, rfl, h⟩
  · replace h := h.2 hc
    refine xr_blk (lv1 := [(2, .int (nI 0)), (0, .ref 80), (1, .int x1)]) (st1 := []) (S1 := rt v) (pc1 := 148) [(.iconst 0, .int (nI 0), 0, 0), (.istore_n 2, .null, 0, 0)] [] (by decide +kernel) rfl trivial ?_
    exact x_R.sub [1, 2, 0] rfl h
set_option maxRecDepth 100000 in
theorem w_X12_measure_148 {E : Nat × (Nat → Int32)} {d : Nat} {v : xV} {x1 : Int32} {x2 : Int32} {Q : xV → Prop} (h : (((nI 12) ≤ x2 → RV E d 222 140 [(0, .ref 80), (1, .int (x1 + (nI 1)))] v Q) ∧ (¬ (nI 12) ≤ x2 → RV E d 222 156 [(0, .ref 80), (1, .int x1), (2, .int x2), (3, .int (nI 0))] v Q))) : RV E d 222 148 [(0, .ref 80), (1, .int x1), (2, .int x2)] v Q := by
  unfold RV
  refine xr_blk (lv1 := [(0, .ref 80), (1, .int x1), (2, .int x2)]) (st1 := [.int (nI 12), .int x2]) (S1 := rt v) (pc1 := 151) [(.iload_n 2, .null, 0, 0), (.bipush 12, .int (nI 12), 0, 0)] [] (by decide +kernel) rfl trivial ?_
  refine xr_ic_ge (tgt := 245) (off := 94) (by decide +kernel) (by decide) (fun hc => ?_) (fun hc => ?_)
  · replace h := h.1 hc
    refine xr_blk (lv1 := [(1, .int (x1 + (nI 1))), (0, .ref 80), (2, .int x2)]) (st1 := []) (S1 := rt v) (pc1 := 248) [(.iinc 1 1, .int (nI 1), 0, 0)] [] (by decide +kernel) rfl trivial ?_
    refine xr_goto (tgt := 140) (off := -108) (by decide +kernel) (by decide) ?_
    exact x_R.sub [1, 0] rfl h
  · replace h := h.2 hc
    refine xr_blk (lv1 := [(3, .int (nI 0)), (0, .ref 80), (1, .int x1), (2, .int x2)]) (st1 := []) (S1 := rt v) (pc1 := 156) [(.iconst 0, .int (nI 0), 0, 0), (.istore_n 3, .null, 0, 0)] [] (by decide +kernel) rfl trivial ?_
    exact x_R.sub [1, 2, 3, 0] rfl h
set_option maxRecDepth 100000 in
theorem w_X12_measure_156 {E : Nat × (Nat → Int32)} {d : Nat} {v : xV} {x1 : Int32} {x2 : Int32} {x3 : Int32} {Q : xV → Prop} (h : (((nI 12) ≤ x3 → RV E d 222 148 [(0, .ref 80), (1, .int x1), (2, .int (x2 + (nI 1)))] v Q) ∧ (¬ (nI 12) ≤ x3 → vp_in (((nI 12) * x2) + x1) 144 ∧ vp_in (((nI 12) * x1) + x3) 144 ∧ vp_in (((nI 12) * x2) + x3) 144 ∧ ((((gA v 136) ((((nI 12) * x2) + x3)).toNatClampNeg) ≤ (((gA v 136) ((((nI 12) * x2) + x1)).toNatClampNeg) + ((gA v 136) ((((nI 12) * x1) + x3)).toNatClampNeg)) → RV E d 222 156 [(0, .ref 80), (1, .int x1), (2, .int x2), (3, .int (x3 + (nI 1)))] v Q) ∧ (¬ ((gA v 136) ((((nI 12) * x2) + x3)).toNatClampNeg) ≤ (((gA v 136) ((((nI 12) * x2) + x1)).toNatClampNeg) + ((gA v 136) ((((nI 12) * x1) + x3)).toNatClampNeg)) → vp_in (((nI 12) * x2) + x1) 144 ∧ vp_in (((nI 12) * x1) + x3) 144 ∧ vp_in (((nI 12) * x2) + x3) 144 ∧ RV E d 222 156 [(0, .ref 80), (1, .int x1), (2, .int x2), (3, .int (x3 + (nI 1)))] (v_A v 136 (upd (gA v 136) ((((nI 12) * x2) + x3)).toNatClampNeg (((gA v 136) ((((nI 12) * x2) + x1)).toNatClampNeg) + ((gA v 136) ((((nI 12) * x1) + x3)).toNatClampNeg)))) Q))))) : RV E d 222 156 [(0, .ref 80), (1, .int x1), (2, .int x2), (3, .int x3)] v Q := by
  unfold RV
  refine xr_blk (lv1 := [(0, .ref 80), (1, .int x1), (2, .int x2), (3, .int x3)]) (st1 := [.int (nI 12), .int x3]) (S1 := rt v) (pc1 := 159) [(.iload_n 3, .null, 0, 0), (.bipush 12, .int (nI 12), 0, 0)] [] (by decide +kernel) rfl trivial ?_
  refine xr_ic_ge (tgt := 239) (off := 80) (by decide +kernel) (by decide) (fun hc => ?_) (fun hc => ?_)
  · replace h := h.1 hc
    refine xr_blk (lv1 := [(2, .int (x2 + (nI 1))), (0, .ref 80), (1, .int x1), (3, .int x3)]) (st1 := []) (S1 := rt v) (pc1 := 242) [(.iinc 2 1, .int (nI 1), 0, 0)] [] (by decide +kernel) rfl trivial ?_
    refine xr_goto (tgt := 148) (off := -94) (by decide +kernel) (by decide) ?_
    exact x_R.sub [1, 2, 0] rfl h
  · replace h := h.2 hc
    obtain ⟨hb1, h⟩ := h
    obtain ⟨hb2, h⟩ := h
    obtain ⟨hb3, h⟩ := h
    refine xr_blk (lv1 := [(0, .ref 80), (1, .int x1), (2, .int x2), (3, .int x3)]) (st1 := [.int ((gA v 136) ((((nI 12) * x2) + x3)).toNatClampNeg), .int (((gA v 136) ((((nI 12) * x2) + x1)).toNatClampNeg) + ((gA v 136) ((((nI 12) * x1) + x3)).toNatClampNeg))]) (S1 := rt v) (pc1 := 196) [(.aload_n 0, .null, 0, 0), (.getfield 181, .null, 12, 84), (.bipush 12, .int (nI 12), 0, 0), (.iload_n 2, .null, 0, 0), (.imul, .null, 0, 0), (.iload_n 1, .null, 0, 0), (.iadd, .null, 0, 0), (.iaload, .null, 0, 0), (.aload_n 0, .null, 0, 0), (.getfield 181, .null, 12, 84), (.bipush 12, .int (nI 12), 0, 0), (.iload_n 1, .null, 0, 0), (.imul, .null, 0, 0), (.iload_n 3, .null, 0, 0), (.iadd, .null, 0, 0), (.iaload, .null, 0, 0), (.iadd, .null, 0, 0), (.aload_n 0, .null, 0, 0), (.getfield 181, .null, 12, 84), (.bipush 12, .int (nI 12), 0, 0), (.iload_n 2, .null, 0, 0), (.imul, .null, 0, 0), (.iload_n 3, .null, 0, 0), (.iadd, .null, 0, 0), (.iaload, .null, 0, 0)] [((((nI 12) * x2) + x1), 144), ((((nI 12) * x1) + x3), 144), ((((nI 12) * x2) + x3), 144)] (by decide +kernel) rfl ⟨hb1, hb2, hb3, trivial⟩ ?_
    refine xr_ic_ge (tgt := 233) (off := 37) (by decide +kernel) (by decide) (fun hc => ?_) (fun hc => ?_)
    · replace h := h.1 hc
      refine xr_blk (lv1 := [(3, .int (x3 + (nI 1))), (0, .ref 80), (1, .int x1), (2, .int x2)]) (st1 := []) (S1 := rt v) (pc1 := 236) [(.iinc 3 1, .int (nI 1), 0, 0)] [] (by decide +kernel) rfl trivial ?_
      refine xr_goto (tgt := 156) (off := -80) (by decide +kernel) (by decide) ?_
      exact x_R.sub [1, 2, 3, 0] rfl h
    · replace h := h.2 hc
      obtain ⟨hb4, h⟩ := h
      obtain ⟨hb5, h⟩ := h
      obtain ⟨hb6, h⟩ := h
      refine xr_blk (lv1 := [(3, .int (x3 + (nI 1))), (0, .ref 80), (1, .int x1), (2, .int x2)]) (st1 := []) (S1 := rt (v_A v 136 (upd (gA v 136) ((((nI 12) * x2) + x3)).toNatClampNeg (((gA v 136) ((((nI 12) * x2) + x1)).toNatClampNeg) + ((gA v 136) ((((nI 12) * x1) + x3)).toNatClampNeg))))) (pc1 := 236) [(.aload_n 0, .null, 0, 0), (.getfield 181, .null, 12, 84), (.bipush 12, .int (nI 12), 0, 0), (.iload_n 2, .null, 0, 0), (.imul, .null, 0, 0), (.iload_n 3, .null, 0, 0), (.iadd, .null, 0, 0), (.aload_n 0, .null, 0, 0), (.getfield 181, .null, 12, 84), (.bipush 12, .int (nI 12), 0, 0), (.iload_n 2, .null, 0, 0), (.imul, .null, 0, 0), (.iload_n 1, .null, 0, 0), (.iadd, .null, 0, 0), (.iaload, .null, 0, 0), (.aload_n 0, .null, 0, 0), (.getfield 181, .null, 12, 84), (.bipush 12, .int (nI 12), 0, 0), (.iload_n 1, .null, 0, 0), (.imul, .null, 0, 0), (.iload_n 3, .null, 0, 0), (.iadd, .null, 0, 0), (.iaload, .null, 0, 0), (.iadd, .null, 0, 0), (.iastore, .null, 0, 0), (.iinc 3 1, .int (nI 1), 0, 0)] [((((nI 12) * x2) + x1), 144), ((((nI 12) * x1) + x3), 144), ((((nI 12) * x2) + x3), 144)] (by decide +kernel) rfl ⟨hb4, hb5, hb6, trivial⟩ ?_
      refine xr_goto (tgt := 156) (off := -80) (by decide +kernel) (by decide) ?_
      exact x_R.sub [1, 2, 3, 0] rfl h
theorem ok_222 : x_mOK 222 := ⟨x_tm8 (List.mem_of_getElem? (i := 125) rfl) rfl, 114, by decide +kernel⟩
/-! X12_walk: method 223, ScrawlHouseModel.walk(III)I -/
set_option maxRecDepth 100000 in
theorem w_X12_walk_0 {E : Nat × (Nat → Int32)} {d : Nat} {v : xV} {x1 : Int32} {x2 : Int32} {x3 : Int32} {Q : Int32 → xV → Prop} (h : KI E d 196 [.ref 80, .int x1, .int (nI 0)] (v_I v 80 0 (nI 0)) (fun y2 v1 => ((¬ y2 = (nI 0) → KV E d 219 [.ref 80, .int x1, .int x3] v1 (fun v3 => KI E d 152 [.int x2, .int (nI 0), .int ((gI v3 80 83) - (nI 1))] v3 (fun y5 v4 => ((¬ y5 = (nI 0) → RI E (d + 1) 223 47 [(0, .ref 80), (2, .int x2), (4, .int (nI 0)), (5, .int (nI 0)), (6, .int (nI 0))] v4 Q) ∧ (y5 = (nI 0) → Q (-1 : Int32) v4))))) ∧ (y2 = (nI 0) → Q (-1 : Int32) v1)))) : RI E (d + 1) 223 0 [(0, .ref 80), (1, .int x1), (2, .int x2), (3, .int x3)] v Q := by
  unfold RI
  refine xr_blk (lv1 := [(0, .ref 80), (1, .int x1), (2, .int x2), (3, .int x3)]) (st1 := [.int (nI 0), .int x1, .ref 80]) (S1 := rt (v_I v 80 0 (nI 0))) (pc1 := 8) [(.aload_n 0, .null, 0, 0), (.iconst 0, .int (nI 0), 0, 0), (.putfield 190, .null, 12, 0), (.aload_n 0, .null, 0, 0), (.iload_n 1, .null, 0, 0), (.iconst 0, .int (nI 0), 0, 0)] [] (by decide +kernel) rfl trivial ?_
  refine xk_VI (As := [.int x1, .int (nI 0)]) (bb := 80) (rest := []) (idx := 374) (i0 := 374) (m1 := 196) (ps := [1799, 1801, 81]) (by decide +kernel) (by decide +kernel) (by decide) rfl ((gK_s (by decide)).trans (by decide +kernel)) (by decide) (Nat.le_of_ble_eq_true rfl) rfl h (fun y2 v1 h => ?_)
  refine xr_if_ne (tgt := 16) (off := 5) (by decide +kernel) (by decide) (fun hc => ?_) (fun hc => ?_)
  · replace h := h.1 hc
    refine xr_blk (lv1 := [(0, .ref 80), (1, .int x1), (2, .int x2), (3, .int x3)]) (st1 := [.int x3, .int x1, .ref 80]) (S1 := rt v1) (pc1 := 19) [(.aload_n 0, .null, 0, 0), (.iload_n 1, .null, 0, 0), (.iload_n 3, .null, 0, 0)] [] (by decide +kernel) rfl trivial ?_
    refine xk_VV (As := [.int x1, .int x3]) (bb := 80) (rest := []) (idx := 444) (i0 := 444) (m1 := 219) (ps := [1878, 1880, 95]) (by decide +kernel) (by decide +kernel) (by decide) rfl ((gK_s (by decide)).trans (by decide +kernel)) (by decide) (Nat.le_of_ble_eq_true rfl) rfl h (fun v3 h => ?_)
    refine xr_blk (lv1 := [(0, .ref 80), (1, .int x1), (2, .int x2), (3, .int x3)]) (st1 := [.int ((gI v3 80 83) - (nI 1)), .int (nI 0), .int x2]) (S1 := rt v3) (pc1 := 30) [(.iload_n 2, .null, 0, 0), (.iconst 0, .int (nI 0), 0, 0), (.aload_n 0, .null, 0, 0), (.getfield 438, .null, 12, 83), (.iconst 1, .int (nI 1), 0, 0), (.isub, .null, 0, 0)] [] (by decide +kernel) rfl trivial ?_
    refine xk_SI (As := [.int x2, .int (nI 0), .int ((gI v3 80 83) - (nI 1))]) (rest := []) (idx := 200) (i0 := 200) (m1 := 152) (ps := [1616, 1617]) (by decide +kernel) (by decide +kernel) (by decide) rfl (Nat.le_of_ble_eq_true rfl) rfl h (fun y5 v4 h => ?_)
    refine xr_if_ne (tgt := 38) (off := 5) (by decide +kernel) (by decide) (fun hc => ?_) (fun hc => ?_)
    · replace h := h.1 hc
      refine xr_blk (lv1 := [(6, .int (nI 0)), (5, .int (nI 0)), (4, .int (nI 0)), (0, .ref 80), (1, .int x1), (2, .int x2), (3, .int x3)]) (st1 := []) (S1 := rt v4) (pc1 := 47) [(.iconst 0, .int (nI 0), 0, 0), (.istore 4, .null, 0, 0), (.iconst 0, .int (nI 0), 0, 0), (.istore 5, .null, 0, 0), (.iconst 0, .int (nI 0), 0, 0), (.istore 6, .null, 0, 0)] [] (by decide +kernel) rfl trivial ?_
      exact x_R.sub [3, 5, 2, 1, 0] rfl h
    · replace h := h.2 hc
      refine xr_blk (lv1 := [(0, .ref 80), (1, .int x1), (2, .int x2), (3, .int x3)]) (st1 := [.int (-1)]) (S1 := rt v4) (pc1 := 37) [(.iconst (-1), .int (-1), 0, 0)] [] (by decide +kernel) rfl trivial ?_
      exact xr_iret (by decide +kernel) rfl ⟨_, _, rfl, rfl, h⟩
  · replace h := h.2 hc
    refine xr_blk (lv1 := [(0, .ref 80), (1, .int x1), (2, .int x2), (3, .int x3)]) (st1 := [.int (-1)]) (S1 := rt v1) (pc1 := 15) [(.iconst (-1), .int (-1), 0, 0)] [] (by decide +kernel) rfl trivial ?_
    exact xr_iret (by decide +kernel) rfl ⟨_, _, rfl, rfl, h⟩
set_option maxRecDepth 100000 in
theorem w_X12_walk_47 {E : Nat × (Nat → Int32)} {d : Nat} {v : xV} {x2 : Int32} {x4 : Int32} {x5 : Int32} {x6 : Int32} {Q : Int32 → xV → Prop} (h : (((gI v 80 82) ≤ x6 → KV E d 222 [.ref 80] v (fun v1 => RI E (d + 1) 223 139 [(0, .ref 80), (4, .int x4), (6, .int (nI 100000000)), (7, .int (nI 1))] v1 Q)) ∧ (¬ (gI v 80 82) ≤ x6 → vp_in x6 10 ∧ vp_in ((gA v 132) (x6).toNatClampNeg) 20 ∧ ∀ y4 : Int32, y4 = ((gA v 100) (((gA v 132) (x6).toNatClampNeg)).toNatClampNeg) → vp_in x6 10 ∧ ((¬ ((gA v 133) (x6).toNatClampNeg) = x2 → RI E (d + 1) 223 47 [(0, .ref 80), (2, .int x2), (4, .int x4), (5, .int x5), (6, .int (x6 + (nI 1)))] v Q) ∧ (((gA v 133) (x6).toNatClampNeg) = x2 → ((¬ ((x5 >>> (y4 &&& 31)) &&& (nI 1)) = (nI 1) → ∀ y6 : Int32, y6 = (x5 ||| ((nI 1) <<< (y4 &&& 31))) → vp_in y4 8 ∧ vp_in x4 8 ∧ RI E (d + 1) 223 47 [(0, .ref 80), (2, .int x2), (4, .int (x4 + (nI 1))), (5, .int y6), (6, .int (x6 + (nI 1)))] (v_A v 137 (upd (gA v 137) (x4).toNatClampNeg ((gA v 91) (y4).toNatClampNeg))) Q) ∧ (((x5 >>> (y4 &&& 31)) &&& (nI 1)) = (nI 1) → RI E (d + 1) 223 47 [(0, .ref 80), (2, .int x2), (4, .int x4), (5, .int x5), (6, .int (x6 + (nI 1)))] v Q))))))) : RI E (d + 1) 223 47 [(0, .ref 80), (2, .int x2), (4, .int x4), (5, .int x5), (6, .int x6)] v Q := by
  unfold RI
  refine xr_blk (lv1 := [(0, .ref 80), (2, .int x2), (4, .int x4), (5, .int x5), (6, .int x6)]) (st1 := [.int (gI v 80 82), .int x6]) (S1 := rt v) (pc1 := 53) [(.iload 6, .null, 0, 0), (.aload_n 0, .null, 0, 0), (.getfield 435, .null, 12, 82)] [] (by decide +kernel) rfl trivial ?_
  refine xr_ic_ge (tgt := 127) (off := 74) (by decide +kernel) (by decide) (fun hc => ?_) (fun hc => ?_)
  · replace h := h.1 hc
    refine xr_blk (lv1 := [(0, .ref 80), (2, .int x2), (4, .int x4), (5, .int x5), (6, .int x6)]) (st1 := [.ref 80]) (S1 := rt v) (pc1 := 128) [(.aload_n 0, .null, 0, 0)] [] (by decide +kernel) rfl trivial ?_
    refine xk_VV (As := []) (bb := 80) (rest := []) (idx := 447) (i0 := 447) (m1 := 222) (ps := [1902, 1904, 99]) (by decide +kernel) (by decide +kernel) (by decide) rfl ((gK_s (by decide)).trans (by decide +kernel)) (by decide) (Nat.le_of_ble_eq_true rfl) rfl h (fun v1 h => ?_)
    refine xr_blk (lv1 := [(7, .int (nI 1)), (6, .int (nI 100000000)), (0, .ref 80), (2, .int x2), (4, .int x4), (5, .int x5)]) (st1 := []) (S1 := rt v1) (pc1 := 139) [(.ldc_w 313, .int (nI 100000000), 0, 0), (.istore 6, .null, 0, 0), (.iconst 1, .int (nI 1), 0, 0), (.istore 7, .null, 0, 0)] [] (by decide +kernel) rfl trivial ?_
    exact x_R.sub [2, 4, 1, 0] rfl h
  · replace h := h.2 hc
    obtain ⟨hb2, h⟩ := h
    obtain ⟨hb3, h⟩ := h
    refine xr_blk (lv1 := [(0, .ref 80), (2, .int x2), (4, .int x4), (5, .int x5), (6, .int x6)]) (st1 := [.int ((gA v 100) (((gA v 132) (x6).toNatClampNeg)).toNatClampNeg)]) (S1 := rt v) (pc1 := 68) [(.aload_n 0, .null, 0, 0), (.getfield 72, .null, 12, 38), (.aload_n 0, .null, 0, 0), (.getfield 169, .null, 12, 78), (.iload 6, .null, 0, 0), (.iaload, .null, 0, 0), (.iaload, .null, 0, 0)] [(x6, 10), (((gA v 132) (x6).toNatClampNeg), 20)] (by decide +kernel) rfl ⟨hb2, hb3, trivial⟩ ?_
    refine xr_topi (fun y4 ey4 => ?_)
    replace h := h y4 ey4
    obtain ⟨hb5, h⟩ := h
    refine xr_blk (lv1 := [(7, .int y4), (0, .ref 80), (2, .int x2), (4, .int x4), (5, .int x5), (6, .int x6)]) (st1 := [.int x2, .int ((gA v 133) (x6).toNatClampNeg)]) (S1 := rt v) (pc1 := 78) [(.istore 7, .null, 0, 0), (.aload_n 0, .null, 0, 0), (.getfield 172, .null, 12, 79), (.iload 6, .null, 0, 0), (.iaload, .null, 0, 0), (.iload_n 2, .null, 0, 0)] [(x6, 10)] (by decide +kernel) rfl ⟨hb5, trivial⟩ ?_
    refine xr_ic_ne (tgt := 121) (off := 43) (by decide +kernel) (by decide) (fun hc => ?_) (fun hc => ?_)
    · replace h := h.1 hc
      refine xr_blk (lv1 := [(6, .int (x6 + (nI 1))), (7, .int y4), (0, .ref 80), (2, .int x2), (4, .int x4), (5, .int x5)]) (st1 := []) (S1 := rt v) (pc1 := 124) [(.iinc 6 1, .int (nI 1), 0, 0)] [] (by decide +kernel) rfl trivial ?_
      refine xr_goto (tgt := 47) (off := -77) (by decide +kernel) (by decide) ?_
      exact x_R.sub [2, 3, 4, 5, 0] rfl h
    · replace h := h.2 hc
      refine xr_blk (lv1 := [(7, .int y4), (0, .ref 80), (2, .int x2), (4, .int x4), (5, .int x5), (6, .int x6)]) (st1 := [.int (nI 1), .int ((x5 >>> (y4 &&& 31)) &&& (nI 1))]) (S1 := rt v) (pc1 := 89) [(.iload 5, .null, 0, 0), (.iload 7, .null, 0, 0), (.ishr, .null, 0, 0), (.iconst 1, .int (nI 1), 0, 0), (.iand, .null, 0, 0), (.iconst 1, .int (nI 1), 0, 0)] [] (by decide +kernel) rfl trivial ?_
      refine xr_ic_ne (tgt := 95) (off := 6) (by decide +kernel) (by decide) (fun hc => ?_) (fun hc => ?_)
      · replace h := h.1 hc
        refine xr_blk (lv1 := [(7, .int y4), (0, .ref 80), (2, .int x2), (4, .int x4), (5, .int x5), (6, .int x6)]) (st1 := [.int (x5 ||| ((nI 1) <<< (y4 &&& 31)))]) (S1 := rt v) (pc1 := 102) [(.iload 5, .null, 0, 0), (.iconst 1, .int (nI 1), 0, 0), (.iload 7, .null, 0, 0), (.ishl, .null, 0, 0), (.ior, .null, 0, 0)] [] (by decide +kernel) rfl trivial ?_
        refine xr_topi (fun y6 ey6 => ?_)
        replace h := h y6 ey6
        obtain ⟨hb7, h⟩ := h
        obtain ⟨hb8, h⟩ := h
        refine xr_blk (lv1 := [(6, .int (x6 + (nI 1))), (4, .int (x4 + (nI 1))), (5, .int y6), (7, .int y4), (0, .ref 80), (2, .int x2)]) (st1 := []) (S1 := rt (v_A v 137 (upd (gA v 137) (x4).toNatClampNeg ((gA v 91) (y4).toNatClampNeg)))) (pc1 := 124) [(.istore 5, .null, 0, 0), (.aload_n 0, .null, 0, 0), (.getfield 184, .null, 12, 85), (.iload 4, .null, 0, 0), (.aload_n 0, .null, 0, 0), (.getfield 44, .null, 12, 15), (.iload 7, .null, 0, 0), (.iaload, .null, 0, 0), (.iastore, .null, 0, 0), (.iinc 4 1, .int (nI 1), 0, 0), (.iinc 6 1, .int (nI 1), 0, 0)] [(y4, 8), (x4, 8)] (by decide +kernel) rfl ⟨hb7, hb8, trivial⟩ ?_
        refine xr_goto (tgt := 47) (off := -77) (by decide +kernel) (by decide) ?_
        exact x_R.sub [4, 5, 1, 2, 0] rfl h
      · replace h := h.2 hc
        refine xr_goto (tgt := 121) (off := 29) (by decide +kernel) (by decide) ?_
        refine xr_blk (lv1 := [(6, .int (x6 + (nI 1))), (7, .int y4), (0, .ref 80), (2, .int x2), (4, .int x4), (5, .int x5)]) (st1 := []) (S1 := rt v) (pc1 := 124) [(.iinc 6 1, .int (nI 1), 0, 0)] [] (by decide +kernel) rfl trivial ?_
        refine xr_goto (tgt := 47) (off := -77) (by decide +kernel) (by decide) ?_
        exact x_R.sub [2, 3, 4, 5, 0] rfl h
set_option maxRecDepth 100000 in
theorem w_X12_walk_139 {E : Nat × (Nat → Int32)} {d : Nat} {v : xV} {x4 : Int32} {x6 : Int32} {x7 : Int32} {Q : Int32 → xV → Prop} (h : ((((nI 1) <<< (x4 &&& 31)) ≤ x7 → ((x6 < (nI 100000000) → Q x6 v) ∧ (¬ x6 < (nI 100000000) → Q (-2 : Int32) v))) ∧ (¬ ((nI 1) <<< (x4 &&& 31)) ≤ x7 → RI E (d + 1) 223 151 [(0, .ref 80), (4, .int x4), (6, .int x6), (7, .int x7), (8, .int (nI 0))] v Q))) : RI E (d + 1) 223 139 [(0, .ref 80), (4, .int x4), (6, .int x6), (7, .int x7)] v Q := by
  unfold RI
  refine xr_blk (lv1 := [(0, .ref 80), (4, .int x4), (6, .int x6), (7, .int x7)]) (st1 := [.int ((nI 1) <<< (x4 &&& 31)), .int x7]) (S1 := rt v) (pc1 := 145) [(.iload 7, .null, 0, 0), (.iconst 1, .int (nI 1), 0, 0), (.iload 4, .null, 0, 0), (.ishl, .null, 0, 0)] [] (by decide +kernel) rfl trivial ?_
  refine xr_ic_ge (tgt := 325) (off := 180) (by decide +kernel) (by decide) (fun hc => ?_) (fun hc => ?_)
  · replace h := h.1 hc
    refine xr_blk (lv1 := [(0, .ref 80), (4, .int x4), (6, .int x6), (7, .int x7)]) (st1 := [.int (nI 100000000), .int x6]) (S1 := rt v) (pc1 := 330) [(.iload 6, .null, 0, 0), (.ldc_w 313, .int (nI 100000000), 0, 0)] [] (by decide +kernel) rfl trivial ?_
    refine xr_ic_lt (tgt := 338) (off := 8) (by decide +kernel) (by decide) (fun hc => ?_) (fun hc => ?_)
    · replace h := h.1 hc
      refine xr_blk (lv1 := [(0, .ref 80), (4, .int x4), (6, .int x6), (7, .int x7)]) (st1 := [.int x6]) (S1 := rt v) (pc1 := 340) [(.iload 6, .null, 0, 0)] [] (by decide +kernel) rfl trivial ?_
      exact xr_iret (by decide +kernel) rfl ⟨_, _, rfl, rfl, h⟩
    · replace h := h.2 hc
      refine xr_blk (lv1 := [(0, .ref 80), (4, .int x4), (6, .int x6), (7, .int x7)]) (st1 := [.int (-2)]) (S1 := rt v) (pc1 := 335) [(.bipush (-2), .int (-2), 0, 0)] [] (by decide +kernel) rfl trivial ?_
      refine xr_goto (tgt := 340) (off := 5) (by decide +kernel) (by decide) ?_
      exact xr_iret (by decide +kernel) rfl ⟨_, _, rfl, rfl, h⟩
  · replace h := h.2 hc
    refine xr_blk (lv1 := [(8, .int (nI 0)), (0, .ref 80), (4, .int x4), (6, .int x6), (7, .int x7)]) (st1 := []) (S1 := rt v) (pc1 := 151) [(.iconst 0, .int (nI 0), 0, 0), (.istore 8, .null, 0, 0)] [] (by decide +kernel) rfl trivial ?_
    exact x_R.sub [1, 2, 3, 4, 0] rfl h
set_option maxRecDepth 100000 in
theorem w_X12_walk_151 {E : Nat × (Nat → Int32)} {d : Nat} {v : xV} {x4 : Int32} {x6 : Int32} {x7 : Int32} {x8 : Int32} {Q : Int32 → xV → Prop} (h : ((x4 ≤ x8 → RI E (d + 1) 223 139 [(0, .ref 80), (4, .int x4), (6, .int x6), (7, .int (x7 + (nI 1)))] v Q) ∧ (¬ x4 ≤ x8 → ((¬ x7 = ((nI 1) <<< (x8 &&& 31)) → RI E (d + 1) 223 178 [(0, .ref 80), (4, .int x4), (6, .int x6), (7, .int x7), (8, .int x8), (9, .int (nI 100000000)), (10, .int (nI 0))] v Q) ∧ (x7 = ((nI 1) <<< (x8 &&& 31)) → RI E (d + 1) 223 178 [(0, .ref 80), (4, .int x4), (6, .int x6), (7, .int x7), (8, .int x8), (9, .int (nI 0)), (10, .int (nI 0))] v Q))))) : RI E (d + 1) 223 151 [(0, .ref 80), (4, .int x4), (6, .int x6), (7, .int x7), (8, .int x8)] v Q := by
  unfold RI
  refine xr_blk (lv1 := [(0, .ref 80), (4, .int x4), (6, .int x6), (7, .int x7), (8, .int x8)]) (st1 := [.int x4, .int x8]) (S1 := rt v) (pc1 := 155) [(.iload 8, .null, 0, 0), (.iload 4, .null, 0, 0)] [] (by decide +kernel) rfl trivial ?_
  refine xr_ic_ge (tgt := 319) (off := 164) (by decide +kernel) (by decide) (fun hc => ?_) (fun hc => ?_)
  · replace h := h.1 hc
    refine xr_blk (lv1 := [(7, .int (x7 + (nI 1))), (0, .ref 80), (4, .int x4), (6, .int x6), (8, .int x8)]) (st1 := []) (S1 := rt v) (pc1 := 322) [(.iinc 7 1, .int (nI 1), 0, 0)] [] (by decide +kernel) rfl trivial ?_
    refine xr_goto (tgt := 139) (off := -183) (by decide +kernel) (by decide) ?_
    exact x_R.sub [1, 2, 3, 0] rfl h
  · replace h := h.2 hc
    refine xr_blk (lv1 := [(9, .int (nI 100000000)), (0, .ref 80), (4, .int x4), (6, .int x6), (7, .int x7), (8, .int x8)]) (st1 := [.int ((nI 1) <<< (x8 &&& 31)), .int x7]) (S1 := rt v) (pc1 := 169) [(.ldc_w 313, .int (nI 100000000), 0, 0), (.istore 9, .null, 0, 0), (.iload 7, .null, 0, 0), (.iconst 1, .int (nI 1), 0, 0), (.iload 8, .null, 0, 0), (.ishl, .null, 0, 0)] [] (by decide +kernel) rfl trivial ?_
    refine xr_ic_ne (tgt := 175) (off := 6) (by decide +kernel) (by decide) (fun hc => ?_) (fun hc => ?_)
    · replace h := h.1 hc
      refine xr_blk (lv1 := [(10, .int (nI 0)), (9, .int (nI 100000000)), (0, .ref 80), (4, .int x4), (6, .int x6), (7, .int x7), (8, .int x8)]) (st1 := []) (S1 := rt v) (pc1 := 178) [(.iconst 0, .int (nI 0), 0, 0), (.istore 10, .null, 0, 0)] [] (by decide +kernel) rfl trivial ?_
      exact x_R.sub [2, 3, 4, 5, 6, 1, 0] rfl h
    · replace h := h.2 hc
      refine xr_blk (lv1 := [(10, .int (nI 0)), (9, .int (nI 0)), (0, .ref 80), (4, .int x4), (6, .int x6), (7, .int x7), (8, .int x8)]) (st1 := []) (S1 := rt v) (pc1 := 178) [(.iconst 0, .int (nI 0), 0, 0), (.istore 9, .null, 0, 0), (.iconst 0, .int (nI 0), 0, 0), (.istore 10, .null, 0, 0)] [] (by decide +kernel) rfl trivial ?_
      exact x_R.sub [2, 3, 4, 5, 6, 1, 0] rfl h
set_option maxRecDepth 100000 in
theorem w_X12_walk_178 {E : Nat × (Nat → Int32)} {d : Nat} {v : xV} {x4 : Int32} {x6 : Int32} {x7 : Int32} {x8 : Int32} {x9 : Int32} {x10 : Int32} {Q : Int32 → xV → Prop} (h : ((x4 ≤ x10 → RI E (d + 1) 223 276 [(0, .ref 80), (4, .int x4), (6, .int x6), (7, .int x7), (8, .int x8), (9, .int x9)] v Q) ∧ (¬ x4 ≤ x10 → ((¬ ((x7 >>> (x8 &&& 31)) &&& (nI 1)) = (nI 1) → RI E (d + 1) 223 276 [(0, .ref 80), (4, .int x4), (6, .int x6), (7, .int x7), (8, .int x8), (9, .int x9)] v Q) ∧ (((x7 >>> (x8 &&& 31)) &&& (nI 1)) = (nI 1) → ∀ y1 : Int32, y1 = (x7 &&& (((nI 1) <<< (x8 &&& 31)) ^^^ (-1 : Int32))) → ((¬ ((y1 >>> (x10 &&& 31)) &&& (nI 1)) = (nI 0) → vp_in (((nI 8) * y1) + x10) 2048 ∧ vp_in x10 8 ∧ vp_in x8 8 ∧ vp_in (((nI 12) * ((gA v 137) (x10).toNatClampNeg)) + ((gA v 137) (x8).toNatClampNeg)) 144 ∧ ∀ y6 : Int32, y6 = (((gA v 138) ((((nI 8) * y1) + x10)).toNatClampNeg) + ((gA v 136) ((((nI 12) * ((gA v 137) (x10).toNatClampNeg)) + ((gA v 137) (x8).toNatClampNeg))).toNatClampNeg)) → ((x9 ≤ y6 → RI E (d + 1) 223 178 [(0, .ref 80), (4, .int x4), (6, .int x6), (7, .int x7), (8, .int x8), (9, .int x9), (10, .int (x10 + (nI 1)))] v Q) ∧ (¬ x9 ≤ y6 → RI E (d + 1) 223 178 [(0, .ref 80), (4, .int x4), (6, .int x6), (7, .int x7), (8, .int x8), (9, .int y6), (10, .int (x10 + (nI 1)))] v Q))) ∧ (((y1 >>> (x10 &&& 31)) &&& (nI 1)) = (nI 0) → RI E (d + 1) 223 178 [(0, .ref 80), (4, .int x4), (6, .int x6), (7, .int x7), (8, .int x8), (9, .int x9), (10, .int (x10 + (nI 1)))] v Q))))))) : RI E (d + 1) 223 178 [(0, .ref 80), (4, .int x4), (6, .int x6), (7, .int x7), (8, .int x8), (9, .int x9), (10, .int x10)] v Q := by
  unfold RI
  refine xr_blk (lv1 := [(0, .ref 80), (4, .int x4), (6, .int x6), (7, .int x7), (8, .int x8), (9, .int x9), (10, .int x10)]) (st1 := [.int x4, .int x10]) (S1 := rt v) (pc1 := 182) [(.iload 10, .null, 0, 0), (.iload 4, .null, 0, 0)] [] (by decide +kernel) rfl trivial ?_
  refine xr_ic_ge (tgt := 276) (off := 94) (by decide +kernel) (by decide) (fun hc => ?_) (fun hc => ?_)
  · replace h := h.1 hc
    exact x_R.sub [0, 1, 2, 3, 4, 5] rfl h
  · replace h := h.2 hc
    refine xr_blk (lv1 := [(0, .ref 80), (4, .int x4), (6, .int x6), (7, .int x7), (8, .int x8), (9, .int x9), (10, .int x10)]) (st1 := [.int (nI 1), .int ((x7 >>> (x8 &&& 31)) &&& (nI 1))]) (S1 := rt v) (pc1 := 193) [(.iload 7, .null, 0, 0), (.iload 8, .null, 0, 0), (.ishr, .null, 0, 0), (.iconst 1, .int (nI 1), 0, 0), (.iand, .null, 0, 0), (.iconst 1, .int (nI 1), 0, 0)] [] (by decide +kernel) rfl trivial ?_
    refine xr_ic_ne (tgt := 276) (off := 83) (by decide +kernel) (by decide) (fun hc => ?_) (fun hc => ?_)
    · replace h := h.1 hc
      exact x_R.sub [0, 1, 2, 3, 4, 5] rfl h
    · replace h := h.2 hc
      refine xr_blk (lv1 := [(0, .ref 80), (4, .int x4), (6, .int x6), (7, .int x7), (8, .int x8), (9, .int x9), (10, .int x10)]) (st1 := [.int (x7 &&& (((nI 1) <<< (x8 &&& 31)) ^^^ (-1 : Int32)))]) (S1 := rt v) (pc1 := 205) [(.iload 7, .null, 0, 0), (.iconst 1, .int (nI 1), 0, 0), (.iload 8, .null, 0, 0), (.ishl, .null, 0, 0), (.iconst (-1), .int (-1), 0, 0), (.ixor, .null, 0, 0), (.iand, .null, 0, 0)] [] (by decide +kernel) rfl trivial ?_
      refine xr_topi (fun y1 ey1 => ?_)
      replace h := h y1 ey1
      refine xr_blk (lv1 := [(11, .int y1), (0, .ref 80), (4, .int x4), (6, .int x6), (7, .int x7), (8, .int x8), (9, .int x9), (10, .int x10)]) (st1 := [.int ((y1 >>> (x10 &&& 31)) &&& (nI 1))]) (S1 := rt v) (pc1 := 214) [(.istore 11, .null, 0, 0), (.iload 11, .null, 0, 0), (.iload 10, .null, 0, 0), (.ishr, .null, 0, 0), (.iconst 1, .int (nI 1), 0, 0), (.iand, .null, 0, 0)] [] (by decide +kernel) rfl trivial ?_
      refine xr_if_ne (tgt := 220) (off := 6) (by decide +kernel) (by decide) (fun hc => ?_) (fun hc => ?_)
      · replace h := h.1 hc
        obtain ⟨hb2, h⟩ := h
        obtain ⟨hb3, h⟩ := h
        obtain ⟨hb4, h⟩ := h
        obtain ⟨hb5, h⟩ := h
        refine xr_blk (lv1 := [(11, .int y1), (0, .ref 80), (4, .int x4), (6, .int x6), (7, .int x7), (8, .int x8), (9, .int x9), (10, .int x10)]) (st1 := [.int (((gA v 138) ((((nI 8) * y1) + x10)).toNatClampNeg) + ((gA v 136) ((((nI 12) * ((gA v 137) (x10).toNatClampNeg)) + ((gA v 137) (x8).toNatClampNeg))).toNatClampNeg))]) (S1 := rt v) (pc1 := 257) [(.aload_n 0, .null, 0, 0), (.getfield 187, .null, 12, 86), (.bipush 8, .int (nI 8), 0, 0), (.iload 11, .null, 0, 0), (.imul, .null, 0, 0), (.iload 10, .null, 0, 0), (.iadd, .null, 0, 0), (.iaload, .null, 0, 0), (.aload_n 0, .null, 0, 0), (.getfield 181, .null, 12, 84), (.bipush 12, .int (nI 12), 0, 0), (.aload_n 0, .null, 0, 0), (.getfield 184, .null, 12, 85), (.iload 10, .null, 0, 0), (.iaload, .null, 0, 0), (.imul, .null, 0, 0), (.aload_n 0, .null, 0, 0), (.getfield 184, .null, 12, 85), (.iload 8, .null, 0, 0), (.iaload, .null, 0, 0), (.iadd, .null, 0, 0), (.iaload, .null, 0, 0), (.iadd, .null, 0, 0)] [((((nI 8) * y1) + x10), 2048), (x10, 8), (x8, 8), ((((nI 12) * ((gA v 137) (x10).toNatClampNeg)) + ((gA v 137) (x8).toNatClampNeg)), 144)] (by decide +kernel) rfl ⟨hb2, hb3, hb4, hb5, trivial⟩ ?_
        refine xr_topi (fun y6 ey6 => ?_)
        replace h := h y6 ey6
        refine xr_blk (lv1 := [(12, .int y6), (11, .int y1), (0, .ref 80), (4, .int x4), (6, .int x6), (7, .int x7), (8, .int x8), (9, .int x9), (10, .int x10)]) (st1 := [.int x9, .int y6]) (S1 := rt v) (pc1 := 263) [(.istore 12, .null, 0, 0), (.iload 12, .null, 0, 0), (.iload 9, .null, 0, 0)] [] (by decide +kernel) rfl trivial ?_
        refine xr_ic_ge (tgt := 270) (off := 7) (by decide +kernel) (by decide) (fun hc => ?_) (fun hc => ?_)
        · replace h := h.1 hc
          refine xr_blk (lv1 := [(10, .int (x10 + (nI 1))), (12, .int y6), (11, .int y1), (0, .ref 80), (4, .int x4), (6, .int x6), (7, .int x7), (8, .int x8), (9, .int x9)]) (st1 := []) (S1 := rt v) (pc1 := 273) [(.iinc 10 1, .int (nI 1), 0, 0)] [] (by decide +kernel) rfl trivial ?_
          refine xr_goto (tgt := 178) (off := -95) (by decide +kernel) (by decide) ?_
          exact x_R.sub [3, 4, 5, 6, 7, 8, 0] rfl h
        · replace h := h.2 hc
          refine xr_blk (lv1 := [(10, .int (x10 + (nI 1))), (9, .int y6), (12, .int y6), (11, .int y1), (0, .ref 80), (4, .int x4), (6, .int x6), (7, .int x7), (8, .int x8)]) (st1 := []) (S1 := rt v) (pc1 := 273) [(.iload 12, .null, 0, 0), (.istore 9, .null, 0, 0), (.iinc 10 1, .int (nI 1), 0, 0)] [] (by decide +kernel) rfl trivial ?_
          refine xr_goto (tgt := 178) (off := -95) (by decide +kernel) (by decide) ?_
          exact x_R.sub [4, 5, 6, 7, 8, 1, 0] rfl h
      · replace h := h.2 hc
        refine xr_goto (tgt := 270) (off := 53) (by decide +kernel) (by decide) ?_
        refine xr_blk (lv1 := [(10, .int (x10 + (nI 1))), (11, .int y1), (0, .ref 80), (4, .int x4), (6, .int x6), (7, .int x7), (8, .int x8), (9, .int x9)]) (st1 := []) (S1 := rt v) (pc1 := 273) [(.iinc 10 1, .int (nI 1), 0, 0)] [] (by decide +kernel) rfl trivial ?_
        refine xr_goto (tgt := 178) (off := -95) (by decide +kernel) (by decide) ?_
        exact x_R.sub [2, 3, 4, 5, 6, 7, 0] rfl h
set_option maxRecDepth 100000 in
theorem w_X12_walk_276 {E : Nat × (Nat → Int32)} {d : Nat} {v : xV} {x4 : Int32} {x6 : Int32} {x7 : Int32} {x8 : Int32} {x9 : Int32} {Q : Int32 → xV → Prop} (h : vp_in (((nI 8) * x7) + x8) 2048 ∧ ((¬ x7 = (((nI 1) <<< (x4 &&& 31)) - (nI 1)) → RI E (d + 1) 223 151 [(0, .ref 80), (4, .int x4), (6, .int x6), (7, .int x7), (8, .int (x8 + (nI 1)))] (v_A v 138 (upd (gA v 138) ((((nI 8) * x7) + x8)).toNatClampNeg x9)) Q) ∧ (x7 = (((nI 1) <<< (x4 &&& 31)) - (nI 1)) → ((x6 ≤ x9 → RI E (d + 1) 223 151 [(0, .ref 80), (4, .int x4), (6, .int x6), (7, .int x7), (8, .int (x8 + (nI 1)))] (v_A v 138 (upd (gA v 138) ((((nI 8) * x7) + x8)).toNatClampNeg x9)) Q) ∧ (¬ x6 ≤ x9 → RI E (d + 1) 223 151 [(0, .ref 80), (4, .int x4), (6, .int x9), (7, .int x7), (8, .int (x8 + (nI 1)))] (v_A v 138 (upd (gA v 138) ((((nI 8) * x7) + x8)).toNatClampNeg x9)) Q))))) : RI E (d + 1) 223 276 [(0, .ref 80), (4, .int x4), (6, .int x6), (7, .int x7), (8, .int x8), (9, .int x9)] v Q := by
  unfold RI
  obtain ⟨hb1, h⟩ := h
  refine xr_blk (lv1 := [(0, .ref 80), (4, .int x4), (6, .int x6), (7, .int x7), (8, .int x8), (9, .int x9)]) (st1 := [.int (((nI 1) <<< (x4 &&& 31)) - (nI 1)), .int x7]) (S1 := rt (v_A v 138 (upd (gA v 138) ((((nI 8) * x7) + x8)).toNatClampNeg x9))) (pc1 := 299) [(.aload_n 0, .null, 0, 0), (.getfield 187, .null, 12, 86), (.bipush 8, .int (nI 8), 0, 0), (.iload 7, .null, 0, 0), (.imul, .null, 0, 0), (.iload 8, .null, 0, 0), (.iadd, .null, 0, 0), (.iload 9, .null, 0, 0), (.iastore, .null, 0, 0), (.iload 7, .null, 0, 0), (.iconst 1, .int (nI 1), 0, 0), (.iload 4, .null, 0, 0), (.ishl, .null, 0, 0), (.iconst 1, .int (nI 1), 0, 0), (.isub, .null, 0, 0)] [((((nI 8) * x7) + x8), 2048)] (by decide +kernel) rfl ⟨hb1, trivial⟩ ?_
  refine xr_ic_ne (tgt := 313) (off := 14) (by decide +kernel) (by decide) (fun hc => ?_) (fun hc => ?_)
  · replace h := h.1 hc
    refine xr_blk (lv1 := [(8, .int (x8 + (nI 1))), (0, .ref 80), (4, .int x4), (6, .int x6), (7, .int x7), (9, .int x9)]) (st1 := []) (S1 := rt (v_A v 138 (upd (gA v 138) ((((nI 8) * x7) + x8)).toNatClampNeg x9))) (pc1 := 316) [(.iinc 8 1, .int (nI 1), 0, 0)] [] (by decide +kernel) rfl trivial ?_
    refine xr_goto (tgt := 151) (off := -165) (by decide +kernel) (by decide) ?_
    exact x_R.sub [1, 2, 3, 4, 0] rfl h
  · replace h := h.2 hc
    refine xr_blk (lv1 := [(0, .ref 80), (4, .int x4), (6, .int x6), (7, .int x7), (8, .int x8), (9, .int x9)]) (st1 := [.int x6, .int x9]) (S1 := rt (v_A v 138 (upd (gA v 138) ((((nI 8) * x7) + x8)).toNatClampNeg x9))) (pc1 := 306) [(.iload 9, .null, 0, 0), (.iload 6, .null, 0, 0)] [] (by decide +kernel) rfl trivial ?_
    refine xr_ic_ge (tgt := 313) (off := 7) (by decide +kernel) (by decide) (fun hc => ?_) (fun hc => ?_)
    · replace h := h.1 hc
      refine xr_blk (lv1 := [(8, .int (x8 + (nI 1))), (0, .ref 80), (4, .int x4), (6, .int x6), (7, .int x7), (9, .int x9)]) (st1 := []) (S1 := rt (v_A v 138 (upd (gA v 138) ((((nI 8) * x7) + x8)).toNatClampNeg x9))) (pc1 := 316) [(.iinc 8 1, .int (nI 1), 0, 0)] [] (by decide +kernel) rfl trivial ?_
      refine xr_goto (tgt := 151) (off := -165) (by decide +kernel) (by decide) ?_
      exact x_R.sub [1, 2, 3, 4, 0] rfl h
    · replace h := h.2 hc
      refine xr_blk (lv1 := [(8, .int (x8 + (nI 1))), (6, .int x9), (0, .ref 80), (4, .int x4), (7, .int x7), (9, .int x9)]) (st1 := []) (S1 := rt (v_A v 138 (upd (gA v 138) ((((nI 8) * x7) + x8)).toNatClampNeg x9))) (pc1 := 316) [(.iload 9, .null, 0, 0), (.istore 6, .null, 0, 0), (.iinc 8 1, .int (nI 1), 0, 0)] [] (by decide +kernel) rfl trivial ?_
      refine xr_goto (tgt := 151) (off := -165) (by decide +kernel) (by decide) ?_
      exact x_R.sub [2, 3, 1, 4, 0] rfl h
theorem ok_223 : x_mOK 223 := ⟨x_tm8 (List.mem_of_getElem? (i := 121) rfl) rfl, 114, by decide +kernel⟩
/-! X12_count: method 224, ScrawlHouseModel.count(I)I -/
set_option maxRecDepth 100000 in
theorem w_X12_count_0 {E : Nat × (Nat → Int32)} {d : Nat} {v : xV} {x1 : Int32} {Q : Int32 → xV → Prop} (h : ((((x1).toInt < 0 ∨ 10 < (x1).toInt) → Q (-1 : Int32) (v_I v 80 0 (nI 0))) ∧ (x1 = nI 0 → Q (gI v 80 5) (v_I v 80 0 (nI 0))) ∧ (x1 = nI 1 → Q (gI v 80 20) (v_I v 80 0 (nI 0))) ∧ (x1 = nI 2 → Q (gI v 80 21) (v_I v 80 0 (nI 0))) ∧ (x1 = nI 3 → Q (gI v 80 22) (v_I v 80 0 (nI 0))) ∧ (x1 = nI 4 → Q (gI v 80 37) (v_I v 80 0 (nI 0))) ∧ (x1 = nI 5 → Q (gI v 80 50) (v_I v 80 0 (nI 0))) ∧ (x1 = nI 6 → Q (gI v 80 51) (v_I v 80 0 (nI 0))) ∧ (x1 = nI 7 → Q (gI v 80 52) (v_I v 80 0 (nI 0))) ∧ (x1 = nI 8 → Q (gI v 80 70) (v_I v 80 0 (nI 0))) ∧ (x1 = nI 9 → Q (gI v 80 3) (v_I v 80 0 (nI 0))) ∧ (x1 = nI 10 → Q (gI v 80 4) (v_I v 80 0 (nI 0))))) : RI E d 224 0 [(0, .ref 80), (1, .int x1)] v Q := by
  unfold RI
  refine xr_blk (lv1 := [(0, .ref 80), (1, .int x1)]) (st1 := [.int x1]) (S1 := rt (v_I v 80 0 (nI 0))) (pc1 := 6) [(.aload_n 0, .null, 0, 0), (.iconst 0, .int (nI 0), 0, 0), (.putfield 190, .null, 12, 0), (.iload_n 1, .null, 0, 0)] [] (by decide +kernel) rfl trivial ?_
  refine xr_tsw (by decide +kernel : decode (x_mB 224) 6 = .ok (.tableswitch 113 0 10 #[58, 63, 68, 73, 78, 83, 88, 93, 98, 103, 108], 58)) 119 (by decide) (fun hc => ?_) (fun hc => ?_)
  · replace h := h.1 hc
    refine xr_blk (lv1 := [(0, .ref 80), (1, .int x1)]) (st1 := [.int (-1)]) (S1 := rt (v_I v 80 0 (nI 0))) (pc1 := 120) [(.iconst (-1), .int (-1), 0, 0)] [] (by decide +kernel) rfl trivial ?_
    exact xr_iret (by decide +kernel) rfl ⟨_, _, rfl, rfl, h⟩
  · replace h := h.2
    have hr : x1 = 0 ∨ x1 = 1 ∨ x1 = 2 ∨ x1 = 3 ∨ x1 = 4 ∨ x1 = 5 ∨ x1 = 6 ∨ x1 = 7 ∨ x1 = 8 ∨ x1 = 9 ∨ x1 = 10 := x_sw11 hc
    rcases hr with hr | hr | hr | hr | hr | hr | hr | hr | hr | hr | hr
    · refine ⟨58, 64, by rw [hr]; decide +kernel, by decide, ?_⟩
      replace h := h.1 hr
      refine xr_blk (lv1 := [(0, .ref 80), (1, .int x1)]) (st1 := [.int (gI v 80 5)]) (S1 := rt (v_I v 80 0 (nI 0))) (pc1 := 68) [(.aload_n 0, .null, 0, 0), (.getfield 204, .null, 12, 5)] [] (by decide +kernel) rfl trivial ?_
      exact xr_iret (by decide +kernel) rfl ⟨_, _, rfl, rfl, h⟩
    · refine ⟨63, 69, by rw [hr]; decide +kernel, by decide, ?_⟩
      replace h := h.2.1 hr
      refine xr_blk (lv1 := [(0, .ref 80), (1, .int x1)]) (st1 := [.int (gI v 80 20)]) (S1 := rt (v_I v 80 0 (nI 0))) (pc1 := 73) [(.aload_n 0, .null, 0, 0), (.getfield 207, .null, 12, 20)] [] (by decide +kernel) rfl trivial ?_
      exact xr_iret (by decide +kernel) rfl ⟨_, _, rfl, rfl, h⟩
    · refine ⟨68, 74, by rw [hr]; decide +kernel, by decide, ?_⟩
      replace h := h.2.2.1 hr
      refine xr_blk (lv1 := [(0, .ref 80), (1, .int x1)]) (st1 := [.int (gI v 80 21)]) (S1 := rt (v_I v 80 0 (nI 0))) (pc1 := 78) [(.aload_n 0, .null, 0, 0), (.getfield 222, .null, 12, 21)] [] (by decide +kernel) rfl trivial ?_
      exact xr_iret (by decide +kernel) rfl ⟨_, _, rfl, rfl, h⟩
    · refine ⟨73, 79, by rw [hr]; decide +kernel, by decide, ?_⟩
      replace h := h.2.2.2.1 hr
      refine xr_blk (lv1 := [(0, .ref 80), (1, .int x1)]) (st1 := [.int (gI v 80 22)]) (S1 := rt (v_I v 80 0 (nI 0))) (pc1 := 83) [(.aload_n 0, .null, 0, 0), (.getfield 228, .null, 12, 22)] [] (by decide +kernel) rfl trivial ?_
      exact xr_iret (by decide +kernel) rfl ⟨_, _, rfl, rfl, h⟩
    · refine ⟨78, 84, by rw [hr]; decide +kernel, by decide, ?_⟩
      replace h := h.2.2.2.2.1 hr
      refine xr_blk (lv1 := [(0, .ref 80), (1, .int x1)]) (st1 := [.int (gI v 80 37)]) (S1 := rt (v_I v 80 0 (nI 0))) (pc1 := 88) [(.aload_n 0, .null, 0, 0), (.getfield 294, .null, 12, 37)] [] (by decide +kernel) rfl trivial ?_
      exact xr_iret (by decide +kernel) rfl ⟨_, _, rfl, rfl, h⟩
    · refine ⟨83, 89, by rw [hr]; decide +kernel, by decide, ?_⟩
      replace h := h.2.2.2.2.2.1 hr
      refine xr_blk (lv1 := [(0, .ref 80), (1, .int x1)]) (st1 := [.int (gI v 80 50)]) (S1 := rt (v_I v 80 0 (nI 0))) (pc1 := 93) [(.aload_n 0, .null, 0, 0), (.getfield 297, .null, 12, 50)] [] (by decide +kernel) rfl trivial ?_
      exact xr_iret (by decide +kernel) rfl ⟨_, _, rfl, rfl, h⟩
    · refine ⟨88, 94, by rw [hr]; decide +kernel, by decide, ?_⟩
      replace h := h.2.2.2.2.2.2.1 hr
      refine xr_blk (lv1 := [(0, .ref 80), (1, .int x1)]) (st1 := [.int (gI v 80 51)]) (S1 := rt (v_I v 80 0 (nI 0))) (pc1 := 98) [(.aload_n 0, .null, 0, 0), (.getfield 303, .null, 12, 51)] [] (by decide +kernel) rfl trivial ?_
      exact xr_iret (by decide +kernel) rfl ⟨_, _, rfl, rfl, h⟩
    · refine ⟨93, 99, by rw [hr]; decide +kernel, by decide, ?_⟩
      replace h := h.2.2.2.2.2.2.2.1 hr
      refine xr_blk (lv1 := [(0, .ref 80), (1, .int x1)]) (st1 := [.int (gI v 80 52)]) (S1 := rt (v_I v 80 0 (nI 0))) (pc1 := 103) [(.aload_n 0, .null, 0, 0), (.getfield 306, .null, 12, 52)] [] (by decide +kernel) rfl trivial ?_
      exact xr_iret (by decide +kernel) rfl ⟨_, _, rfl, rfl, h⟩
    · refine ⟨98, 104, by rw [hr]; decide +kernel, by decide, ?_⟩
      replace h := h.2.2.2.2.2.2.2.2.1 hr
      refine xr_blk (lv1 := [(0, .ref 80), (1, .int x1)]) (st1 := [.int (gI v 80 70)]) (S1 := rt (v_I v 80 0 (nI 0))) (pc1 := 108) [(.aload_n 0, .null, 0, 0), (.getfield 377, .null, 12, 70)] [] (by decide +kernel) rfl trivial ?_
      exact xr_iret (by decide +kernel) rfl ⟨_, _, rfl, rfl, h⟩
    · refine ⟨103, 109, by rw [hr]; decide +kernel, by decide, ?_⟩
      replace h := h.2.2.2.2.2.2.2.2.2.1 hr
      refine xr_blk (lv1 := [(0, .ref 80), (1, .int x1)]) (st1 := [.int (gI v 80 3)]) (S1 := rt (v_I v 80 0 (nI 0))) (pc1 := 113) [(.aload_n 0, .null, 0, 0), (.getfield 193, .null, 12, 3)] [] (by decide +kernel) rfl trivial ?_
      exact xr_iret (by decide +kernel) rfl ⟨_, _, rfl, rfl, h⟩
    · refine ⟨108, 114, by rw [hr]; decide +kernel, by decide, ?_⟩
      replace h := h.2.2.2.2.2.2.2.2.2.2 hr
      refine xr_blk (lv1 := [(0, .ref 80), (1, .int x1)]) (st1 := [.int (gI v 80 4)]) (S1 := rt (v_I v 80 0 (nI 0))) (pc1 := 118) [(.aload_n 0, .null, 0, 0), (.getfield 359, .null, 12, 4)] [] (by decide +kernel) rfl trivial ?_
      exact xr_iret (by decide +kernel) rfl ⟨_, _, rfl, rfl, h⟩
theorem ok_224 : x_mOK 224 := ⟨x_tm8 (List.mem_of_getElem? (i := 129) rfl) rfl, 114, by decide +kernel⟩
/-! J6_bitCount_0f7a4: method 225, java/lang/Integer.bitCount(I)I -/
set_option maxRecDepth 100000 in
theorem w_J6_bitCount_0f7a4_0 {E : Nat × (Nat → Int32)} {d : Nat} {v : xV} {x0 : Int32} {Q : Int32 → xV → Prop} (h : ∀ y1 : Int32, y1 = (x0 - (((x0).toUInt32 >>> (((nI 1)).toUInt32 &&& Int32.toUInt32 31)).toInt32 &&& (nI 1431655765))) → ∀ y2 : Int32, y2 = ((y1 &&& (nI 858993459)) + (((y1).toUInt32 >>> (((nI 2)).toUInt32 &&& Int32.toUInt32 31)).toInt32 &&& (nI 858993459))) → ∀ y3 : Int32, y3 = ((y2 + ((y2).toUInt32 >>> (((nI 4)).toUInt32 &&& Int32.toUInt32 31)).toInt32) &&& (nI 252645135)) → ∀ y4 : Int32, y4 = (y3 + ((y3).toUInt32 >>> (((nI 8)).toUInt32 &&& Int32.toUInt32 31)).toInt32) → ∀ y5 : Int32, y5 = (y4 + ((y4).toUInt32 >>> (((nI 16)).toUInt32 &&& Int32.toUInt32 31)).toInt32) → Q (y5 &&& (nI 63)) v) : RI E d 225 0 [(0, .int x0)] v Q := by
  unfold RI
  refine xr_blk (lv1 := [(0, .int x0)]) (st1 := [.int (x0 - (((x0).toUInt32 >>> (((nI 1)).toUInt32 &&& Int32.toUInt32 31)).toInt32 &&& (nI 1431655765)))]) (S1 := rt v) (pc1 := 9) [(.iload_n 0, .null, 0, 0), (.iload_n 0, .null, 0, 0), (.iconst 1, .int (nI 1), 0, 0), (.iushr, .null, 0, 0), (.ldc_w 265, .int (nI 1431655765), 0, 0), (.iand, .null, 0, 0), (.isub, .null, 0, 0)] [] (by decide +kernel) rfl trivial ?_
  refine xr_topi (fun y1 ey1 => ?_)
  replace h := h y1 ey1
  refine xr_blk (lv1 := [(0, .int y1)]) (st1 := [.int ((y1 &&& (nI 858993459)) + (((y1).toUInt32 >>> (((nI 2)).toUInt32 &&& Int32.toUInt32 31)).toInt32 &&& (nI 858993459)))]) (S1 := rt v) (pc1 := 23) [(.istore_n 0, .null, 0, 0), (.iload_n 0, .null, 0, 0), (.ldc_w 266, .int (nI 858993459), 0, 0), (.iand, .null, 0, 0), (.iload_n 0, .null, 0, 0), (.iconst 2, .int (nI 2), 0, 0), (.iushr, .null, 0, 0), (.ldc_w 266, .int (nI 858993459), 0, 0), (.iand, .null, 0, 0), (.iadd, .null, 0, 0)] [] (by decide +kernel) rfl trivial ?_
  refine xr_topi (fun y2 ey2 => ?_)
  replace h := h y2 ey2
  refine xr_blk (lv1 := [(0, .int y2)]) (st1 := [.int ((y2 + ((y2).toUInt32 >>> (((nI 4)).toUInt32 &&& Int32.toUInt32 31)).toInt32) &&& (nI 252645135))]) (S1 := rt v) (pc1 := 33) [(.istore_n 0, .null, 0, 0), (.iload_n 0, .null, 0, 0), (.iload_n 0, .null, 0, 0), (.iconst 4, .int (nI 4), 0, 0), (.iushr, .null, 0, 0), (.iadd, .null, 0, 0), (.ldc_w 267, .int (nI 252645135), 0, 0), (.iand, .null, 0, 0)] [] (by decide +kernel) rfl trivial ?_
  refine xr_topi (fun y3 ey3 => ?_)
  replace h := h y3 ey3
  refine xr_blk (lv1 := [(0, .int y3)]) (st1 := [.int (y3 + ((y3).toUInt32 >>> (((nI 8)).toUInt32 &&& Int32.toUInt32 31)).toInt32)]) (S1 := rt v) (pc1 := 40) [(.istore_n 0, .null, 0, 0), (.iload_n 0, .null, 0, 0), (.iload_n 0, .null, 0, 0), (.bipush 8, .int (nI 8), 0, 0), (.iushr, .null, 0, 0), (.iadd, .null, 0, 0)] [] (by decide +kernel) rfl trivial ?_
  refine xr_topi (fun y4 ey4 => ?_)
  replace h := h y4 ey4
  refine xr_blk (lv1 := [(0, .int y4)]) (st1 := [.int (y4 + ((y4).toUInt32 >>> (((nI 16)).toUInt32 &&& Int32.toUInt32 31)).toInt32)]) (S1 := rt v) (pc1 := 47) [(.istore_n 0, .null, 0, 0), (.iload_n 0, .null, 0, 0), (.iload_n 0, .null, 0, 0), (.bipush 16, .int (nI 16), 0, 0), (.iushr, .null, 0, 0), (.iadd, .null, 0, 0)] [] (by decide +kernel) rfl trivial ?_
  refine xr_topi (fun y5 ey5 => ?_)
  replace h := h y5 ey5
  refine xr_blk (lv1 := [(0, .int y5)]) (st1 := [.int (y5 &&& (nI 63))]) (S1 := rt v) (pc1 := 52) [(.istore_n 0, .null, 0, 0), (.iload_n 0, .null, 0, 0), (.bipush 63, .int (nI 63), 0, 0), (.iand, .null, 0, 0)] [] (by decide +kernel) rfl trivial ?_
  exact xr_iret (by decide +kernel) rfl ⟨_, _, rfl, rfl, h⟩
theorem ok_225 : x_mOK 225 := ⟨x_tm4 (List.mem_of_getElem? (i := 100) rfl) rfl, 120, by decide +kernel⟩
/-! J7_rangeCheck_23922: method 228, java/util/Arrays.rangeCheck(III)V -/
set_option maxRecDepth 100000 in
theorem w_J7_rangeCheck_23922_0 {E : Nat × (Nat → Int32)} {d : Nat} {v : xV} {x0 : Int32} {x1 : Int32} {x2 : Int32} {Q : xV → Prop} (h : ((x1 ≤ x2 → (((nI 0) ≤ x1 → ((x2 ≤ x0 → Q v) ∧ (¬ x2 ≤ x0 → False))) ∧ (¬ (nI 0) ≤ x1 → False))) ∧ (¬ x1 ≤ x2 → False))) : RV E (d + 1) 228 0 [(0, .int x0), (1, .int x1), (2, .int x2)] v Q := by
  unfold RV
  refine xr_blk (lv1 := [(0, .int x0), (1, .int x1), (2, .int x2)]) (st1 := [.int x2, .int x1]) (S1 := rt v) (pc1 := 2) [(.iload_n 1, .null, 0, 0), (.iload_n 2, .null, 0, 0)] [] (by decide +kernel) rfl trivial ?_
  refine xr_ic_le (tgt := 46) (off := 44) (by decide +kernel) (by decide) (fun hc => ?_) (fun hc => ?_)
  · replace h := h.1 hc
    refine xr_blk (lv1 := [(0, .int x0), (1, .int x1), (2, .int x2)]) (st1 := [.int x1]) (S1 := rt v) (pc1 := 47) [(.iload_n 1, .null, 0, 0)] [] (by decide +kernel) rfl trivial ?_
    refine xr_if_ge (tgt := 59) (off := 12) (by decide +kernel) (by decide) (fun hc => ?_) (fun hc => ?_)
    · replace h := h.1 hc
      refine xr_blk (lv1 := [(0, .int x0), (1, .int x1), (2, .int x2)]) (st1 := [.int x0, .int x2]) (S1 := rt v) (pc1 := 61) [(.iload_n 2, .null, 0, 0), (.iload_n 0, .null, 0, 0)] [] (by decide +kernel) rfl trivial ?_
      refine xr_ic_le (tgt := 73) (off := 12) (by decide +kernel) (by decide) (fun hc => ?_) (fun hc => ?_)
      · replace h := h.1 hc
        exact xr_ret0 (by decide +kernel) rfl ⟨_, rfl, rfl, h⟩
      · replace h := h.2 hc
        exact h.elim
    · replace h := h.2 hc
      exact h.elim
  · replace h := h.2 hc
    exact h.elim
theorem ok_228 : x_mOK 228 := ⟨x_tm4 (List.mem_of_getElem? (i := 132) rfl) rfl, 105, by decide +kernel⟩
/-! J7_fill_d0a16: method 229, java/util/Arrays.fill([JJ)V -/
set_option maxRecDepth 100000 in
theorem w_J7_fill_d0a16_0 {E : Nat × (Nat → Int32)} {d : Nat} {v : xV} {x1 : Int64} {Q : xV → Prop} (h : ∀ y1 : Int32, y1 = (Int32.ofNat 560) → RV E d 229 6 [(0, .ref 71), (1, .long x1), (3, .int (nI 0)), (4, .int y1)] v Q) : RV E d 229 0 [(0, .ref 71), (1, .long x1)] v Q := by
  unfold RV
  refine xr_blk (lv1 := [(3, .int (nI 0)), (0, .ref 71), (1, .long x1)]) (st1 := [.int (Int32.ofNat 560)]) (S1 := rt v) (pc1 := 4) [(.iconst 0, .int (nI 0), 0, 0), (.istore_n 3, .null, 0, 0), (.aload_n 0, .null, 0, 0), (.arraylength, .null, 0, 0)] [] (by decide +kernel) rfl trivial ?_
  refine xr_topi (fun y1 ey1 => ?_)
  replace h := h y1 ey1
  refine xr_blk (lv1 := [(4, .int y1), (3, .int (nI 0)), (0, .ref 71), (1, .long x1)]) (st1 := []) (S1 := rt v) (pc1 := 6) [(.istore 4, .null, 0, 0)] [] (by decide +kernel) rfl trivial ?_
  exact x_R.sub [2, 3, 1, 0] rfl h
set_option maxRecDepth 100000 in
theorem w_J7_fill_d0a16_6 {E : Nat × (Nat → Int32)} {d : Nat} {v : xV} {x1 : Int64} {x3 : Int32} {x4 : Int32} {Q : xV → Prop} (h : ((x4 ≤ x3 → Q v) ∧ (¬ x4 ≤ x3 → vp_in x3 560 ∧ RV E d 229 6 [(0, .ref 71), (1, .long x1), (3, .int (x3 + (nI 1))), (4, .int x4)] (v_B v 71 (vp_updL (gB v 71) (x3).toNatClampNeg x1)) Q))) : RV E d 229 6 [(0, .ref 71), (1, .long x1), (3, .int x3), (4, .int x4)] v Q := by
  unfold RV
  refine xr_blk (lv1 := [(0, .ref 71), (1, .long x1), (3, .int x3), (4, .int x4)]) (st1 := [.int x4, .int x3]) (S1 := rt v) (pc1 := 9) [(.iload_n 3, .null, 0, 0), (.iload 4, .null, 0, 0)] [] (by decide +kernel) rfl trivial ?_
  refine xr_ic_ge (tgt := 22) (off := 13) (by decide +kernel) (by decide) (fun hc => ?_) (fun hc => ?_)
  · replace h := h.1 hc
    exact xr_ret0 (by decide +kernel) rfl ⟨_, rfl, rfl, h⟩
  · replace h := h.2 hc
    obtain ⟨hb1, h⟩ := h
    refine xr_blk (lv1 := [(3, .int (x3 + (nI 1))), (0, .ref 71), (1, .long x1), (4, .int x4)]) (st1 := []) (S1 := rt (v_B v 71 (vp_updL (gB v 71) (x3).toNatClampNeg x1))) (pc1 := 19) [(.aload_n 0, .null, 0, 0), (.iload_n 3, .null, 0, 0), (.lload_n 1, .null, 0, 0), (.lastore, .null, 0, 0), (.iinc 3 1, .int (nI 1), 0, 0)] [(x3, 560)] (by decide +kernel) rfl ⟨hb1, trivial⟩ ?_
    refine xr_goto (tgt := 6) (off := -13) (by decide +kernel) (by decide) ?_
    exact x_R.sub [1, 2, 0, 3] rfl h
theorem ok_229 : x_mOK 229 := ⟨x_tm4 (List.mem_of_getElem? (i := 232) rfl) rfl, 105, by decide +kernel⟩
/-! J7_fill_53178: method 230, java/util/Arrays.fill([II)V -/
set_option maxRecDepth 100000 in
theorem w_J7_fill_53178_0 {E : Nat × (Nat → Int32)} {d : Nat} {v : xV} {j : Nat} {x1 : Int32} {Q : xV → Prop} (h : gK v j = 100 ∧ ∀ y2 : Int32, y2 = (Int32.ofNat (gN v j)) → RV E d 230 5 [(0, .ref j), (1, .int x1), (2, .int (nI 0)), (3, .int y2)] v Q) : RV E d 230 0 [(0, .ref j), (1, .int x1)] v Q := by
  unfold RV
  refine xr_blk (lv1 := [(2, .int (nI 0)), (0, .ref j), (1, .int x1)]) (st1 := [.ref j]) (S1 := rt v) (pc1 := 3) [(.iconst 0, .int (nI 0), 0, 0), (.istore_n 2, .null, 0, 0), (.aload_n 0, .null, 0, 0)] [] (by decide +kernel) rfl trivial ?_
  obtain ⟨hk1, h⟩ := h
  refine xr_alen (by decide +kernel) hk1 ?_
  show x_R E d 230 4 [(2, .int (nI 0)), (0, .ref j), (1, .int x1)] [.int (Int32.ofNat (gN v j))] (rt v) _
  refine xr_topi (fun y2 ey2 => ?_)
  replace h := h y2 ey2
  refine xr_blk (lv1 := [(3, .int y2), (2, .int (nI 0)), (0, .ref j), (1, .int x1)]) (st1 := []) (S1 := rt v) (pc1 := 5) [(.istore_n 3, .null, 0, 0)] [] (by decide +kernel) rfl trivial ?_
  exact x_R.sub [2, 3, 1, 0] rfl h
set_option maxRecDepth 100000 in
theorem w_J7_fill_53178_5 {E : Nat × (Nat → Int32)} {d : Nat} {v : xV} {j : Nat} {x1 : Int32} {x2 : Int32} {x3 : Int32} {Q : xV → Prop} (h : ((x3 ≤ x2 → Q v) ∧ (¬ x3 ≤ x2 → gK v j = 100 ∧ vp_in x2 (gN v j) ∧ RV E d 230 5 [(0, .ref j), (1, .int x1), (2, .int (x2 + (nI 1))), (3, .int x3)] (v_A v j (upd (gA v j) (x2).toNatClampNeg x1)) Q))) : RV E d 230 5 [(0, .ref j), (1, .int x1), (2, .int x2), (3, .int x3)] v Q := by
  unfold RV
  refine xr_blk (lv1 := [(0, .ref j), (1, .int x1), (2, .int x2), (3, .int x3)]) (st1 := [.int x3, .int x2]) (S1 := rt v) (pc1 := 7) [(.iload_n 2, .null, 0, 0), (.iload_n 3, .null, 0, 0)] [] (by decide +kernel) rfl trivial ?_
  refine xr_ic_ge (tgt := 20) (off := 13) (by decide +kernel) (by decide) (fun hc => ?_) (fun hc => ?_)
  · replace h := h.1 hc
    exact xr_ret0 (by decide +kernel) rfl ⟨_, rfl, rfl, h⟩
  · replace h := h.2 hc
    refine xr_blk (lv1 := [(0, .ref j), (1, .int x1), (2, .int x2), (3, .int x3)]) (st1 := [.int x1, .int x2, .ref j]) (S1 := rt v) (pc1 := 13) [(.aload_n 0, .null, 0, 0), (.iload_n 2, .null, 0, 0), (.iload_n 1, .null, 0, 0)] [] (by decide +kernel) rfl trivial ?_
    obtain ⟨hk2, hb1, h⟩ := h
    refine xr_iast (by decide +kernel) hk2 hb1 ?_
    show x_R E d 230 14 [(0, .ref j), (1, .int x1), (2, .int x2), (3, .int x3)] [] (rt (v_A v j (upd (gA v j) (x2).toNatClampNeg x1))) _
    refine xr_blk (lv1 := [(2, .int (x2 + (nI 1))), (0, .ref j), (1, .int x1), (3, .int x3)]) (st1 := []) (S1 := rt (v_A v j (upd (gA v j) (x2).toNatClampNeg x1))) (pc1 := 17) [(.iinc 2 1, .int (nI 1), 0, 0)] [] (by decide +kernel) rfl trivial ?_
    refine xr_goto (tgt := 5) (off := -12) (by decide +kernel) (by decide) ?_
    exact x_R.sub [1, 2, 0, 3] rfl h
theorem ok_230 : x_mOK 230 := ⟨x_tm1 (List.mem_of_getElem? (i := 98) rfl) rfl, 105, by decide +kernel⟩
/-! J7_fill_fda19: method 231, java/util/Arrays.fill([IIII)V -/
set_option maxRecDepth 100000 in
theorem w_J7_fill_fda19_0 {E : Nat × (Nat → Int32)} {d : Nat} {v : xV} {j : Nat} {x1 : Int32} {x2 : Int32} {x3 : Int32} {Q : xV → Prop} (h : gK v j = 100 ∧ KV E d 228 [.int (Int32.ofNat (gN v j)), .int x1, .int x2] v (fun v2 => RV E (d + 1) 231 10 [(0, .ref j), (2, .int x2), (3, .int x3), (4, .int x1)] v2 Q)) : RV E (d + 1) 231 0 [(0, .ref j), (1, .int x1), (2, .int x2), (3, .int x3)] v Q := by
  unfold RV
  refine xr_blk (lv1 := [(0, .ref j), (1, .int x1), (2, .int x2), (3, .int x3)]) (st1 := [.ref j]) (S1 := rt v) (pc1 := 1) [(.aload_n 0, .null, 0, 0)] [] (by decide +kernel) rfl trivial ?_
  obtain ⟨hk1, h⟩ := h
  refine xr_alen (by decide +kernel) hk1 ?_
  show x_R E (d + 1) 231 2 [(0, .ref j), (1, .int x1), (2, .int x2), (3, .int x3)] [.int (Int32.ofNat (gN v j))] (rt v) _
  refine xr_blk (lv1 := [(0, .ref j), (1, .int x1), (2, .int x2), (3, .int x3)]) (st1 := [.int x2, .int x1, .int (Int32.ofNat (gN v j))]) (S1 := rt v) (pc1 := 4) [(.iload_n 1, .null, 0, 0), (.iload_n 2, .null, 0, 0)] [] (by decide +kernel) rfl trivial ?_
  refine xk_SV (As := [.int (Int32.ofNat (gN v j)), .int x1, .int x2]) (rest := []) (idx := 13) (i0 := 13) (m1 := 228) (ps := [950, 951]) (by decide +kernel) (by decide +kernel) (by decide) rfl (Nat.le_of_ble_eq_true rfl) rfl h (fun v2 h => ?_)
  refine xr_blk (lv1 := [(4, .int x1), (0, .ref j), (1, .int x1), (2, .int x2), (3, .int x3)]) (st1 := []) (S1 := rt v2) (pc1 := 10) [(.iload_n 1, .null, 0, 0), (.istore 4, .null, 0, 0)] [] (by decide +kernel) rfl trivial ?_
  exact x_R.sub [1, 3, 4, 0] rfl h
set_option maxRecDepth 100000 in
theorem w_J7_fill_fda19_10 {E : Nat × (Nat → Int32)} {d : Nat} {v : xV} {j : Nat} {x2 : Int32} {x3 : Int32} {x4 : Int32} {Q : xV → Prop} (h : ((x2 ≤ x4 → Q v) ∧ (¬ x2 ≤ x4 → gK v j = 100 ∧ vp_in x4 (gN v j) ∧ RV E (d + 1) 231 10 [(0, .ref j), (2, .int x2), (3, .int x3), (4, .int (x4 + (nI 1)))] (v_A v j (upd (gA v j) (x4).toNatClampNeg x3)) Q))) : RV E (d + 1) 231 10 [(0, .ref j), (2, .int x2), (3, .int x3), (4, .int x4)] v Q := by
  unfold RV
  refine xr_blk (lv1 := [(0, .ref j), (2, .int x2), (3, .int x3), (4, .int x4)]) (st1 := [.int x2, .int x4]) (S1 := rt v) (pc1 := 13) [(.iload 4, .null, 0, 0), (.iload_n 2, .null, 0, 0)] [] (by decide +kernel) rfl trivial ?_
  refine xr_ic_ge (tgt := 27) (off := 14) (by decide +kernel) (by decide) (fun hc => ?_) (fun hc => ?_)
  · replace h := h.1 hc
    exact xr_ret0 (by decide +kernel) rfl ⟨_, rfl, rfl, h⟩
  · replace h := h.2 hc
    refine xr_blk (lv1 := [(0, .ref j), (2, .int x2), (3, .int x3), (4, .int x4)]) (st1 := [.int x3, .int x4, .ref j]) (S1 := rt v) (pc1 := 20) [(.aload_n 0, .null, 0, 0), (.iload 4, .null, 0, 0), (.iload_n 3, .null, 0, 0)] [] (by decide +kernel) rfl trivial ?_
    obtain ⟨hk2, hb1, h⟩ := h
    refine xr_iast (by decide +kernel) hk2 hb1 ?_
    show x_R E (d + 1) 231 21 [(0, .ref j), (2, .int x2), (3, .int x3), (4, .int x4)] [] (rt (v_A v j (upd (gA v j) (x4).toNatClampNeg x3))) _
    refine xr_blk (lv1 := [(4, .int (x4 + (nI 1))), (0, .ref j), (2, .int x2), (3, .int x3)]) (st1 := []) (S1 := rt (v_A v j (upd (gA v j) (x4).toNatClampNeg x3))) (pc1 := 24) [(.iinc 4 1, .int (nI 1), 0, 0)] [] (by decide +kernel) rfl trivial ?_
    refine xr_goto (tgt := 10) (off := -14) (by decide +kernel) (by decide) ?_
    exact x_R.sub [1, 2, 3, 0] rfl h
theorem ok_231 : x_mOK 231 := ⟨x_tm4 (List.mem_of_getElem? (i := 129) rfl) rfl, 105, by decide +kernel⟩

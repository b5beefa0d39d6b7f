/-! X12_photo: method 174, ScrawlHouseModel.photo(I)Z -/
set_option maxRecDepth 100000 in
theorem w_X12_photo_0 {E : Nat × (Nat → Int32)} {d : Nat} {v : xV} {x1 : Int32} {Q : Int32 → xV → Prop} (h : KI E d 151 [.ref 80] (v_I v 80 0 (nI 0)) (fun y2 v1 => KI E d 172 [.ref 80, .int x1] v1 (fun y4 v3 => ((y4 = (nI 0) → Q (nI 0) v3) ∧ (¬ y4 = (nI 0) → vp_in x1 20 ∧ ((¬ y2 = ((nI 2) * ((gA v3 102) (x1).toNatClampNeg)) → Q (nI 0) v3) ∧ (y2 = ((nI 2) * ((gA v3 102) (x1).toNatClampNeg)) → ((¬ (gI v3 80 51) = (nI 60) → RI E (d + 1) 174 43 [(0, .ref 80), (1, .int x1), (2, .int y2), (3, .int (nI 0))] v3 Q) ∧ ((gI v3 80 51) = (nI 60) → Q (nI 0) v3))))))))) : RI E (d + 1) 174 0 [(0, .ref 80), (1, .int x1)] v Q := by
  unfold RI
  refine xr_blk (lv1 := [(0, .ref 80), (1, .int x1)]) (st1 := [.ref 80]) (S1 := rt (v_I v 80 0 (nI 0))) (pc1 := 6) [(.aload_n 0, .null, 0, 0), (.iconst 0, .int (nI 0), 0, 0), (.putfield 190, .null, 12, 0), (.aload_n 0, .null, 0, 0)] [] (by decide +kernel) rfl trivial ?_
  refine xk_VI (As := []) (bb := 80) (rest := []) (idx := 210) (i0 := 210) (m1 := 151) (ps := [1627, 1629, 58]) (by decide +kernel) (by decide +kernel) (by decide) rfl ((gK_s (by decide)).trans (by decide +kernel)) (by decide) (Nat.le_of_ble_eq_true rfl) rfl h (fun y2 v1 h => ?_)
  refine xr_blk (lv1 := [(2, .int y2), (0, .ref 80), (1, .int x1)]) (st1 := [.int x1, .ref 80]) (S1 := rt v1) (pc1 := 12) [(.istore_n 2, .null, 0, 0), (.aload_n 0, .null, 0, 0), (.iload_n 1, .null, 0, 0)] [] (by decide +kernel) rfl trivial ?_
  refine xk_VI (As := [.int x1]) (bb := 80) (rest := []) (idx := 300) (i0 := 300) (m1 := 172) (ps := [1700, 1702, 66]) (by decide +kernel) (by decide +kernel) (by decide) rfl ((gK_s (by decide)).trans (by decide +kernel)) (by decide) (Nat.le_of_ble_eq_true rfl) rfl h (fun y4 v3 h => ?_)
  refine xr_if_eq (tgt := 39) (off := 24) (by decide +kernel) (by decide) (fun hc => ?_) (fun hc => ?_)
  · replace h := h.1 hc
    refine xr_blk (lv1 := [(2, .int y2), (0, .ref 80), (1, .int x1)]) (st1 := [.int (nI 0)]) (S1 := rt v3) (pc1 := 40) [(.iconst 0, .int (nI 0), 0, 0)] [] (by decide +kernel) rfl trivial ?_
    exact xr_zret (by decide +kernel) rfl x_in2_0 ⟨_, _, rfl, rfl, h⟩
  · replace h := h.2 hc
    obtain ⟨hb5, h⟩ := h
    refine xr_blk (lv1 := [(2, .int y2), (0, .ref 80), (1, .int x1)]) (st1 := [.int ((nI 2) * ((gA v3 102) (x1).toNatClampNeg)), .int y2]) (S1 := rt v3) (pc1 := 27) [(.iload_n 2, .null, 0, 0), (.iconst 2, .int (nI 2), 0, 0), (.aload_n 0, .null, 0, 0), (.getfield 78, .null, 12, 40), (.iload_n 1, .null, 0, 0), (.iaload, .null, 0, 0), (.imul, .null, 0, 0)] [(x1, 20)] (by decide +kernel) rfl ⟨hb5, trivial⟩ ?_
    refine xr_ic_ne (tgt := 39) (off := 12) (by decide +kernel) (by decide) (fun hc => ?_) (fun hc => ?_)
    · replace h := h.1 hc
      refine xr_blk (lv1 := [(2, .int y2), (0, .ref 80), (1, .int x1)]) (st1 := [.int (nI 0)]) (S1 := rt v3) (pc1 := 40) [(.iconst 0, .int (nI 0), 0, 0)] [] (by decide +kernel) rfl trivial ?_
      exact xr_zret (by decide +kernel) rfl x_in2_0 ⟨_, _, rfl, rfl, h⟩
    · replace h := h.2 hc
      refine xr_blk (lv1 := [(2, .int y2), (0, .ref 80), (1, .int x1)]) (st1 := [.int (nI 60), .int (gI v3 80 51)]) (S1 := rt v3) (pc1 := 36) [(.aload_n 0, .null, 0, 0), (.getfield 303, .null, 12, 51), (.bipush 60, .int (nI 60), 0, 0)] [] (by decide +kernel) rfl trivial ?_
      refine xr_ic_ne (tgt := 41) (off := 5) (by decide +kernel) (by decide) (fun hc => ?_) (fun hc => ?_)
      · replace h := h.1 hc
        refine xr_blk (lv1 := [(3, .int (nI 0)), (2, .int y2), (0, .ref 80), (1, .int x1)]) (st1 := []) (S1 := rt v3) (pc1 := 43) [(.iconst 0, .int (nI 0), 0, 0), (.istore_n 3, .null, 0, 0)] [] (by decide +kernel) rfl trivial ?_
        exact x_R.sub [2, 3, 1, 0] rfl h
      · replace h := h.2 hc
        refine xr_blk (lv1 := [(2, .int y2), (0, .ref 80), (1, .int x1)]) (st1 := [.int (nI 0)]) (S1 := rt v3) (pc1 := 40) [(.iconst 0, .int (nI 0), 0, 0)] [] (by decide +kernel) rfl trivial ?_
        exact xr_zret (by decide +kernel) rfl x_in2_0 ⟨_, _, rfl, rfl, h⟩
set_option maxRecDepth 100000 in
theorem w_X12_photo_43 {E : Nat × (Nat → Int32)} {d : Nat} {v : xV} {x1 : Int32} {x2 : Int32} {x3 : Int32} {Q : Int32 → xV → Prop} (h : ((x2 ≤ x3 → RI E (d + 1) 174 76 [(0, .ref 80), (1, .int x1), (3, .int (nI 0))] v Q) ∧ (¬ x2 ≤ x3 → vp_in x3 240 ∧ vp_in (x3 + (nI 1)) 240 ∧ (((((gA v 81) (x3).toNatClampNeg) &&& ((gA v 81) ((x3 + (nI 1))).toNatClampNeg)) = (nI 0) → RI E (d + 1) 174 43 [(0, .ref 80), (1, .int x1), (2, .int x2), (3, .int (x3 + (nI 2)))] v Q) ∧ (¬ (((gA v 81) (x3).toNatClampNeg) &&& ((gA v 81) ((x3 + (nI 1))).toNatClampNeg)) = (nI 0) → Q (nI 0) v))))) : RI E (d + 1) 174 43 [(0, .ref 80), (1, .int x1), (2, .int x2), (3, .int x3)] v Q := by
  unfold RI
  refine xr_blk (lv1 := [(0, .ref 80), (1, .int x1), (2, .int x2), (3, .int x3)]) (st1 := [.int x2, .int x3]) (S1 := rt v) (pc1 := 45) [(.iload_n 3, .null, 0, 0), (.iload_n 2, .null, 0, 0)] [] (by decide +kernel) rfl trivial ?_
  refine xr_ic_ge (tgt := 74) (off := 29) (by decide +kernel) (by decide) (fun hc => ?_) (fun hc => ?_)
  · replace h := h.1 hc
    refine xr_blk (lv1 := [(3, .int (nI 0)), (0, .ref 80), (1, .int x1), (2, .int x2)]) (st1 := []) (S1 := rt v) (pc1 := 76) [(.iconst 0, .int (nI 0), 0, 0), (.istore_n 3, .null, 0, 0)] [] (by decide +kernel) rfl trivial ?_
    exact x_R.sub [1, 2, 0] rfl h
  · replace h := h.2 hc
    obtain ⟨hb1, h⟩ := h
    obtain ⟨hb2, h⟩ := h
    refine xr_blk (lv1 := [(0, .ref 80), (1, .int x1), (2, .int x2), (3, .int x3)]) (st1 := [.int (((gA v 81) (x3).toNatClampNeg) &&& ((gA v 81) ((x3 + (nI 1))).toNatClampNeg))]) (S1 := rt v) (pc1 := 63) [(.aload_n 0, .null, 0, 0), (.getfield 7, .null, 12, 1), (.iload_n 3, .null, 0, 0), (.iaload, .null, 0, 0), (.aload_n 0, .null, 0, 0), (.getfield 7, .null, 12, 1), (.iload_n 3, .null, 0, 0), (.iconst 1, .int (nI 1), 0, 0), (.iadd, .null, 0, 0), (.iaload, .null, 0, 0), (.iand, .null, 0, 0)] [(x3, 240), ((x3 + (nI 1)), 240)] (by decide +kernel) rfl ⟨hb1, hb2, trivial⟩ ?_
    refine xr_if_eq (tgt := 68) (off := 5) (by decide +kernel) (by decide) (fun hc => ?_) (fun hc => ?_)
    · replace h := h.1 hc
      refine xr_blk (lv1 := [(3, .int (x3 + (nI 2))), (0, .ref 80), (1, .int x1), (2, .int x2)]) (st1 := []) (S1 := rt v) (pc1 := 71) [(.iinc 3 2, .int (nI 2), 0, 0)] [] (by decide +kernel) rfl trivial ?_
      refine xr_goto (tgt := 43) (off := -28) (by decide +kernel) (by decide) ?_
      exact x_R.sub [1, 2, 3, 0] rfl h
    · replace h := h.2 hc
      refine xr_blk (lv1 := [(0, .ref 80), (1, .int x1), (2, .int x2), (3, .int x3)]) (st1 := [.int (nI 0)]) (S1 := rt v) (pc1 := 67) [(.iconst 0, .int (nI 0), 0, 0)] [] (by decide +kernel) rfl trivial ?_
      exact xr_zret (by decide +kernel) rfl x_in2_0 ⟨_, _, rfl, rfl, h⟩
set_option maxRecDepth 100000 in
theorem w_X12_photo_76 {E : Nat × (Nat → Int32)} {d : Nat} {v : xV} {x1 : Int32} {x3 : Int32} {Q : Int32 → xV → Prop} (h : vp_in x1 20 ∧ ((((gA v 102) (x1).toNatClampNeg) ≤ x3 → vp_in (gI v 80 51) 60 ∧ vp_in (gI v 80 51) 60 ∧ Q (nI 1) (v_I (v_I (v_A (v_A v 104 (upd (gA v 104) ((gI v 80 51)).toNatClampNeg x1)) 105 (upd (gA v 105) ((gI v 80 51)).toNatClampNeg (gI v 80 5))) 80 51 ((gI v 80 51) + (nI 1))) 80 6 ((gI v 80 6) + (nI 1)))) ∧ (¬ ((gA v 102) (x1).toNatClampNeg) ≤ x3 → vp_in ((nI 2) * x3) 240 ∧ vp_in (((nI 24) * (gI v 80 51)) + x3) 1440 ∧ vp_in (((nI 2) * x3) + (nI 1)) 240 ∧ vp_in (((nI 24) * (gI v 80 51)) + x3) 1440 ∧ RI E (d + 1) 174 76 [(0, .ref 80), (1, .int x1), (3, .int (x3 + (nI 1)))] (v_A (v_A v 106 (upd (gA v 106) ((((nI 24) * (gI v 80 51)) + x3)).toNatClampNeg ((gA v 81) (((nI 2) * x3)).toNatClampNeg))) 107 (upd (gA v 107) ((((nI 24) * (gI v 80 51)) + x3)).toNatClampNeg ((gA v 81) ((((nI 2) * x3) + (nI 1))).toNatClampNeg))) Q))) : RI E (d + 1) 174 76 [(0, .ref 80), (1, .int x1), (3, .int x3)] v Q := by
  unfold RI
  obtain ⟨hb1, h⟩ := h
  refine xr_blk (lv1 := [(0, .ref 80), (1, .int x1), (3, .int x3)]) (st1 := [.int ((gA v 102) (x1).toNatClampNeg), .int x3]) (S1 := rt v) (pc1 := 83) [(.iload_n 3, .null, 0, 0), (.aload_n 0, .null, 0, 0), (.getfield 78, .null, 12, 40), (.iload_n 1, .null, 0, 0), (.iaload, .null, 0, 0)] [(x1, 20)] (by decide +kernel) rfl ⟨hb1, trivial⟩ ?_
  refine xr_ic_ge (tgt := 138) (off := 55) (by decide +kernel) (by decide) (fun hc => ?_) (fun hc => ?_)
  · replace h := h.1 hc
    obtain ⟨hb2, h⟩ := h
    obtain ⟨hb3, h⟩ := h
    refine xr_blk (lv1 := [(0, .ref 80), (1, .int x1), (3, .int x3)]) (st1 := [.int (nI 1)]) (S1 := rt (v_I (v_I (v_A (v_A v 104 (upd (gA v 104) ((gI v 80 51)).toNatClampNeg x1)) 105 (upd (gA v 105) ((gI v 80 51)).toNatClampNeg (gI v 80 5))) 80 51 ((gI v 80 51) + (nI 1))) 80 6 ((gI v 80 6) + (nI 1)))) (pc1 := 182) [(.aload_n 0, .null, 0, 0), (.getfield 84, .null, 12, 42), (.aload_n 0, .null, 0, 0), (.getfield 303, .null, 12, 51), (.iload_n 1, .null, 0, 0), (.iastore, .null, 0, 0), (.aload_n 0, .null, 0, 0), (.getfield 87, .null, 12, 43), (.aload_n 0, .null, 0, 0), (.getfield 303, .null, 12, 51), (.aload_n 0, .null, 0, 0), (.getfield 204, .null, 12, 5), (.iastore, .null, 0, 0), (.aload_n 0, .null, 0, 0), (.dup, .null, 0, 0), (.getfield 303, .null, 12, 51), (.iconst 1, .int (nI 1), 0, 0), (.iadd, .null, 0, 0), (.putfield 303, .null, 12, 51), (.aload_n 0, .null, 0, 0), (.dup, .null, 0, 0), (.getfield 16, .null, 12, 6), (.iconst 1, .int (nI 1), 0, 0), (.iadd, .null, 0, 0), (.putfield 16, .null, 12, 6), (.iconst 1, .int (nI 1), 0, 0)] [((gI v 80 51), 60), ((gI v 80 51), 60)] (by decide +kernel) rfl ⟨hb2, hb3, trivial⟩ ?_
    exact xr_zret (by decide +kernel) rfl x_in2_1 ⟨_, _, rfl, rfl, h⟩
  · replace h := h.2 hc
    obtain ⟨hb4, h⟩ := h
    obtain ⟨hb5, h⟩ := h
    obtain ⟨hb6, h⟩ := h
    obtain ⟨hb7, h⟩ := h
    refine xr_blk (lv1 := [(3, .int (x3 + (nI 1))), (0, .ref 80), (1, .int x1)]) (st1 := []) (S1 := rt (v_A (v_A v 106 (upd (gA v 106) ((((nI 24) * (gI v 80 51)) + x3)).toNatClampNeg ((gA v 81) (((nI 2) * x3)).toNatClampNeg))) 107 (upd (gA v 107) ((((nI 24) * (gI v 80 51)) + x3)).toNatClampNeg ((gA v 81) ((((nI 2) * x3) + (nI 1))).toNatClampNeg)))) (pc1 := 135) [(.aload_n 0, .null, 0, 0), (.getfield 90, .null, 12, 44), (.bipush 24, .int (nI 24), 0, 0), (.aload_n 0, .null, 0, 0), (.getfield 303, .null, 12, 51), (.imul, .null, 0, 0), (.iload_n 3, .null, 0, 0), (.iadd, .null, 0, 0), (.aload_n 0, .null, 0, 0), (.getfield 7, .null, 12, 1), (.iconst 2, .int (nI 2), 0, 0), (.iload_n 3, .null, 0, 0), (.imul, .null, 0, 0), (.iaload, .null, 0, 0), (.iastore, .null, 0, 0), (.aload_n 0, .null, 0, 0), (.getfield 93, .null, 12, 45), (.bipush 24, .int (nI 24), 0, 0), (.aload_n 0, .null, 0, 0), (.getfield 303, .null, 12, 51), (.imul, .null, 0, 0), (.iload_n 3, .null, 0, 0), (.iadd, .null, 0, 0), (.aload_n 0, .null, 0, 0), (.getfield 7, .null, 12, 1), (.iconst 2, .int (nI 2), 0, 0), (.iload_n 3, .null, 0, 0), (.imul, .null, 0, 0), (.iconst 1, .int (nI 1), 0, 0), (.iadd, .null, 0, 0), (.iaload, .null, 0, 0), (.iastore, .null, 0, 0), (.iinc 3 1, .int (nI 1), 0, 0)] [(((nI 2) * x3), 240), ((((nI 24) * (gI v 80 51)) + x3), 1440), ((((nI 2) * x3) + (nI 1)), 240), ((((nI 24) * (gI v 80 51)) + x3), 1440)] (by decide +kernel) rfl ⟨hb4, hb5, hb6, hb7, trivial⟩ ?_
    refine xr_goto (tgt := 76) (off := -59) (by decide +kernel) (by decide) ?_
    exact x_R.sub [1, 2, 0] rfl h
theorem ok_174 : x_mOK 174 := ⟨x_tm7 (List.mem_of_getElem? (i := 159) rfl) rfl, 114, by decide +kernel⟩
/-! X12_drawing: method 175, ScrawlHouseModel.drawing(II)Z -/
set_option maxRecDepth 100000 in
theorem w_X12_drawing_0 {E : Nat × (Nat → Int32)} {d : Nat} {v : xV} {x1 : Int32} {x2 : Int32} {Q : Int32 → xV → Prop} (h : KI E d 151 [.ref 80] (v_I v 80 0 (nI 0)) (fun y2 v1 => KI E d 172 [.ref 80, .int x1] v1 (fun y4 v3 => ((y4 = (nI 0) → Q (nI 0) v3) ∧ (¬ y4 = (nI 0) → KI E d 152 [.int x2, .int (nI 0), .int (nI 3)] v3 (fun y6 v5 => ((y6 = (nI 0) → Q (nI 0) v5) ∧ (¬ y6 = (nI 0) → vp_in x1 20 ∧ ((¬ y2 = ((gA v5 102) (x1).toNatClampNeg) → Q (nI 0) v5) ∧ (y2 = ((gA v5 102) (x1).toNatClampNeg) → ((¬ (gI v5 80 52) = (nI 40) → RI E (d + 1) 175 51 [(0, .ref 80), (1, .int x1), (2, .int x2), (3, .int y2), (4, .int (nI 0))] v5 Q) ∧ ((gI v5 80 52) = (nI 40) → Q (nI 0) v5)))))))))))) : RI E (d + 1) 175 0 [(0, .ref 80), (1, .int x1), (2, .int x2)] v Q := by
  unfold RI
  refine xr_blk (lv1 := [(0, .ref 80), (1, .int x1), (2, .int x2)]) (st1 := [.ref 80]) (S1 := rt (v_I v 80 0 (nI 0))) (pc1 := 6) [(.aload_n 0, .null, 0, 0), (.iconst 0, .int (nI 0), 0, 0), (.putfield 190, .null, 12, 0), (.aload_n 0, .null, 0, 0)] [] (by decide +kernel) rfl trivial ?_
  refine xk_VI (As := []) (bb := 80) (rest := []) (idx := 210) (i0 := 210) (m1 := 151) (ps := [1627, 1629, 58]) (by decide +kernel) (by decide +kernel) (by decide) rfl ((gK_s (by decide)).trans (by decide +kernel)) (by decide) (Nat.le_of_ble_eq_true rfl) rfl h (fun y2 v1 h => ?_)
  refine xr_blk (lv1 := [(3, .int y2), (0, .ref 80), (1, .int x1), (2, .int x2)]) (st1 := [.int x1, .ref 80]) (S1 := rt v1) (pc1 := 12) [(.istore_n 3, .null, 0, 0), (.aload_n 0, .null, 0, 0), (.iload_n 1, .null, 0, 0)] [] (by decide +kernel) rfl trivial ?_
  refine xk_VI (As := [.int x1]) (bb := 80) (rest := []) (idx := 300) (i0 := 300) (m1 := 172) (ps := [1700, 1702, 66]) (by decide +kernel) (by decide +kernel) (by decide) rfl ((gK_s (by decide)).trans (by decide +kernel)) (by decide) (Nat.le_of_ble_eq_true rfl) rfl h (fun y4 v3 h => ?_)
  refine xr_if_eq (tgt := 46) (off := 31) (by decide +kernel) (by decide) (fun hc => ?_) (fun hc => ?_)
  · replace h := h.1 hc
    refine xr_blk (lv1 := [(3, .int y2), (0, .ref 80), (1, .int x1), (2, .int x2)]) (st1 := [.int (nI 0)]) (S1 := rt v3) (pc1 := 47) [(.iconst 0, .int (nI 0), 0, 0)] [] (by decide +kernel) rfl trivial ?_
    exact xr_zret (by decide +kernel) rfl x_in2_0 ⟨_, _, rfl, rfl, h⟩
  · replace h := h.2 hc
    refine xr_blk (lv1 := [(3, .int y2), (0, .ref 80), (1, .int x1), (2, .int x2)]) (st1 := [.int (nI 3), .int (nI 0), .int x2]) (S1 := rt v3) (pc1 := 21) [(.iload_n 2, .null, 0, 0), (.iconst 0, .int (nI 0), 0, 0), (.iconst 3, .int (nI 3), 0, 0)] [] (by decide +kernel) rfl trivial ?_
    refine xk_SI (As := [.int x2, .int (nI 0), .int (nI 3)]) (rest := []) (idx := 200) (i0 := 200) (m1 := 152) (ps := [1616, 1617]) (by decide +kernel) (by decide +kernel) (by decide) rfl (Nat.le_of_ble_eq_true rfl) rfl h (fun y6 v5 h => ?_)
    refine xr_if_eq (tgt := 46) (off := 22) (by decide +kernel) (by decide) (fun hc => ?_) (fun hc => ?_)
    · replace h := h.1 hc
      refine xr_blk (lv1 := [(3, .int y2), (0, .ref 80), (1, .int x1), (2, .int x2)]) (st1 := [.int (nI 0)]) (S1 := rt v5) (pc1 := 47) [(.iconst 0, .int (nI 0), 0, 0)] [] (by decide +kernel) rfl trivial ?_
      exact xr_zret (by decide +kernel) rfl x_in2_0 ⟨_, _, rfl, rfl, h⟩
    · replace h := h.2 hc
      obtain ⟨hb7, h⟩ := h
      refine xr_blk (lv1 := [(3, .int y2), (0, .ref 80), (1, .int x1), (2, .int x2)]) (st1 := [.int ((gA v5 102) (x1).toNatClampNeg), .int y2]) (S1 := rt v5) (pc1 := 34) [(.iload_n 3, .null, 0, 0), (.aload_n 0, .null, 0, 0), (.getfield 78, .null, 12, 40), (.iload_n 1, .null, 0, 0), (.iaload, .null, 0, 0)] [(x1, 20)] (by decide +kernel) rfl ⟨hb7, trivial⟩ ?_
      refine xr_ic_ne (tgt := 46) (off := 12) (by decide +kernel) (by decide) (fun hc => ?_) (fun hc => ?_)
      · replace h := h.1 hc
        refine xr_blk (lv1 := [(3, .int y2), (0, .ref 80), (1, .int x1), (2, .int x2)]) (st1 := [.int (nI 0)]) (S1 := rt v5) (pc1 := 47) [(.iconst 0, .int (nI 0), 0, 0)] [] (by decide +kernel) rfl trivial ?_
        exact xr_zret (by decide +kernel) rfl x_in2_0 ⟨_, _, rfl, rfl, h⟩
      · replace h := h.2 hc
        refine xr_blk (lv1 := [(3, .int y2), (0, .ref 80), (1, .int x1), (2, .int x2)]) (st1 := [.int (nI 40), .int (gI v5 80 52)]) (S1 := rt v5) (pc1 := 43) [(.aload_n 0, .null, 0, 0), (.getfield 306, .null, 12, 52), (.bipush 40, .int (nI 40), 0, 0)] [] (by decide +kernel) rfl trivial ?_
        refine xr_ic_ne (tgt := 48) (off := 5) (by decide +kernel) (by decide) (fun hc => ?_) (fun hc => ?_)
        · replace h := h.1 hc
          refine xr_blk (lv1 := [(4, .int (nI 0)), (3, .int y2), (0, .ref 80), (1, .int x1), (2, .int x2)]) (st1 := []) (S1 := rt v5) (pc1 := 51) [(.iconst 0, .int (nI 0), 0, 0), (.istore 4, .null, 0, 0)] [] (by decide +kernel) rfl trivial ?_
          exact x_R.sub [2, 3, 4, 1, 0] rfl h
        · replace h := h.2 hc
          refine xr_blk (lv1 := [(3, .int y2), (0, .ref 80), (1, .int x1), (2, .int x2)]) (st1 := [.int (nI 0)]) (S1 := rt v5) (pc1 := 47) [(.iconst 0, .int (nI 0), 0, 0)] [] (by decide +kernel) rfl trivial ?_
          exact xr_zret (by decide +kernel) rfl x_in2_0 ⟨_, _, rfl, rfl, h⟩
set_option maxRecDepth 100000 in
theorem w_X12_drawing_51 {E : Nat × (Nat → Int32)} {d : Nat} {v : xV} {x1 : Int32} {x2 : Int32} {x3 : Int32} {x4 : Int32} {Q : Int32 → xV → Prop} (h : ((x3 ≤ x4 → RI E (d + 1) 175 93 [(0, .ref 80), (1, .int x1), (2, .int x2), (3, .int x3), (4, .int (nI 0))] v Q) ∧ (¬ x3 ≤ x4 → vp_in x4 240 ∧ KI E d 154 [.int ((gA v 81) (x4).toNatClampNeg)] v (fun y3 v2 => ((¬ y3 = (nI 0) → RI E (d + 1) 175 51 [(0, .ref 80), (1, .int x1), (2, .int x2), (3, .int x3), (4, .int (x4 + (nI 1)))] v2 Q) ∧ (y3 = (nI 0) → vp_in x4 240 ∧ ((((gA v2 81) (x4).toNatClampNeg) = (nI 46) → RI E (d + 1) 175 51 [(0, .ref 80), (1, .int x1), (2, .int x2), (3, .int x3), (4, .int (x4 + (nI 1)))] v2 Q) ∧ (¬ ((gA v2 81) (x4).toNatClampNeg) = (nI 46) → Q (nI 0) v2)))))))) : RI E (d + 1) 175 51 [(0, .ref 80), (1, .int x1), (2, .int x2), (3, .int x3), (4, .int x4)] v Q := by
  unfold RI
  refine xr_blk (lv1 := [(0, .ref 80), (1, .int x1), (2, .int x2), (3, .int x3), (4, .int x4)]) (st1 := [.int x3, .int x4]) (S1 := rt v) (pc1 := 54) [(.iload 4, .null, 0, 0), (.iload_n 3, .null, 0, 0)] [] (by decide +kernel) rfl trivial ?_
  refine xr_ic_ge (tgt := 90) (off := 36) (by decide +kernel) (by decide) (fun hc => ?_) (fun hc => ?_)
  · replace h := h.1 hc
    refine xr_blk (lv1 := [(4, .int (nI 0)), (0, .ref 80), (1, .int x1), (2, .int x2), (3, .int x3)]) (st1 := []) (S1 := rt v) (pc1 := 93) [(.iconst 0, .int (nI 0), 0, 0), (.istore 4, .null, 0, 0)] [] (by decide +kernel) rfl trivial ?_
    exact x_R.sub [1, 2, 3, 4, 0] rfl h
  · replace h := h.2 hc
    obtain ⟨hb1, h⟩ := h
    refine xr_blk (lv1 := [(0, .ref 80), (1, .int x1), (2, .int x2), (3, .int x3), (4, .int x4)]) (st1 := [.int ((gA v 81) (x4).toNatClampNeg)]) (S1 := rt v) (pc1 := 64) [(.aload_n 0, .null, 0, 0), (.getfield 7, .null, 12, 1), (.iload 4, .null, 0, 0), (.iaload, .null, 0, 0)] [(x4, 240)] (by decide +kernel) rfl ⟨hb1, trivial⟩ ?_
    refine xk_SI (As := [.int ((gA v 81) (x4).toNatClampNeg)]) (rest := []) (idx := 214) (i0 := 214) (m1 := 154) (ps := [1631, 1632]) (by decide +kernel) (by decide +kernel) (by decide) rfl (Nat.le_of_ble_eq_true rfl) rfl h (fun y3 v2 h => ?_)
    refine xr_if_ne (tgt := 84) (off := 17) (by decide +kernel) (by decide) (fun hc => ?_) (fun hc => ?_)
    · replace h := h.1 hc
      refine xr_blk (lv1 := [(4, .int (x4 + (nI 1))), (0, .ref 80), (1, .int x1), (2, .int x2), (3, .int x3)]) (st1 := []) (S1 := rt v2) (pc1 := 87) [(.iinc 4 1, .int (nI 1), 0, 0)] [] (by decide +kernel) rfl trivial ?_
      refine xr_goto (tgt := 51) (off := -36) (by decide +kernel) (by decide) ?_
      exact x_R.sub [1, 2, 3, 4, 0] rfl h
    · replace h := h.2 hc
      obtain ⟨hb4, h⟩ := h
      refine xr_blk (lv1 := [(0, .ref 80), (1, .int x1), (2, .int x2), (3, .int x3), (4, .int x4)]) (st1 := [.int (nI 46), .int ((gA v2 81) (x4).toNatClampNeg)]) (S1 := rt v2) (pc1 := 79) [(.aload_n 0, .null, 0, 0), (.getfield 7, .null, 12, 1), (.iload 4, .null, 0, 0), (.iaload, .null, 0, 0), (.bipush 46, .int (nI 46), 0, 0)] [(x4, 240)] (by decide +kernel) rfl ⟨hb4, trivial⟩ ?_
      refine xr_ic_eq (tgt := 84) (off := 5) (by decide +kernel) (by decide) (fun hc => ?_) (fun hc => ?_)
      · replace h := h.1 hc
        refine xr_blk (lv1 := [(4, .int (x4 + (nI 1))), (0, .ref 80), (1, .int x1), (2, .int x2), (3, .int x3)]) (st1 := []) (S1 := rt v2) (pc1 := 87) [(.iinc 4 1, .int (nI 1), 0, 0)] [] (by decide +kernel) rfl trivial ?_
        refine xr_goto (tgt := 51) (off := -36) (by decide +kernel) (by decide) ?_
        exact x_R.sub [1, 2, 3, 4, 0] rfl h
      · replace h := h.2 hc
        refine xr_blk (lv1 := [(0, .ref 80), (1, .int x1), (2, .int x2), (3, .int x3), (4, .int x4)]) (st1 := [.int (nI 0)]) (S1 := rt v2) (pc1 := 83) [(.iconst 0, .int (nI 0), 0, 0)] [] (by decide +kernel) rfl trivial ?_
        exact xr_zret (by decide +kernel) rfl x_in2_0 ⟨_, _, rfl, rfl, h⟩
set_option maxRecDepth 100000 in
theorem w_X12_drawing_93 {E : Nat × (Nat → Int32)} {d : Nat} {v : xV} {x1 : Int32} {x2 : Int32} {x3 : Int32} {x4 : Int32} {Q : Int32 → xV → Prop} (h : ((x3 ≤ x4 → vp_in (gI v 80 52) 40 ∧ vp_in (gI v 80 52) 40 ∧ vp_in (gI v 80 52) 40 ∧ Q (nI 1) (v_I (v_I (v_A (v_A (v_A v 108 (upd (gA v 108) ((gI v 80 52)).toNatClampNeg x1)) 109 (upd (gA v 109) ((gI v 80 52)).toNatClampNeg x2)) 110 (upd (gA v 110) ((gI v 80 52)).toNatClampNeg (gI v 80 5))) 80 52 ((gI v 80 52) + (nI 1))) 80 6 ((gI v 80 6) + (nI 1)))) ∧ (¬ x3 ≤ x4 → vp_in x4 240 ∧ ((¬ ((gA v 81) (x4).toNatClampNeg) = (nI 46) → vp_in x4 240 ∧ vp_in (((nI 24) * (gI v 80 52)) + x4) 960 ∧ RI E (d + 1) 175 93 [(0, .ref 80), (1, .int x1), (2, .int x2), (3, .int x3), (4, .int (x4 + (nI 1)))] (v_A v 111 (upd (gA v 111) ((((nI 24) * (gI v 80 52)) + x4)).toNatClampNeg (((gA v 81) (x4).toNatClampNeg) - (nI 97)))) Q) ∧ (((gA v 81) (x4).toNatClampNeg) = (nI 46) → vp_in (((nI 24) * (gI v 80 52)) + x4) 960 ∧ RI E (d + 1) 175 93 [(0, .ref 80), (1, .int x1), (2, .int x2), (3, .int x3), (4, .int (x4 + (nI 1)))] (v_A v 111 (upd (gA v 111) ((((nI 24) * (gI v 80 52)) + x4)).toNatClampNeg (-1 : Int32))) Q))))) : RI E (d + 1) 175 93 [(0, .ref 80), (1, .int x1), (2, .int x2), (3, .int x3), (4, .int x4)] v Q := by
  unfold RI
  refine xr_blk (lv1 := [(0, .ref 80), (1, .int x1), (2, .int x2), (3, .int x3), (4, .int x4)]) (st1 := [.int x3, .int x4]) (S1 := rt v) (pc1 := 96) [(.iload 4, .null, 0, 0), (.iload_n 3, .null, 0, 0)] [] (by decide +kernel) rfl trivial ?_
  refine xr_ic_ge (tgt := 146) (off := 50) (by decide +kernel) (by decide) (fun hc => ?_) (fun hc => ?_)
  · replace h := h.1 hc
    obtain ⟨hb1, h⟩ := h
    obtain ⟨hb2, h⟩ := h
    obtain ⟨hb3, h⟩ := h
    refine xr_blk (lv1 := [(0, .ref 80), (1, .int x1), (2, .int x2), (3, .int x3), (4, .int x4)]) (st1 := [.int (nI 1)]) (S1 := rt (v_I (v_I (v_A (v_A (v_A v 108 (upd (gA v 108) ((gI v 80 52)).toNatClampNeg x1)) 109 (upd (gA v 109) ((gI v 80 52)).toNatClampNeg x2)) 110 (upd (gA v 110) ((gI v 80 52)).toNatClampNeg (gI v 80 5))) 80 52 ((gI v 80 52) + (nI 1))) 80 6 ((gI v 80 6) + (nI 1)))) (pc1 := 200) [(.aload_n 0, .null, 0, 0), (.getfield 96, .null, 12, 46), (.aload_n 0, .null, 0, 0), (.getfield 306, .null, 12, 52), (.iload_n 1, .null, 0, 0), (.iastore, .null, 0, 0), (.aload_n 0, .null, 0, 0), (.getfield 99, .null, 12, 47), (.aload_n 0, .null, 0, 0), (.getfield 306, .null, 12, 52), (.iload_n 2, .null, 0, 0), (.iastore, .null, 0, 0), (.aload_n 0, .null, 0, 0), (.getfield 102, .null, 12, 48), (.aload_n 0, .null, 0, 0), (.getfield 306, .null, 12, 52), (.aload_n 0, .null, 0, 0), (.getfield 204, .null, 12, 5), (.iastore, .null, 0, 0), (.aload_n 0, .null, 0, 0), (.dup, .null, 0, 0), (.getfield 306, .null, 12, 52), (.iconst 1, .int (nI 1), 0, 0), (.iadd, .null, 0, 0), (.putfield 306, .null, 12, 52), (.aload_n 0, .null, 0, 0), (.dup, .null, 0, 0), (.getfield 16, .null, 12, 6), (.iconst 1, .int (nI 1), 0, 0), (.iadd, .null, 0, 0), (.putfield 16, .null, 12, 6), (.iconst 1, .int (nI 1), 0, 0)] [((gI v 80 52), 40), ((gI v 80 52), 40), ((gI v 80 52), 40)] (by decide +kernel) rfl ⟨hb1, hb2, hb3, trivial⟩ ?_
    exact xr_zret (by decide +kernel) rfl x_in2_1 ⟨_, _, rfl, rfl, h⟩
  · replace h := h.2 hc
    obtain ⟨hb4, h⟩ := h
    refine xr_blk (lv1 := [(0, .ref 80), (1, .int x1), (2, .int x2), (3, .int x3), (4, .int x4)]) (st1 := [.int (nI 46), .int ((gA v 81) (x4).toNatClampNeg), .int (((nI 24) * (gI v 80 52)) + x4), .ref 111]) (S1 := rt v) (pc1 := 122) [(.aload_n 0, .null, 0, 0), (.getfield 105, .null, 12, 49), (.bipush 24, .int (nI 24), 0, 0), (.aload_n 0, .null, 0, 0), (.getfield 306, .null, 12, 52), (.imul, .null, 0, 0), (.iload 4, .null, 0, 0), (.iadd, .null, 0, 0), (.aload_n 0, .null, 0, 0), (.getfield 7, .null, 12, 1), (.iload 4, .null, 0, 0), (.iaload, .null, 0, 0), (.bipush 46, .int (nI 46), 0, 0)] [(x4, 240)] (by decide +kernel) rfl ⟨hb4, trivial⟩ ?_
    refine xr_ic_ne (tgt := 129) (off := 7) (by decide +kernel) (by decide) (fun hc => ?_) (fun hc => ?_)
    · replace h := h.1 hc
      obtain ⟨hb5, h⟩ := h
      obtain ⟨hb6, h⟩ := h
      refine xr_blk (lv1 := [(4, .int (x4 + (nI 1))), (0, .ref 80), (1, .int x1), (2, .int x2), (3, .int x3)]) (st1 := []) (S1 := rt (v_A v 111 (upd (gA v 111) ((((nI 24) * (gI v 80 52)) + x4)).toNatClampNeg (((gA v 81) (x4).toNatClampNeg) - (nI 97))))) (pc1 := 143) [(.aload_n 0, .null, 0, 0), (.getfield 7, .null, 12, 1), (.iload 4, .null, 0, 0), (.iaload, .null, 0, 0), (.bipush 97, .int (nI 97), 0, 0), (.isub, .null, 0, 0), (.iastore, .null, 0, 0), (.iinc 4 1, .int (nI 1), 0, 0)] [(x4, 240), ((((nI 24) * (gI v 80 52)) + x4), 960)] (by decide +kernel) rfl ⟨hb5, hb6, trivial⟩ ?_
      refine xr_goto (tgt := 93) (off := -50) (by decide +kernel) (by decide) ?_
      exact x_R.sub [1, 2, 3, 4, 0] rfl h
    · replace h := h.2 hc
      refine xr_blk (lv1 := [(0, .ref 80), (1, .int x1), (2, .int x2), (3, .int x3), (4, .int x4)]) (st1 := [.int (-1), .int (((nI 24) * (gI v 80 52)) + x4), .ref 111]) (S1 := rt v) (pc1 := 126) [(.iconst (-1), .int (-1), 0, 0)] [] (by decide +kernel) rfl trivial ?_
      refine xr_goto (tgt := 139) (off := 13) (by decide +kernel) (by decide) ?_
      obtain ⟨hb7, h⟩ := h
      refine xr_blk (lv1 := [(4, .int (x4 + (nI 1))), (0, .ref 80), (1, .int x1), (2, .int x2), (3, .int x3)]) (st1 := []) (S1 := rt (v_A v 111 (upd (gA v 111) ((((nI 24) * (gI v 80 52)) + x4)).toNatClampNeg (-1 : Int32)))) (pc1 := 143) [(.iastore, .null, 0, 0), (.iinc 4 1, .int (nI 1), 0, 0)] [((((nI 24) * (gI v 80 52)) + x4), 960)] (by decide +kernel) rfl ⟨hb7, trivial⟩ ?_
      refine xr_goto (tgt := 93) (off := -50) (by decide +kernel) (by decide) ?_
      exact x_R.sub [1, 2, 3, 4, 0] rfl h
theorem ok_175 : x_mOK 175 := ⟨x_tm7 (List.mem_of_getElem? (i := 167) rfl) rfl, 114, by decide +kernel⟩
/-! X12_photoAt: method 176, ScrawlHouseModel.photoAt(II)I -/
set_option maxRecDepth 100000 in
theorem w_X12_photoAt_0 {E : Nat × (Nat → Int32)} {d : Nat} {v : xV} {x1 : Int32} {x2 : Int32} {Q : Int32 → xV → Prop} (h : RI E d 176 5 [(0, .ref 80), (1, .int x1), (2, .int x2), (3, .int (-1)), (4, .int (nI 0))] v Q) : RI E d 176 0 [(0, .ref 80), (1, .int x1), (2, .int x2)] v Q := by
  unfold RI
  refine xr_blk (lv1 := [(4, .int (nI 0)), (3, .int (-1)), (0, .ref 80), (1, .int x1), (2, .int x2)]) (st1 := []) (S1 := rt v) (pc1 := 5) [(.iconst (-1), .int (-1), 0, 0), (.istore_n 3, .null, 0, 0), (.iconst 0, .int (nI 0), 0, 0), (.istore 4, .null, 0, 0)] [] (by decide +kernel) rfl trivial ?_
  exact x_R.sub [2, 3, 4, 1, 0] rfl h
set_option maxRecDepth 100000 in
theorem w_X12_photoAt_5 {E : Nat × (Nat → Int32)} {d : Nat} {v : xV} {x1 : Int32} {x2 : Int32} {x3 : Int32} {x4 : Int32} {Q : Int32 → xV → Prop} (h : (((gI v 80 51) ≤ x4 → Q x3 v) ∧ (¬ (gI v 80 51) ≤ x4 → vp_in x4 60 ∧ ((¬ ((gA v 104) (x4).toNatClampNeg) = x1 → RI E d 176 5 [(0, .ref 80), (1, .int x1), (2, .int x2), (3, .int x3), (4, .int (x4 + (nI 1)))] v Q) ∧ (((gA v 104) (x4).toNatClampNeg) = x1 → vp_in x4 60 ∧ ((x2 < ((gA v 105) (x4).toNatClampNeg) → RI E d 176 5 [(0, .ref 80), (1, .int x1), (2, .int x2), (3, .int x3), (4, .int (x4 + (nI 1)))] v Q) ∧ (¬ x2 < ((gA v 105) (x4).toNatClampNeg) → RI E d 176 5 [(0, .ref 80), (1, .int x1), (2, .int x2), (3, .int x4), (4, .int (x4 + (nI 1)))] v Q))))))) : RI E d 176 5 [(0, .ref 80), (1, .int x1), (2, .int x2), (3, .int x3), (4, .int x4)] v Q := by
  unfold RI
  refine xr_blk (lv1 := [(0, .ref 80), (1, .int x1), (2, .int x2), (3, .int x3), (4, .int x4)]) (st1 := [.int (gI v 80 51), .int x4]) (S1 := rt v) (pc1 := 11) [(.iload 4, .null, 0, 0), (.aload_n 0, .null, 0, 0), (.getfield 303, .null, 12, 51)] [] (by decide +kernel) rfl trivial ?_
  refine xr_ic_ge (tgt := 45) (off := 34) (by decide +kernel) (by decide) (fun hc => ?_) (fun hc => ?_)
  · replace h := h.1 hc
    refine xr_blk (lv1 := [(0, .ref 80), (1, .int x1), (2, .int x2), (3, .int x3), (4, .int x4)]) (st1 := [.int x3]) (S1 := rt v) (pc1 := 46) [(.iload_n 3, .null, 0, 0)] [] (by decide +kernel) rfl trivial ?_
    exact xr_iret (by decide +kernel) rfl ⟨_, _, rfl, rfl, h⟩
  · replace h := h.2 hc
    obtain ⟨hb1, h⟩ := h
    refine xr_blk (lv1 := [(0, .ref 80), (1, .int x1), (2, .int x2), (3, .int x3), (4, .int x4)]) (st1 := [.int x1, .int ((gA v 104) (x4).toNatClampNeg)]) (S1 := rt v) (pc1 := 22) [(.aload_n 0, .null, 0, 0), (.getfield 84, .null, 12, 42), (.iload 4, .null, 0, 0), (.iaload, .null, 0, 0), (.iload_n 1, .null, 0, 0)] [(x4, 60)] (by decide +kernel) rfl ⟨hb1, trivial⟩ ?_
    refine xr_ic_ne (tgt := 39) (off := 17) (by decide +kernel) (by decide) (fun hc => ?_) (fun hc => ?_)
    · replace h := h.1 hc
      refine xr_blk (lv1 := [(4, .int (x4 + (nI 1))), (0, .ref 80), (1, .int x1), (2, .int x2), (3, .int x3)]) (st1 := []) (S1 := rt v) (pc1 := 42) [(.iinc 4 1, .int (nI 1), 0, 0)] [] (by decide +kernel) rfl trivial ?_
      refine xr_goto (tgt := 5) (off := -37) (by decide +kernel) (by decide) ?_
      exact x_R.sub [1, 2, 3, 4, 0] rfl h
    · replace h := h.2 hc
      obtain ⟨hb2, h⟩ := h
      refine xr_blk (lv1 := [(0, .ref 80), (1, .int x1), (2, .int x2), (3, .int x3), (4, .int x4)]) (st1 := [.int x2, .int ((gA v 105) (x4).toNatClampNeg)]) (S1 := rt v) (pc1 := 33) [(.aload_n 0, .null, 0, 0), (.getfield 87, .null, 12, 43), (.iload 4, .null, 0, 0), (.iaload, .null, 0, 0), (.iload_n 2, .null, 0, 0)] [(x4, 60)] (by decide +kernel) rfl ⟨hb2, trivial⟩ ?_
      refine xr_ic_gt (tgt := 39) (off := 6) (by decide +kernel) (by decide) (fun hc => ?_) (fun hc => ?_)
      · replace h := h.1 hc
        refine xr_blk (lv1 := [(4, .int (x4 + (nI 1))), (0, .ref 80), (1, .int x1), (2, .int x2), (3, .int x3)]) (st1 := []) (S1 := rt v) (pc1 := 42) [(.iinc 4 1, .int (nI 1), 0, 0)] [] (by decide +kernel) rfl trivial ?_
        refine xr_goto (tgt := 5) (off := -37) (by decide +kernel) (by decide) ?_
        exact x_R.sub [1, 2, 3, 4, 0] rfl h
      · replace h := h.2 hc
        refine xr_blk (lv1 := [(4, .int (x4 + (nI 1))), (3, .int x4), (0, .ref 80), (1, .int x1), (2, .int x2)]) (st1 := []) (S1 := rt v) (pc1 := 42) [(.iload 4, .null, 0, 0), (.istore_n 3, .null, 0, 0), (.iinc 4 1, .int (nI 1), 0, 0)] [] (by decide +kernel) rfl trivial ?_
        refine xr_goto (tgt := 5) (off := -37) (by decide +kernel) (by decide) ?_
        exact x_R.sub [2, 3, 4, 1, 0] rfl h
theorem ok_176 : x_mOK 176 := ⟨x_tm7 (List.mem_of_getElem? (i := 183) rfl) rfl, 114, by decide +kernel⟩
/-! X12_bitsOf: method 177, ScrawlHouseModel.bitsOf(I)I -/
set_option maxRecDepth 100000 in
theorem w_X12_bitsOf_0 {E : Nat × (Nat → Int32)} {d : Nat} {v : xV} {x0 : Int32} {Q : Int32 → xV → Prop} (h : RI E d 177 4 [(0, .int x0), (1, .int (nI 0)), (2, .int (nI 0))] v Q) : RI E d 177 0 [(0, .int x0)] v Q := by
  unfold RI
  refine xr_blk (lv1 := [(2, .int (nI 0)), (1, .int (nI 0)), (0, .int x0)]) (st1 := []) (S1 := rt v) (pc1 := 4) [(.iconst 0, .int (nI 0), 0, 0), (.istore_n 1, .null, 0, 0), (.iconst 0, .int (nI 0), 0, 0), (.istore_n 2, .null, 0, 0)] [] (by decide +kernel) rfl trivial ?_
  exact x_R.sub [2, 1, 0] rfl h
set_option maxRecDepth 100000 in
theorem w_X12_bitsOf_4 {E : Nat × (Nat → Int32)} {d : Nat} {v : xV} {x0 : Int32} {x1 : Int32} {x2 : Int32} {Q : Int32 → xV → Prop} (h : (((nI 10) ≤ x2 → Q x1 v) ∧ (¬ (nI 10) ≤ x2 → ∀ y1 : Int32, y1 = (x1 + ((x0 >>> (x2 &&& 31)) &&& (nI 1))) → RI E d 177 4 [(0, .int x0), (1, .int y1), (2, .int (x2 + (nI 1)))] v Q))) : RI E d 177 4 [(0, .int x0), (1, .int x1), (2, .int x2)] v Q := by
  unfold RI
  refine xr_blk (lv1 := [(0, .int x0), (1, .int x1), (2, .int x2)]) (st1 := [.int (nI 10), .int x2]) (S1 := rt v) (pc1 := 7) [(.iload_n 2, .null, 0, 0), (.bipush 10, .int (nI 10), 0, 0)] [] (by decide +kernel) rfl trivial ?_
  refine xr_ic_ge (tgt := 24) (off := 17) (by decide +kernel) (by decide) (fun hc => ?_) (fun hc => ?_)
  · replace h := h.1 hc
    refine xr_blk (lv1 := [(0, .int x0), (1, .int x1), (2, .int x2)]) (st1 := [.int x1]) (S1 := rt v) (pc1 := 25) [(.iload_n 1, .null, 0, 0)] [] (by decide +kernel) rfl trivial ?_
    exact xr_iret (by decide +kernel) rfl ⟨_, _, rfl, rfl, h⟩
  · replace h := h.2 hc
    refine xr_blk (lv1 := [(0, .int x0), (1, .int x1), (2, .int x2)]) (st1 := [.int (x1 + ((x0 >>> (x2 &&& 31)) &&& (nI 1)))]) (S1 := rt v) (pc1 := 17) [(.iload_n 1, .null, 0, 0), (.iload_n 0, .null, 0, 0), (.iload_n 2, .null, 0, 0), (.ishr, .null, 0, 0), (.iconst 1, .int (nI 1), 0, 0), (.iand, .null, 0, 0), (.iadd, .null, 0, 0)] [] (by decide +kernel) rfl trivial ?_
    refine xr_topi (fun y1 ey1 => ?_)
    replace h := h y1 ey1
    refine xr_blk (lv1 := [(2, .int (x2 + (nI 1))), (1, .int y1), (0, .int x0)]) (st1 := []) (S1 := rt v) (pc1 := 21) [(.istore_n 1, .null, 0, 0), (.iinc 2 1, .int (nI 1), 0, 0)] [] (by decide +kernel) rfl trivial ?_
    refine xr_goto (tgt := 4) (off := -17) (by decide +kernel) (by decide) ?_
    exact x_R.sub [2, 1, 0] rfl h
theorem ok_177 : x_mOK 177 := ⟨x_tm7 (List.mem_of_getElem? (i := 191) rfl) rfl, 114, by decide +kernel⟩
/-! X12_mayForm: method 178, ScrawlHouseModel.mayForm(III)Z -/
set_option maxRecDepth 100000 in
theorem w_X12_mayForm_0 {E : Nat × (Nat → Int32)} {d : Nat} {v : xV} {x1 : Int32} {x2 : Int32} {x3 : Int32} {Q : Int32 → xV → Prop} (h : vp_in (((nI 24) * x1) + x2) 1440 ∧ vp_in (((nI 24) * x1) + x2) 1440 ∧ ((¬ (x3 &&& ((gA v 106) ((((nI 24) * x1) + x2)).toNatClampNeg)) = ((gA v 106) ((((nI 24) * x1) + x2)).toNatClampNeg) → Q (nI 0) v) ∧ ((x3 &&& ((gA v 106) ((((nI 24) * x1) + x2)).toNatClampNeg)) = ((gA v 106) ((((nI 24) * x1) + x2)).toNatClampNeg) → vp_in (((nI 24) * x1) + x2) 1440 ∧ vp_in (((nI 24) * x1) + x2) 1440 ∧ ((¬ (x3 &&& ((((gA v 106) ((((nI 24) * x1) + x2)).toNatClampNeg) ||| ((gA v 107) ((((nI 24) * x1) + x2)).toNatClampNeg)) ^^^ (-1 : Int32))) = (nI 0) → Q (nI 0) v) ∧ ((x3 &&& ((((gA v 106) ((((nI 24) * x1) + x2)).toNatClampNeg) ||| ((gA v 107) ((((nI 24) * x1) + x2)).toNatClampNeg)) ^^^ (-1 : Int32))) = (nI 0) → Q (nI 1) v))))) : RI E d 178 0 [(0, .ref 80), (1, .int x1), (2, .int x2), (3, .int x3)] v Q := by
  unfold RI
  obtain ⟨hb1, h⟩ := h
  obtain ⟨hb2, h⟩ := h
  refine xr_blk (lv1 := [(0, .ref 80), (1, .int x1), (2, .int x2), (3, .int x3)]) (st1 := [.int ((gA v 106) ((((nI 24) * x1) + x2)).toNatClampNeg), .int (x3 &&& ((gA v 106) ((((nI 24) * x1) + x2)).toNatClampNeg))]) (S1 := rt v) (pc1 := 24) [(.iload_n 3, .null, 0, 0), (.aload_n 0, .null, 0, 0), (.getfield 90, .null, 12, 44), (.bipush 24, .int (nI 24), 0, 0), (.iload_n 1, .null, 0, 0), (.imul, .null, 0, 0), (.iload_n 2, .null, 0, 0), (.iadd, .null, 0, 0), (.iaload, .null, 0, 0), (.iand, .null, 0, 0), (.aload_n 0, .null, 0, 0), (.getfield 90, .null, 12, 44), (.bipush 24, .int (nI 24), 0, 0), (.iload_n 1, .null, 0, 0), (.imul, .null, 0, 0), (.iload_n 2, .null, 0, 0), (.iadd, .null, 0, 0), (.iaload, .null, 0, 0)] [((((nI 24) * x1) + x2), 1440), ((((nI 24) * x1) + x2), 1440)] (by decide +kernel) rfl ⟨hb1, hb2, trivial⟩ ?_
  refine xr_ic_ne (tgt := 61) (off := 37) (by decide +kernel) (by decide) (fun hc => ?_) (fun hc => ?_)
  · replace h := h.1 hc
    refine xr_blk (lv1 := [(0, .ref 80), (1, .int x1), (2, .int x2), (3, .int x3)]) (st1 := [.int (nI 0)]) (S1 := rt v) (pc1 := 62) [(.iconst 0, .int (nI 0), 0, 0)] [] (by decide +kernel) rfl trivial ?_
    exact xr_zret (by decide +kernel) rfl x_in2_0 ⟨_, _, rfl, rfl, h⟩
  · replace h := h.2 hc
    obtain ⟨hb3, h⟩ := h
    obtain ⟨hb4, h⟩ := h
    refine xr_blk (lv1 := [(0, .ref 80), (1, .int x1), (2, .int x2), (3, .int x3)]) (st1 := [.int (x3 &&& ((((gA v 106) ((((nI 24) * x1) + x2)).toNatClampNeg) ||| ((gA v 107) ((((nI 24) * x1) + x2)).toNatClampNeg)) ^^^ (-1 : Int32)))]) (S1 := rt v) (pc1 := 54) [(.iload_n 3, .null, 0, 0), (.aload_n 0, .null, 0, 0), (.getfield 90, .null, 12, 44), (.bipush 24, .int (nI 24), 0, 0), (.iload_n 1, .null, 0, 0), (.imul, .null, 0, 0), (.iload_n 2, .null, 0, 0), (.iadd, .null, 0, 0), (.iaload, .null, 0, 0), (.aload_n 0, .null, 0, 0), (.getfield 93, .null, 12, 45), (.bipush 24, .int (nI 24), 0, 0), (.iload_n 1, .null, 0, 0), (.imul, .null, 0, 0), (.iload_n 2, .null, 0, 0), (.iadd, .null, 0, 0), (.iaload, .null, 0, 0), (.ior, .null, 0, 0), (.iconst (-1), .int (-1), 0, 0), (.ixor, .null, 0, 0), (.iand, .null, 0, 0)] [((((nI 24) * x1) + x2), 1440), ((((nI 24) * x1) + x2), 1440)] (by decide +kernel) rfl ⟨hb3, hb4, trivial⟩ ?_
    refine xr_if_ne (tgt := 61) (off := 7) (by decide +kernel) (by decide) (fun hc => ?_) (fun hc => ?_)
    · replace h := h.1 hc
      refine xr_blk (lv1 := [(0, .ref 80), (1, .int x1), (2, .int x2), (3, .int x3)]) (st1 := [.int (nI 0)]) (S1 := rt v) (pc1 := 62) [(.iconst 0, .int (nI 0), 0, 0)] [] (by decide +kernel) rfl trivial ?_
      exact xr_zret (by decide +kernel) rfl x_in2_0 ⟨_, _, rfl, rfl, h⟩
    · replace h := h.2 hc
      refine xr_blk (lv1 := [(0, .ref 80), (1, .int x1), (2, .int x2), (3, .int x3)]) (st1 := [.int (nI 1)]) (S1 := rt v) (pc1 := 58) [(.iconst 1, .int (nI 1), 0, 0)] [] (by decide +kernel) rfl trivial ?_
      refine xr_goto (tgt := 62) (off := 4) (by decide +kernel) (by decide) ?_
      exact xr_zret (by decide +kernel) rfl x_in2_1 ⟨_, _, rfl, rfl, h⟩
theorem ok_178 : x_mOK 178 := ⟨x_tm7 (List.mem_of_getElem? (i := 188) rfl) rfl, 114, by decide +kernel⟩
/-! X12_costOf: method 179, ScrawlHouseModel.costOf(IIII)I -/
set_option maxRecDepth 100000 in
theorem w_X12_costOf_0 {E : Nat × (Nat → Int32)} {d : Nat} {v : xV} {x1 : Int32} {x2 : Int32} {x3 : Int32} {x4 : Int32} {Q : Int32 → xV → Prop} (h : KI E d 176 [.ref 80, .int x1, .int x4] v (fun y2 v1 => ((¬ y2 = (-1 : Int32) → RI E (d + 1) 179 27 [(0, .ref 80), (1, .int x1), (2, .int x2), (3, .int x3), (4, .int x4), (5, .int y2), (6, .int (nI 100000000)), (7, .int (nI 0))] v1 Q) ∧ (y2 = (-1 : Int32) → RI E (d + 1) 179 27 [(0, .ref 80), (1, .int x1), (2, .int x2), (3, .int x3), (4, .int x4), (5, .int y2), (6, .int (nI 0)), (7, .int (nI 0))] v1 Q)))) : RI E (d + 1) 179 0 [(0, .ref 80), (1, .int x1), (2, .int x2), (3, .int x3), (4, .int x4)] v Q := by
  unfold RI
  refine xr_blk (lv1 := [(0, .ref 80), (1, .int x1), (2, .int x2), (3, .int x3), (4, .int x4)]) (st1 := [.int x4, .int x1, .ref 80]) (S1 := rt v) (pc1 := 4) [(.aload_n 0, .null, 0, 0), (.iload_n 1, .null, 0, 0), (.iload 4, .null, 0, 0)] [] (by decide +kernel) rfl trivial ?_
  refine xk_VI (As := [.int x1, .int x4]) (bb := 80) (rest := []) (idx := 309) (i0 := 309) (m1 := 176) (ps := [1720, 1722, 69]) (by decide +kernel) (by decide +kernel) (by decide) rfl ((gK_s (by decide)).trans (by decide +kernel)) (by decide) (Nat.le_of_ble_eq_true rfl) rfl h (fun y2 v1 h => ?_)
  refine xr_blk (lv1 := [(5, .int y2), (0, .ref 80), (1, .int x1), (2, .int x2), (3, .int x3), (4, .int x4)]) (st1 := [.int (-1), .int y2]) (S1 := rt v1) (pc1 := 12) [(.istore 5, .null, 0, 0), (.iload 5, .null, 0, 0), (.iconst (-1), .int (-1), 0, 0)] [] (by decide +kernel) rfl trivial ?_
  refine xr_ic_ne (tgt := 19) (off := 7) (by decide +kernel) (by decide) (fun hc => ?_) (fun hc => ?_)
  · replace h := h.1 hc
    refine xr_blk (lv1 := [(7, .int (nI 0)), (6, .int (nI 100000000)), (5, .int y2), (0, .ref 80), (1, .int x1), (2, .int x2), (3, .int x3), (4, .int x4)]) (st1 := []) (S1 := rt v1) (pc1 := 27) [(.ldc_w 313, .int (nI 100000000), 0, 0), (.istore 6, .null, 0, 0), (.iconst 0, .int (nI 0), 0, 0), (.istore 7, .null, 0, 0)] [] (by decide +kernel) rfl trivial ?_
    exact x_R.sub [3, 4, 5, 6, 7, 2, 1, 0] rfl h
  · replace h := h.2 hc
    refine xr_blk (lv1 := [(5, .int y2), (0, .ref 80), (1, .int x1), (2, .int x2), (3, .int x3), (4, .int x4)]) (st1 := [.int (nI 0)]) (S1 := rt v1) (pc1 := 16) [(.iconst 0, .int (nI 0), 0, 0)] [] (by decide +kernel) rfl trivial ?_
    refine xr_goto (tgt := 22) (off := 6) (by decide +kernel) (by decide) ?_
    refine xr_blk (lv1 := [(7, .int (nI 0)), (6, .int (nI 0)), (5, .int y2), (0, .ref 80), (1, .int x1), (2, .int x2), (3, .int x3), (4, .int x4)]) (st1 := []) (S1 := rt v1) (pc1 := 27) [(.istore 6, .null, 0, 0), (.iconst 0, .int (nI 0), 0, 0), (.istore 7, .null, 0, 0)] [] (by decide +kernel) rfl trivial ?_
    exact x_R.sub [3, 4, 5, 6, 7, 2, 1, 0] rfl h
set_option maxRecDepth 100000 in
theorem w_X12_costOf_27 {E : Nat × (Nat → Int32)} {d : Nat} {v : xV} {x1 : Int32} {x2 : Int32} {x3 : Int32} {x4 : Int32} {x5 : Int32} {x6 : Int32} {x7 : Int32} {Q : Int32 → xV → Prop} (h : ((x5 = (-1 : Int32) → RI E (d + 1) 179 114 [(0, .ref 80), (1, .int x1), (2, .int x2), (3, .int x3), (4, .int x4), (6, .int x6), (7, .int (nI 0))] v Q) ∧ (¬ x5 = (-1 : Int32) → vp_in x3 26 ∧ ((((gA v 83) (x3).toNatClampNeg) ≤ x7 → RI E (d + 1) 179 114 [(0, .ref 80), (1, .int x1), (2, .int x2), (3, .int x3), (4, .int x4), (6, .int x6), (7, .int (nI 0))] v Q) ∧ (¬ ((gA v 83) (x3).toNatClampNeg) ≤ x7 → vp_in (((nI 3) * x3) + x7) 78 ∧ ∀ y3 : Int32, y3 = ((gA v 84) ((((nI 3) * x3) + x7)).toNatClampNeg) → KI E d 178 [.ref 80, .int x5, .int x2, .int y3] v (fun y5 v4 => ((¬ y5 = (nI 0) → vp_in (((nI 24) * x5) + x2) 1440 ∧ KI E d 177 [.int (y3 &&& (((gA v4 106) ((((nI 24) * x5) + x2)).toNatClampNeg) ^^^ (-1 : Int32)))] v4 (fun y8 v7 => ((x6 ≤ y8 → RI E (d + 1) 179 27 [(0, .ref 80), (1, .int x1), (2, .int x2), (3, .int x3), (4, .int x4), (5, .int x5), (6, .int x6), (7, .int (x7 + (nI 1)))] v7 Q) ∧ (¬ x6 ≤ y8 → RI E (d + 1) 179 27 [(0, .ref 80), (1, .int x1), (2, .int x2), (3, .int x3), (4, .int x4), (5, .int x5), (6, .int y8), (7, .int (x7 + (nI 1)))] v7 Q)))) ∧ (y5 = (nI 0) → RI E (d + 1) 179 27 [(0, .ref 80), (1, .int x1), (2, .int x2), (3, .int x3), (4, .int x4), (5, .int x5), (6, .int x6), (7, .int (x7 + (nI 1)))] v4 Q)))))))) : RI E (d + 1) 179 27 [(0, .ref 80), (1, .int x1), (2, .int x2), (3, .int x3), (4, .int x4), (5, .int x5), (6, .int x6), (7, .int x7)] v Q := by
  unfold RI
  refine xr_blk (lv1 := [(0, .ref 80), (1, .int x1), (2, .int x2), (3, .int x3), (4, .int x4), (5, .int x5), (6, .int x6), (7, .int x7)]) (st1 := [.int (-1), .int x5]) (S1 := rt v) (pc1 := 30) [(.iload 5, .null, 0, 0), (.iconst (-1), .int (-1), 0, 0)] [] (by decide +kernel) rfl trivial ?_
  refine xr_ic_eq (tgt := 111) (off := 81) (by decide +kernel) (by decide) (fun hc => ?_) (fun hc => ?_)
  · replace h := h.1 hc
    refine xr_blk (lv1 := [(7, .int (nI 0)), (0, .ref 80), (1, .int x1), (2, .int x2), (3, .int x3), (4, .int x4), (5, .int x5), (6, .int x6)]) (st1 := []) (S1 := rt v) (pc1 := 114) [(.iconst 0, .int (nI 0), 0, 0), (.istore 7, .null, 0, 0)] [] (by decide +kernel) rfl trivial ?_
    exact x_R.sub [1, 2, 3, 4, 5, 7, 0] rfl h
  · replace h := h.2 hc
    obtain ⟨hb1, h⟩ := h
    refine xr_blk (lv1 := [(0, .ref 80), (1, .int x1), (2, .int x2), (3, .int x3), (4, .int x4), (5, .int x5), (6, .int x6), (7, .int x7)]) (st1 := [.int ((gA v 83) (x3).toNatClampNeg), .int x7]) (S1 := rt v) (pc1 := 41) [(.iload 7, .null, 0, 0), (.aload_n 0, .null, 0, 0), (.getfield 20, .null, 12, 7), (.iload_n 3, .null, 0, 0), (.iaload, .null, 0, 0)] [(x3, 26)] (by decide +kernel) rfl ⟨hb1, trivial⟩ ?_
    refine xr_ic_ge (tgt := 111) (off := 70) (by decide +kernel) (by decide) (fun hc => ?_) (fun hc => ?_)
    · replace h := h.1 hc
      refine xr_blk (lv1 := [(7, .int (nI 0)), (0, .ref 80), (1, .int x1), (2, .int x2), (3, .int x3), (4, .int x4), (5, .int x5), (6, .int x6)]) (st1 := []) (S1 := rt v) (pc1 := 114) [(.iconst 0, .int (nI 0), 0, 0), (.istore 7, .null, 0, 0)] [] (by decide +kernel) rfl trivial ?_
      exact x_R.sub [1, 2, 3, 4, 5, 7, 0] rfl h
    · replace h := h.2 hc
      obtain ⟨hb2, h⟩ := h
      refine xr_blk (lv1 := [(0, .ref 80), (1, .int x1), (2, .int x2), (3, .int x3), (4, .int x4), (5, .int x5), (6, .int x6), (7, .int x7)]) (st1 := [.int ((gA v 84) ((((nI 3) * x3) + x7)).toNatClampNeg)]) (S1 := rt v) (pc1 := 55) [(.aload_n 0, .null, 0, 0), (.getfield 23, .null, 12, 8), (.iconst 3, .int (nI 3), 0, 0), (.iload_n 3, .null, 0, 0), (.imul, .null, 0, 0), (.iload 7, .null, 0, 0), (.iadd, .null, 0, 0), (.iaload, .null, 0, 0)] [((((nI 3) * x3) + x7), 78)] (by decide +kernel) rfl ⟨hb2, trivial⟩ ?_
      refine xr_topi (fun y3 ey3 => ?_)
      replace h := h y3 ey3
      refine xr_blk (lv1 := [(8, .int y3), (0, .ref 80), (1, .int x1), (2, .int x2), (3, .int x3), (4, .int x4), (5, .int x5), (6, .int x6), (7, .int x7)]) (st1 := [.int y3, .int x2, .int x5, .ref 80]) (S1 := rt v) (pc1 := 63) [(.istore 8, .null, 0, 0), (.aload_n 0, .null, 0, 0), (.iload 5, .null, 0, 0), (.iload_n 2, .null, 0, 0), (.iload 8, .null, 0, 0)] [] (by decide +kernel) rfl trivial ?_
      refine xk_VI (As := [.int x5, .int x2, .int y3]) (bb := 80) (rest := []) (idx := 314) (i0 := 314) (m1 := 178) (ps := [1725, 1727, 70]) (by decide +kernel) (by decide +kernel) (by decide) rfl ((gK_s (by decide)).trans (by decide +kernel)) (by decide) (Nat.le_of_ble_eq_true rfl) rfl h (fun y5 v4 h => ?_)
      refine xr_if_ne (tgt := 72) (off := 6) (by decide +kernel) (by decide) (fun hc => ?_) (fun hc => ?_)
      · replace h := h.1 hc
        obtain ⟨hb6, h⟩ := h
        refine xr_blk (lv1 := [(8, .int y3), (0, .ref 80), (1, .int x1), (2, .int x2), (3, .int x3), (4, .int x4), (5, .int x5), (6, .int x6), (7, .int x7)]) (st1 := [.int (y3 &&& (((gA v4 106) ((((nI 24) * x5) + x2)).toNatClampNeg) ^^^ (-1 : Int32)))]) (S1 := rt v4) (pc1 := 89) [(.iload 8, .null, 0, 0), (.aload_n 0, .null, 0, 0), (.getfield 90, .null, 12, 44), (.bipush 24, .int (nI 24), 0, 0), (.iload 5, .null, 0, 0), (.imul, .null, 0, 0), (.iload_n 2, .null, 0, 0), (.iadd, .null, 0, 0), (.iaload, .null, 0, 0), (.iconst (-1), .int (-1), 0, 0), (.ixor, .null, 0, 0), (.iand, .null, 0, 0)] [((((nI 24) * x5) + x2), 1440)] (by decide +kernel) rfl ⟨hb6, trivial⟩ ?_
        refine xk_SI (As := [.int (y3 &&& (((gA v4 106) ((((nI 24) * x5) + x2)).toNatClampNeg) ^^^ (-1 : Int32)))]) (rest := []) (idx := 317) (i0 := 317) (m1 := 177) (ps := [1729, 1730]) (by decide +kernel) (by decide +kernel) (by decide) rfl (Nat.le_of_ble_eq_true rfl) rfl h (fun y8 v7 h => ?_)
        refine xr_blk (lv1 := [(9, .int y8), (8, .int y3), (0, .ref 80), (1, .int x1), (2, .int x2), (3, .int x3), (4, .int x4), (5, .int x5), (6, .int x6), (7, .int x7)]) (st1 := [.int x6, .int y8]) (S1 := rt v7) (pc1 := 98) [(.istore 9, .null, 0, 0), (.iload 9, .null, 0, 0), (.iload 6, .null, 0, 0)] [] (by decide +kernel) rfl trivial ?_
        refine xr_ic_ge (tgt := 105) (off := 7) (by decide +kernel) (by decide) (fun hc => ?_) (fun hc => ?_)
        · replace h := h.1 hc
          refine xr_blk (lv1 := [(7, .int (x7 + (nI 1))), (9, .int y8), (8, .int y3), (0, .ref 80), (1, .int x1), (2, .int x2), (3, .int x3), (4, .int x4), (5, .int x5), (6, .int x6)]) (st1 := []) (S1 := rt v7) (pc1 := 108) [(.iinc 7 1, .int (nI 1), 0, 0)] [] (by decide +kernel) rfl trivial ?_
          refine xr_goto (tgt := 27) (off := -81) (by decide +kernel) (by decide) ?_
          exact x_R.sub [3, 4, 5, 6, 7, 8, 9, 0] rfl h
        · replace h := h.2 hc
          refine xr_blk (lv1 := [(7, .int (x7 + (nI 1))), (6, .int y8), (9, .int y8), (8, .int y3), (0, .ref 80), (1, .int x1), (2, .int x2), (3, .int x3), (4, .int x4), (5, .int x5)]) (st1 := []) (S1 := rt v7) (pc1 := 108) [(.iload 9, .null, 0, 0), (.istore 6, .null, 0, 0), (.iinc 7 1, .int (nI 1), 0, 0)] [] (by decide +kernel) rfl trivial ?_
          refine xr_goto (tgt := 27) (off := -81) (by decide +kernel) (by decide) ?_
          exact x_R.sub [4, 5, 6, 7, 8, 9, 1, 0] rfl h
      · replace h := h.2 hc
        refine xr_goto (tgt := 105) (off := 36) (by decide +kernel) (by decide) ?_
        refine xr_blk (lv1 := [(7, .int (x7 + (nI 1))), (8, .int y3), (0, .ref 80), (1, .int x1), (2, .int x2), (3, .int x3), (4, .int x4), (5, .int x5), (6, .int x6)]) (st1 := []) (S1 := rt v4) (pc1 := 108) [(.iinc 7 1, .int (nI 1), 0, 0)] [] (by decide +kernel) rfl trivial ?_
        refine xr_goto (tgt := 27) (off := -81) (by decide +kernel) (by decide) ?_
        exact x_R.sub [2, 3, 4, 5, 6, 7, 8, 0] rfl h
set_option maxRecDepth 100000 in
theorem w_X12_costOf_114 {E : Nat × (Nat → Int32)} {d : Nat} {v : xV} {x1 : Int32} {x2 : Int32} {x3 : Int32} {x4 : Int32} {x6 : Int32} {x7 : Int32} {Q : Int32 → xV → Prop} (h : (((nI 4) ≤ x7 → Q x6 v) ∧ (¬ (nI 4) ≤ x7 → RI E (d + 1) 179 126 [(0, .ref 80), (1, .int x1), (2, .int x2), (3, .int x3), (4, .int x4), (6, .int x6), (7, .int x7), (8, .int (-1)), (9, .int (nI 0))] v Q))) : RI E (d + 1) 179 114 [(0, .ref 80), (1, .int x1), (2, .int x2), (3, .int x3), (4, .int x4), (6, .int x6), (7, .int x7)] v Q := by
  unfold RI
  refine xr_blk (lv1 := [(0, .ref 80), (1, .int x1), (2, .int x2), (3, .int x3), (4, .int x4), (6, .int x6), (7, .int x7)]) (st1 := [.int (nI 4), .int x7]) (S1 := rt v) (pc1 := 117) [(.iload 7, .null, 0, 0), (.iconst 4, .int (nI 4), 0, 0)] [] (by decide +kernel) rfl trivial ?_
  refine xr_ic_ge (tgt := 260) (off := 143) (by decide +kernel) (by decide) (fun hc => ?_) (fun hc => ?_)
  · replace h := h.1 hc
    refine xr_blk (lv1 := [(0, .ref 80), (1, .int x1), (2, .int x2), (3, .int x3), (4, .int x4), (6, .int x6), (7, .int x7)]) (st1 := [.int x6]) (S1 := rt v) (pc1 := 262) [(.iload 6, .null, 0, 0)] [] (by decide +kernel) rfl trivial ?_
    exact xr_iret (by decide +kernel) rfl ⟨_, _, rfl, rfl, h⟩
  · replace h := h.2 hc
    refine xr_blk (lv1 := [(9, .int (nI 0)), (8, .int (-1)), (0, .ref 80), (1, .int x1), (2, .int x2), (3, .int x3), (4, .int x4), (6, .int x6), (7, .int x7)]) (st1 := []) (S1 := rt v) (pc1 := 126) [(.iconst (-1), .int (-1), 0, 0), (.istore 8, .null, 0, 0), (.iconst 0, .int (nI 0), 0, 0), (.istore 9, .null, 0, 0)] [] (by decide +kernel) rfl trivial ?_
    exact x_R.sub [2, 3, 4, 5, 6, 7, 8, 1, 0] rfl h
set_option maxRecDepth 100000 in
theorem w_X12_costOf_126 {E : Nat × (Nat → Int32)} {d : Nat} {v : xV} {x1 : Int32} {x2 : Int32} {x3 : Int32} {x4 : Int32} {x6 : Int32} {x7 : Int32} {x8 : Int32} {x9 : Int32} {Q : Int32 → xV → Prop} (h : (((gI v 80 52) ≤ x9 → ((¬ x8 = (-1 : Int32) → vp_in (((nI 24) * x8) + x2) 960 ∧ ∀ y2 : Int32, y2 = ((gA v 111) ((((nI 24) * x8) + x2)).toNatClampNeg) → ((y2 = (-1 : Int32) → RI E (d + 1) 179 114 [(0, .ref 80), (1, .int x1), (2, .int x2), (3, .int x3), (4, .int x4), (6, .int x6), (7, .int (x7 + (nI 1)))] v Q) ∧ (¬ y2 = (-1 : Int32) → ((¬ y2 = x3 → KI E d 162 [.ref 80, .int x7, .int x3, .int y2] v (fun y4 v3 => ((y4 = (nI 0) → (((nI 100000000) < (nI 100000000) → RI E (d + 1) 179 114 [(0, .ref 80), (1, .int x1), (2, .int x2), (3, .int x3), (4, .int x4), (6, .int (nI 100000000)), (7, .int (x7 + (nI 1)))] v3 Q) ∧ (¬ (nI 100000000) < (nI 100000000) → Q (nI 100000000) v3))) ∧ (¬ y4 = (nI 0) → ∀ y5 : Int32, y5 = (x6 + (nI 2)) → ((y5 < (nI 100000000) → RI E (d + 1) 179 114 [(0, .ref 80), (1, .int x1), (2, .int x2), (3, .int x3), (4, .int x4), (6, .int y5), (7, .int (x7 + (nI 1)))] v3 Q) ∧ (¬ y5 < (nI 100000000) → Q (nI 100000000) v3)))))) ∧ (y2 = x3 → RI E (d + 1) 179 114 [(0, .ref 80), (1, .int x1), (2, .int x2), (3, .int x3), (4, .int x4), (6, .int x6), (7, .int (x7 + (nI 1)))] v Q))))) ∧ (x8 = (-1 : Int32) → RI E (d + 1) 179 114 [(0, .ref 80), (1, .int x1), (2, .int x2), (3, .int x3), (4, .int x4), (6, .int x6), (7, .int (x7 + (nI 1)))] v Q))) ∧ (¬ (gI v 80 52) ≤ x9 → vp_in x9 40 ∧ ((¬ ((gA v 108) (x9).toNatClampNeg) = x1 → RI E (d + 1) 179 126 [(0, .ref 80), (1, .int x1), (2, .int x2), (3, .int x3), (4, .int x4), (6, .int x6), (7, .int x7), (8, .int x8), (9, .int (x9 + (nI 1)))] v Q) ∧ (((gA v 108) (x9).toNatClampNeg) = x1 → vp_in x9 40 ∧ ((¬ ((gA v 109) (x9).toNatClampNeg) = x7 → RI E (d + 1) 179 126 [(0, .ref 80), (1, .int x1), (2, .int x2), (3, .int x3), (4, .int x4), (6, .int x6), (7, .int x7), (8, .int x8), (9, .int (x9 + (nI 1)))] v Q) ∧ (((gA v 109) (x9).toNatClampNeg) = x7 → vp_in x9 40 ∧ ((x4 < ((gA v 110) (x9).toNatClampNeg) → RI E (d + 1) 179 126 [(0, .ref 80), (1, .int x1), (2, .int x2), (3, .int x3), (4, .int x4), (6, .int x6), (7, .int x7), (8, .int x8), (9, .int (x9 + (nI 1)))] v Q) ∧ (¬ x4 < ((gA v 110) (x9).toNatClampNeg) → RI E (d + 1) 179 126 [(0, .ref 80), (1, .int x1), (2, .int x2), (3, .int x3), (4, .int x4), (6, .int x6), (7, .int x7), (8, .int x9), (9, .int (x9 + (nI 1)))] v Q))))))))) : RI E (d + 1) 179 126 [(0, .ref 80), (1, .int x1), (2, .int x2), (3, .int x3), (4, .int x4), (6, .int x6), (7, .int x7), (8, .int x8), (9, .int x9)] v Q := by
  unfold RI
  refine xr_blk (lv1 := [(0, .ref 80), (1, .int x1), (2, .int x2), (3, .int x3), (4, .int x4), (6, .int x6), (7, .int x7), (8, .int x8), (9, .int x9)]) (st1 := [.int (gI v 80 52), .int x9]) (S1 := rt v) (pc1 := 132) [(.iload 9, .null, 0, 0), (.aload_n 0, .null, 0, 0), (.getfield 306, .null, 12, 52)] [] (by decide +kernel) rfl trivial ?_
  refine xr_ic_ge (tgt := 180) (off := 48) (by decide +kernel) (by decide) (fun hc => ?_) (fun hc => ?_)
  · replace h := h.1 hc
    refine xr_blk (lv1 := [(0, .ref 80), (1, .int x1), (2, .int x2), (3, .int x3), (4, .int x4), (6, .int x6), (7, .int x7), (8, .int x8), (9, .int x9)]) (st1 := [.int (-1), .int x8]) (S1 := rt v) (pc1 := 183) [(.iload 8, .null, 0, 0), (.iconst (-1), .int (-1), 0, 0)] [] (by decide +kernel) rfl trivial ?_
    refine xr_ic_ne (tgt := 189) (off := 6) (by decide +kernel) (by decide) (fun hc => ?_) (fun hc => ?_)
    · replace h := h.1 hc
      obtain ⟨hb1, h⟩ := h
      refine xr_blk (lv1 := [(0, .ref 80), (1, .int x1), (2, .int x2), (3, .int x3), (4, .int x4), (6, .int x6), (7, .int x7), (8, .int x8), (9, .int x9)]) (st1 := [.int ((gA v 111) ((((nI 24) * x8) + x2)).toNatClampNeg)]) (S1 := rt v) (pc1 := 201) [(.aload_n 0, .null, 0, 0), (.getfield 105, .null, 12, 49), (.bipush 24, .int (nI 24), 0, 0), (.iload 8, .null, 0, 0), (.imul, .null, 0, 0), (.iload_n 2, .null, 0, 0), (.iadd, .null, 0, 0), (.iaload, .null, 0, 0)] [((((nI 24) * x8) + x2), 960)] (by decide +kernel) rfl ⟨hb1, trivial⟩ ?_
      refine xr_topi (fun y2 ey2 => ?_)
      replace h := h y2 ey2
      refine xr_blk (lv1 := [(9, .int y2), (0, .ref 80), (1, .int x1), (2, .int x2), (3, .int x3), (4, .int x4), (6, .int x6), (7, .int x7), (8, .int x8)]) (st1 := [.int (-1), .int y2]) (S1 := rt v) (pc1 := 206) [(.istore 9, .null, 0, 0), (.iload 9, .null, 0, 0), (.iconst (-1), .int (-1), 0, 0)] [] (by decide +kernel) rfl trivial ?_
      refine xr_ic_eq (tgt := 254) (off := 48) (by decide +kernel) (by decide) (fun hc => ?_) (fun hc => ?_)
      · replace h := h.1 hc
        refine xr_blk (lv1 := [(7, .int (x7 + (nI 1))), (9, .int y2), (0, .ref 80), (1, .int x1), (2, .int x2), (3, .int x3), (4, .int x4), (6, .int x6), (8, .int x8)]) (st1 := []) (S1 := rt v) (pc1 := 257) [(.iinc 7 1, .int (nI 1), 0, 0)] [] (by decide +kernel) rfl trivial ?_
        refine xr_goto (tgt := 114) (off := -143) (by decide +kernel) (by decide) ?_
        exact x_R.sub [2, 3, 4, 5, 6, 7, 0] rfl h
      · replace h := h.2 hc
        refine xr_blk (lv1 := [(9, .int y2), (0, .ref 80), (1, .int x1), (2, .int x2), (3, .int x3), (4, .int x4), (6, .int x6), (7, .int x7), (8, .int x8)]) (st1 := [.int x3, .int y2]) (S1 := rt v) (pc1 := 212) [(.iload 9, .null, 0, 0), (.iload_n 3, .null, 0, 0)] [] (by decide +kernel) rfl trivial ?_
        refine xr_ic_ne (tgt := 218) (off := 6) (by decide +kernel) (by decide) (fun hc => ?_) (fun hc => ?_)
        · replace h := h.1 hc
          refine xr_blk (lv1 := [(9, .int y2), (0, .ref 80), (1, .int x1), (2, .int x2), (3, .int x3), (4, .int x4), (6, .int x6), (7, .int x7), (8, .int x8)]) (st1 := [.int y2, .int x3, .int x7, .ref 80]) (S1 := rt v) (pc1 := 224) [(.aload_n 0, .null, 0, 0), (.iload 7, .null, 0, 0), (.iload_n 3, .null, 0, 0), (.iload 9, .null, 0, 0)] [] (by decide +kernel) rfl trivial ?_
          refine xk_VI (As := [.int x7, .int x3, .int y2]) (bb := 80) (rest := []) (idx := 231) (i0 := 231) (m1 := 162) (ps := [1653, 1655, 60]) (by decide +kernel) (by decide +kernel) (by decide) rfl ((gK_s (by decide)).trans (by decide +kernel)) (by decide) (Nat.le_of_ble_eq_true rfl) rfl h (fun y4 v3 h => ?_)
          refine xr_if_eq (tgt := 237) (off := 10) (by decide +kernel) (by decide) (fun hc => ?_) (fun hc => ?_)
          · replace h := h.1 hc
            refine xr_blk (lv1 := [(6, .int (nI 100000000)), (9, .int y2), (0, .ref 80), (1, .int x1), (2, .int x2), (3, .int x3), (4, .int x4), (7, .int x7), (8, .int x8)]) (st1 := [.int (nI 100000000), .int (nI 100000000)]) (S1 := rt v3) (pc1 := 247) [(.ldc_w 313, .int (nI 100000000), 0, 0), (.istore 6, .null, 0, 0), (.iload 6, .null, 0, 0), (.ldc_w 313, .int (nI 100000000), 0, 0)] [] (by decide +kernel) rfl trivial ?_
            refine xr_ic_lt (tgt := 254) (off := 7) (by decide +kernel) (by decide) (fun hc => ?_) (fun hc => ?_)
            · replace h := h.1 hc
              refine xr_blk (lv1 := [(7, .int (x7 + (nI 1))), (6, .int (nI 100000000)), (9, .int y2), (0, .ref 80), (1, .int x1), (2, .int x2), (3, .int x3), (4, .int x4), (8, .int x8)]) (st1 := []) (S1 := rt v3) (pc1 := 257) [(.iinc 7 1, .int (nI 1), 0, 0)] [] (by decide +kernel) rfl trivial ?_
              refine xr_goto (tgt := 114) (off := -143) (by decide +kernel) (by decide) ?_
              exact x_R.sub [3, 4, 5, 6, 7, 1, 0] rfl h
            · replace h := h.2 hc
              refine xr_blk (lv1 := [(6, .int (nI 100000000)), (9, .int y2), (0, .ref 80), (1, .int x1), (2, .int x2), (3, .int x3), (4, .int x4), (7, .int x7), (8, .int x8)]) (st1 := [.int (nI 100000000)]) (S1 := rt v3) (pc1 := 253) [(.ldc_w 313, .int (nI 100000000), 0, 0)] [] (by decide +kernel) rfl trivial ?_
              exact xr_iret (by decide +kernel) rfl ⟨_, _, rfl, rfl, h⟩
          · replace h := h.2 hc
            refine xr_blk (lv1 := [(9, .int y2), (0, .ref 80), (1, .int x1), (2, .int x2), (3, .int x3), (4, .int x4), (6, .int x6), (7, .int x7), (8, .int x8)]) (st1 := [.int (x6 + (nI 2))]) (S1 := rt v3) (pc1 := 234) [(.iload 6, .null, 0, 0), (.iconst 2, .int (nI 2), 0, 0), (.iadd, .null, 0, 0)] [] (by decide +kernel) rfl trivial ?_
            refine xr_goto (tgt := 240) (off := 6) (by decide +kernel) (by decide) ?_
            refine xr_topi (fun y5 ey5 => ?_)
            replace h := h y5 ey5
            refine xr_blk (lv1 := [(6, .int y5), (9, .int y2), (0, .ref 80), (1, .int x1), (2, .int x2), (3, .int x3), (4, .int x4), (7, .int x7), (8, .int x8)]) (st1 := [.int (nI 100000000), .int y5]) (S1 := rt v3) (pc1 := 247) [(.istore 6, .null, 0, 0), (.iload 6, .null, 0, 0), (.ldc_w 313, .int (nI 100000000), 0, 0)] [] (by decide +kernel) rfl trivial ?_
            refine xr_ic_lt (tgt := 254) (off := 7) (by decide +kernel) (by decide) (fun hc => ?_) (fun hc => ?_)
            · replace h := h.1 hc
              refine xr_blk (lv1 := [(7, .int (x7 + (nI 1))), (6, .int y5), (9, .int y2), (0, .ref 80), (1, .int x1), (2, .int x2), (3, .int x3), (4, .int x4), (8, .int x8)]) (st1 := []) (S1 := rt v3) (pc1 := 257) [(.iinc 7 1, .int (nI 1), 0, 0)] [] (by decide +kernel) rfl trivial ?_
              refine xr_goto (tgt := 114) (off := -143) (by decide +kernel) (by decide) ?_
              exact x_R.sub [3, 4, 5, 6, 7, 1, 0] rfl h
            · replace h := h.2 hc
              refine xr_blk (lv1 := [(6, .int y5), (9, .int y2), (0, .ref 80), (1, .int x1), (2, .int x2), (3, .int x3), (4, .int x4), (7, .int x7), (8, .int x8)]) (st1 := [.int (nI 100000000)]) (S1 := rt v3) (pc1 := 253) [(.ldc_w 313, .int (nI 100000000), 0, 0)] [] (by decide +kernel) rfl trivial ?_
              exact xr_iret (by decide +kernel) rfl ⟨_, _, rfl, rfl, h⟩
        · replace h := h.2 hc
          refine xr_goto (tgt := 254) (off := 39) (by decide +kernel) (by decide) ?_
          refine xr_blk (lv1 := [(7, .int (x7 + (nI 1))), (9, .int y2), (0, .ref 80), (1, .int x1), (2, .int x2), (3, .int x3), (4, .int x4), (6, .int x6), (8, .int x8)]) (st1 := []) (S1 := rt v) (pc1 := 257) [(.iinc 7 1, .int (nI 1), 0, 0)] [] (by decide +kernel) rfl trivial ?_
          refine xr_goto (tgt := 114) (off := -143) (by decide +kernel) (by decide) ?_
          exact x_R.sub [2, 3, 4, 5, 6, 7, 0] rfl h
    · replace h := h.2 hc
      refine xr_goto (tgt := 254) (off := 68) (by decide +kernel) (by decide) ?_
      refine xr_blk (lv1 := [(7, .int (x7 + (nI 1))), (0, .ref 80), (1, .int x1), (2, .int x2), (3, .int x3), (4, .int x4), (6, .int x6), (8, .int x8), (9, .int x9)]) (st1 := []) (S1 := rt v) (pc1 := 257) [(.iinc 7 1, .int (nI 1), 0, 0)] [] (by decide +kernel) rfl trivial ?_
      refine xr_goto (tgt := 114) (off := -143) (by decide +kernel) (by decide) ?_
      exact x_R.sub [1, 2, 3, 4, 5, 6, 0] rfl h
  · replace h := h.2 hc
    obtain ⟨hb6, h⟩ := h
    refine xr_blk (lv1 := [(0, .ref 80), (1, .int x1), (2, .int x2), (3, .int x3), (4, .int x4), (6, .int x6), (7, .int x7), (8, .int x8), (9, .int x9)]) (st1 := [.int x1, .int ((gA v 108) (x9).toNatClampNeg)]) (S1 := rt v) (pc1 := 143) [(.aload_n 0, .null, 0, 0), (.getfield 96, .null, 12, 46), (.iload 9, .null, 0, 0), (.iaload, .null, 0, 0), (.iload_n 1, .null, 0, 0)] [(x9, 40)] (by decide +kernel) rfl ⟨hb6, trivial⟩ ?_
    refine xr_ic_ne (tgt := 174) (off := 31) (by decide +kernel) (by decide) (fun hc => ?_) (fun hc => ?_)
    · replace h := h.1 hc
      refine xr_blk (lv1 := [(9, .int (x9 + (nI 1))), (0, .ref 80), (1, .int x1), (2, .int x2), (3, .int x3), (4, .int x4), (6, .int x6), (7, .int x7), (8, .int x8)]) (st1 := []) (S1 := rt v) (pc1 := 177) [(.iinc 9 1, .int (nI 1), 0, 0)] [] (by decide +kernel) rfl trivial ?_
      refine xr_goto (tgt := 126) (off := -51) (by decide +kernel) (by decide) ?_
      exact x_R.sub [1, 2, 3, 4, 5, 6, 7, 8, 0] rfl h
    · replace h := h.2 hc
      obtain ⟨hb7, h⟩ := h
      refine xr_blk (lv1 := [(0, .ref 80), (1, .int x1), (2, .int x2), (3, .int x3), (4, .int x4), (6, .int x6), (7, .int x7), (8, .int x8), (9, .int x9)]) (st1 := [.int x7, .int ((gA v 109) (x9).toNatClampNeg)]) (S1 := rt v) (pc1 := 155) [(.aload_n 0, .null, 0, 0), (.getfield 99, .null, 12, 47), (.iload 9, .null, 0, 0), (.iaload, .null, 0, 0), (.iload 7, .null, 0, 0)] [(x9, 40)] (by decide +kernel) rfl ⟨hb7, trivial⟩ ?_
      refine xr_ic_ne (tgt := 174) (off := 19) (by decide +kernel) (by decide) (fun hc => ?_) (fun hc => ?_)
      · replace h := h.1 hc
        refine xr_blk (lv1 := [(9, .int (x9 + (nI 1))), (0, .ref 80), (1, .int x1), (2, .int x2), (3, .int x3), (4, .int x4), (6, .int x6), (7, .int x7), (8, .int x8)]) (st1 := []) (S1 := rt v) (pc1 := 177) [(.iinc 9 1, .int (nI 1), 0, 0)] [] (by decide +kernel) rfl trivial ?_
        refine xr_goto (tgt := 126) (off := -51) (by decide +kernel) (by decide) ?_
        exact x_R.sub [1, 2, 3, 4, 5, 6, 7, 8, 0] rfl h
      · replace h := h.2 hc
        obtain ⟨hb8, h⟩ := h
        refine xr_blk (lv1 := [(0, .ref 80), (1, .int x1), (2, .int x2), (3, .int x3), (4, .int x4), (6, .int x6), (7, .int x7), (8, .int x8), (9, .int x9)]) (st1 := [.int x4, .int ((gA v 110) (x9).toNatClampNeg)]) (S1 := rt v) (pc1 := 167) [(.aload_n 0, .null, 0, 0), (.getfield 102, .null, 12, 48), (.iload 9, .null, 0, 0), (.iaload, .null, 0, 0), (.iload 4, .null, 0, 0)] [(x9, 40)] (by decide +kernel) rfl ⟨hb8, trivial⟩ ?_
        refine xr_ic_gt (tgt := 174) (off := 7) (by decide +kernel) (by decide) (fun hc => ?_) (fun hc => ?_)
        · replace h := h.1 hc
          refine xr_blk (lv1 := [(9, .int (x9 + (nI 1))), (0, .ref 80), (1, .int x1), (2, .int x2), (3, .int x3), (4, .int x4), (6, .int x6), (7, .int x7), (8, .int x8)]) (st1 := []) (S1 := rt v) (pc1 := 177) [(.iinc 9 1, .int (nI 1), 0, 0)] [] (by decide +kernel) rfl trivial ?_
          refine xr_goto (tgt := 126) (off := -51) (by decide +kernel) (by decide) ?_
          exact x_R.sub [1, 2, 3, 4, 5, 6, 7, 8, 0] rfl h
        · replace h := h.2 hc
          refine xr_blk (lv1 := [(9, .int (x9 + (nI 1))), (8, .int x9), (0, .ref 80), (1, .int x1), (2, .int x2), (3, .int x3), (4, .int x4), (6, .int x6), (7, .int x7)]) (st1 := []) (S1 := rt v) (pc1 := 177) [(.iload 9, .null, 0, 0), (.istore 8, .null, 0, 0), (.iinc 9 1, .int (nI 1), 0, 0)] [] (by decide +kernel) rfl trivial ?_
          refine xr_goto (tgt := 126) (off := -51) (by decide +kernel) (by decide) ?_
          exact x_R.sub [2, 3, 4, 5, 6, 7, 8, 1, 0] rfl h
theorem ok_179 : x_mOK 179 := ⟨x_tm7 (List.mem_of_getElem? (i := 179) rfl) rfl, 114, by decide +kernel⟩
/-! X12_cost: method 180, ScrawlHouseModel.cost(IIII)I -/
set_option maxRecDepth 100000 in
theorem w_X12_cost_0 {E : Nat × (Nat → Int32)} {d : Nat} {v : xV} {x1 : Int32} {x2 : Int32} {x3 : Int32} {x4 : Int32} {Q : Int32 → xV → Prop} (h : KI E d 173 [.ref 80, .int x1, .int x4] (v_I v 80 0 (nI 0)) (fun y2 v1 => ((y2 = (nI 0) → Q (-2 : Int32) v1) ∧ (¬ y2 = (nI 0) → vp_in x1 20 ∧ KI E d 152 [.int x2, .int (nI 0), .int (((gA v1 102) (x1).toNatClampNeg) - (nI 1))] v1 (fun y5 v4 => ((y5 = (nI 0) → Q (-2 : Int32) v4) ∧ (¬ y5 = (nI 0) → KI E d 152 [.int x3, .int (nI 0), .int (nI 25)] v4 (fun y7 v6 => ((¬ y7 = (nI 0) → KI E d 179 [.ref 80, .int x1, .int x2, .int x3, .int x4] v6 (fun y9 v8 => ((y9 < (nI 100000000) → Q y9 v8) ∧ (¬ y9 < (nI 100000000) → Q (-1 : Int32) v8)))) ∧ (y7 = (nI 0) → Q (-2 : Int32) v6)))))))))) : RI E (d + 1) 180 0 [(0, .ref 80), (1, .int x1), (2, .int x2), (3, .int x3), (4, .int x4)] v Q := by
  unfold RI
  refine xr_blk (lv1 := [(0, .ref 80), (1, .int x1), (2, .int x2), (3, .int x3), (4, .int x4)]) (st1 := [.int x4, .int x1, .ref 80]) (S1 := rt (v_I v 80 0 (nI 0))) (pc1 := 9) [(.aload_n 0, .null, 0, 0), (.iconst 0, .int (nI 0), 0, 0), (.putfield 190, .null, 12, 0), (.aload_n 0, .null, 0, 0), (.iload_n 1, .null, 0, 0), (.iload 4, .null, 0, 0)] [] (by decide +kernel) rfl trivial ?_
  refine xk_VI (As := [.int x1, .int x4]) (bb := 80) (rest := []) (idx := 321) (i0 := 321) (m1 := 173) (ps := [1712, 1714, 67]) (by decide +kernel) (by decide +kernel) (by decide) rfl ((gK_s (by decide)).trans (by decide +kernel)) (by decide) (Nat.le_of_ble_eq_true rfl) rfl h (fun y2 v1 h => ?_)
  refine xr_if_eq (tgt := 41) (off := 29) (by decide +kernel) (by decide) (fun hc => ?_) (fun hc => ?_)
  · replace h := h.1 hc
    refine xr_blk (lv1 := [(0, .ref 80), (1, .int x1), (2, .int x2), (3, .int x3), (4, .int x4)]) (st1 := [.int (-2)]) (S1 := rt v1) (pc1 := 43) [(.bipush (-2), .int (-2), 0, 0)] [] (by decide +kernel) rfl trivial ?_
    exact xr_iret (by decide +kernel) rfl ⟨_, _, rfl, rfl, h⟩
  · replace h := h.2 hc
    obtain ⟨hb3, h⟩ := h
    refine xr_blk (lv1 := [(0, .ref 80), (1, .int x1), (2, .int x2), (3, .int x3), (4, .int x4)]) (st1 := [.int (((gA v1 102) (x1).toNatClampNeg) - (nI 1)), .int (nI 0), .int x2]) (S1 := rt v1) (pc1 := 25) [(.iload_n 2, .null, 0, 0), (.iconst 0, .int (nI 0), 0, 0), (.aload_n 0, .null, 0, 0), (.getfield 78, .null, 12, 40), (.iload_n 1, .null, 0, 0), (.iaload, .null, 0, 0), (.iconst 1, .int (nI 1), 0, 0), (.isub, .null, 0, 0)] [(x1, 20)] (by decide +kernel) rfl ⟨hb3, trivial⟩ ?_
    refine xk_SI (As := [.int x2, .int (nI 0), .int (((gA v1 102) (x1).toNatClampNeg) - (nI 1))]) (rest := []) (idx := 200) (i0 := 200) (m1 := 152) (ps := [1616, 1617]) (by decide +kernel) (by decide +kernel) (by decide) rfl (Nat.le_of_ble_eq_true rfl) rfl h (fun y5 v4 h => ?_)
    refine xr_if_eq (tgt := 41) (off := 13) (by decide +kernel) (by decide) (fun hc => ?_) (fun hc => ?_)
    · replace h := h.1 hc
      refine xr_blk (lv1 := [(0, .ref 80), (1, .int x1), (2, .int x2), (3, .int x3), (4, .int x4)]) (st1 := [.int (-2)]) (S1 := rt v4) (pc1 := 43) [(.bipush (-2), .int (-2), 0, 0)] [] (by decide +kernel) rfl trivial ?_
      exact xr_iret (by decide +kernel) rfl ⟨_, _, rfl, rfl, h⟩
    · replace h := h.2 hc
      refine xr_blk (lv1 := [(0, .ref 80), (1, .int x1), (2, .int x2), (3, .int x3), (4, .int x4)]) (st1 := [.int (nI 25), .int (nI 0), .int x3]) (S1 := rt v4) (pc1 := 35) [(.iload_n 3, .null, 0, 0), (.iconst 0, .int (nI 0), 0, 0), (.bipush 25, .int (nI 25), 0, 0)] [] (by decide +kernel) rfl trivial ?_
      refine xk_SI (As := [.int x3, .int (nI 0), .int (nI 25)]) (rest := []) (idx := 200) (i0 := 200) (m1 := 152) (ps := [1616, 1617]) (by decide +kernel) (by decide +kernel) (by decide) rfl (Nat.le_of_ble_eq_true rfl) rfl h (fun y7 v6 h => ?_)
      refine xr_if_ne (tgt := 44) (off := 6) (by decide +kernel) (by decide) (fun hc => ?_) (fun hc => ?_)
      · replace h := h.1 hc
        refine xr_blk (lv1 := [(0, .ref 80), (1, .int x1), (2, .int x2), (3, .int x3), (4, .int x4)]) (st1 := [.int x4, .int x3, .int x2, .int x1, .ref 80]) (S1 := rt v6) (pc1 := 50) [(.aload_n 0, .null, 0, 0), (.iload_n 1, .null, 0, 0), (.iload_n 2, .null, 0, 0), (.iload_n 3, .null, 0, 0), (.iload 4, .null, 0, 0)] [] (by decide +kernel) rfl trivial ?_
        refine xk_VI (As := [.int x1, .int x2, .int x3, .int x4]) (bb := 80) (rest := []) (idx := 324) (i0 := 324) (m1 := 179) (ps := [1716, 1718, 68]) (by decide +kernel) (by decide +kernel) (by decide) rfl ((gK_s (by decide)).trans (by decide +kernel)) (by decide) (Nat.le_of_ble_eq_true rfl) rfl h (fun y9 v8 h => ?_)
        refine xr_blk (lv1 := [(5, .int y9), (0, .ref 80), (1, .int x1), (2, .int x2), (3, .int x3), (4, .int x4)]) (st1 := [.int (nI 100000000), .int y9]) (S1 := rt v8) (pc1 := 60) [(.istore 5, .null, 0, 0), (.iload 5, .null, 0, 0), (.ldc_w 313, .int (nI 100000000), 0, 0)] [] (by decide +kernel) rfl trivial ?_
        refine xr_ic_lt (tgt := 67) (off := 7) (by decide +kernel) (by decide) (fun hc => ?_) (fun hc => ?_)
        · replace h := h.1 hc
          refine xr_blk (lv1 := [(5, .int y9), (0, .ref 80), (1, .int x1), (2, .int x2), (3, .int x3), (4, .int x4)]) (st1 := [.int y9]) (S1 := rt v8) (pc1 := 69) [(.iload 5, .null, 0, 0)] [] (by decide +kernel) rfl trivial ?_
          exact xr_iret (by decide +kernel) rfl ⟨_, _, rfl, rfl, h⟩
        · replace h := h.2 hc
          refine xr_blk (lv1 := [(5, .int y9), (0, .ref 80), (1, .int x1), (2, .int x2), (3, .int x3), (4, .int x4)]) (st1 := [.int (-1)]) (S1 := rt v8) (pc1 := 64) [(.iconst (-1), .int (-1), 0, 0)] [] (by decide +kernel) rfl trivial ?_
          refine xr_goto (tgt := 69) (off := 5) (by decide +kernel) (by decide) ?_
          exact xr_iret (by decide +kernel) rfl ⟨_, _, rfl, rfl, h⟩
      · replace h := h.2 hc
        refine xr_blk (lv1 := [(0, .ref 80), (1, .int x1), (2, .int x2), (3, .int x3), (4, .int x4)]) (st1 := [.int (-2)]) (S1 := rt v6) (pc1 := 43) [(.bipush (-2), .int (-2), 0, 0)] [] (by decide +kernel) rfl trivial ?_
        exact xr_iret (by decide +kernel) rfl ⟨_, _, rfl, rfl, h⟩
theorem ok_180 : x_mOK 180 := ⟨x_tm7 (List.mem_of_getElem? (i := 171) rfl) rfl, 114, by decide +kernel⟩
/-! X12_cellOf: method 181, ScrawlHouseModel.cellOf(III)I -/
set_option maxRecDepth 100000 in
theorem w_X12_cellOf_0 {E : Nat × (Nat → Int32)} {d : Nat} {v : xV} {x0 : Int32} {x1 : Int32} {x2 : Int32} {Q : Int32 → xV → Prop} (h : Q ((((nI 175) * x0) + ((nI 25) * x1)) + x2) v) : RI E d 181 0 [(0, .int x0), (1, .int x1), (2, .int x2)] v Q := by
  unfold RI
  refine xr_blk (lv1 := [(0, .int x0), (1, .int x1), (2, .int x2)]) (st1 := [.int ((((nI 175) * x0) + ((nI 25) * x1)) + x2)]) (S1 := rt v) (pc1 := 12) [(.sipush 175, .int (nI 175), 0, 0), (.iload_n 0, .null, 0, 0), (.imul, .null, 0, 0), (.bipush 25, .int (nI 25), 0, 0), (.iload_n 1, .null, 0, 0), (.imul, .null, 0, 0), (.iadd, .null, 0, 0), (.iload_n 2, .null, 0, 0), (.iadd, .null, 0, 0)] [] (by decide +kernel) rfl trivial ?_
  exact xr_iret (by decide +kernel) rfl ⟨_, _, rfl, rfl, h⟩
theorem ok_181 : x_mOK 181 := ⟨x_tm7 (List.mem_of_getElem? (i := 210) rfl) rfl, 114, by decide +kernel⟩
/-! X12_workAll: method 182, ScrawlHouseModel.workAll(I)V -/
set_option maxRecDepth 100000 in
theorem w_X12_workAll_0 {E : Nat × (Nat → Int32)} {d : Nat} {v : xV} {x1 : Int32} {Q : xV → Prop} (h : ((¬ (gI v 80 62) = (gI v 80 6) → RV E (d + 1) 182 20 [(0, .ref 80), (1, .int x1)] v Q) ∧ ((gI v 80 62) = (gI v 80 6) → ((¬ (gI v 80 61) = x1 → RV E (d + 1) 182 20 [(0, .ref 80), (1, .int x1)] v Q) ∧ ((gI v 80 61) = x1 → Q v))))) : RV E (d + 1) 182 0 [(0, .ref 80), (1, .int x1)] v Q := by
  unfold RV
  refine xr_blk (lv1 := [(0, .ref 80), (1, .int x1)]) (st1 := [.int (gI v 80 6), .int (gI v 80 62)]) (S1 := rt v) (pc1 := 8) [(.aload_n 0, .null, 0, 0), (.getfield 328, .null, 12, 62), (.aload_n 0, .null, 0, 0), (.getfield 16, .null, 12, 6)] [] (by decide +kernel) rfl trivial ?_
  refine xr_ic_ne (tgt := 20) (off := 12) (by decide +kernel) (by decide) (fun hc => ?_) (fun hc => ?_)
  · replace h := h.1 hc
    exact x_R.sub [0, 1] rfl h
  · replace h := h.2 hc
    refine xr_blk (lv1 := [(0, .ref 80), (1, .int x1)]) (st1 := [.int x1, .int (gI v 80 61)]) (S1 := rt v) (pc1 := 16) [(.aload_n 0, .null, 0, 0), (.getfield 331, .null, 12, 61), (.iload_n 1, .null, 0, 0)] [] (by decide +kernel) rfl trivial ?_
    refine xr_ic_ne (tgt := 20) (off := 4) (by decide +kernel) (by decide) (fun hc => ?_) (fun hc => ?_)
    · replace h := h.1 hc
      exact x_R.sub [0, 1] rfl h
    · replace h := h.2 hc
      exact xr_ret0 (by decide +kernel) rfl ⟨_, rfl, rfl, h⟩
set_option maxRecDepth 100000 in
theorem w_X12_workAll_20 {E : Nat × (Nat → Int32)} {d : Nat} {v : xV} {x1 : Int32} {Q : xV → Prop} (h : RV E (d + 1) 182 35 [(0, .ref 80), (1, .int x1), (2, .int (nI 0))] (v_I (v_I v 80 62 (gI v 80 6)) 80 61 x1) Q) : RV E (d + 1) 182 20 [(0, .ref 80), (1, .int x1)] v Q := by
  unfold RV
  refine xr_blk (lv1 := [(2, .int (nI 0)), (0, .ref 80), (1, .int x1)]) (st1 := []) (S1 := rt (v_I (v_I v 80 62 (gI v 80 6)) 80 61 x1)) (pc1 := 35) [(.aload_n 0, .null, 0, 0), (.aload_n 0, .null, 0, 0), (.getfield 16, .null, 12, 6), (.putfield 328, .null, 12, 62), (.aload_n 0, .null, 0, 0), (.iload_n 1, .null, 0, 0), (.putfield 331, .null, 12, 61), (.iconst 0, .int (nI 0), 0, 0), (.istore_n 2, .null, 0, 0)] [] (by decide +kernel) rfl trivial ?_
  exact x_R.sub [1, 2, 0] rfl h
set_option maxRecDepth 100000 in
theorem w_X12_workAll_35 {E : Nat × (Nat → Int32)} {d : Nat} {v : xV} {x1 : Int32} {x2 : Int32} {Q : xV → Prop} (h : (((gI v 80 50) ≤ x2 → Q v) ∧ (¬ (gI v 80 50) ≤ x2 → vp_in x2 20 ∧ vp_in x2 20 ∧ ((x1 < ((gA v 103) (x2).toNatClampNeg) → RV E (d + 1) 182 35 [(0, .ref 80), (1, .int x1), (2, .int (x2 + (nI 1)))] (v_A v 117 (upd (gA v 117) (x2).toNatClampNeg (nI 0))) Q) ∧ (¬ x1 < ((gA v 103) (x2).toNatClampNeg) → KV E d 183 [.ref 80, .int x2, .int x1] (v_A v 117 (upd (gA v 117) (x2).toNatClampNeg (nI 0))) (fun v3 => RV E (d + 1) 182 35 [(0, .ref 80), (1, .int x1), (2, .int (x2 + (nI 1)))] v3 Q)))))) : RV E (d + 1) 182 35 [(0, .ref 80), (1, .int x1), (2, .int x2)] v Q := by
  unfold RV
  refine xr_blk (lv1 := [(0, .ref 80), (1, .int x1), (2, .int x2)]) (st1 := [.int (gI v 80 50), .int x2]) (S1 := rt v) (pc1 := 40) [(.iload_n 2, .null, 0, 0), (.aload_n 0, .null, 0, 0), (.getfield 297, .null, 12, 50)] [] (by decide +kernel) rfl trivial ?_
  refine xr_ic_ge (tgt := 72) (off := 32) (by decide +kernel) (by decide) (fun hc => ?_) (fun hc => ?_)
  · replace h := h.1 hc
    exact xr_ret0 (by decide +kernel) rfl ⟨_, rfl, rfl, h⟩
  · replace h := h.2 hc
    obtain ⟨hb1, h⟩ := h
    obtain ⟨hb2, h⟩ := h
    refine xr_blk (lv1 := [(0, .ref 80), (1, .int x1), (2, .int x2)]) (st1 := [.int x1, .int ((gA v 103) (x2).toNatClampNeg)]) (S1 := rt (v_A v 117 (upd (gA v 117) (x2).toNatClampNeg (nI 0)))) (pc1 := 57) [(.aload_n 0, .null, 0, 0), (.getfield 124, .null, 12, 58), (.iload_n 2, .null, 0, 0), (.iconst 0, .int (nI 0), 0, 0), (.iastore, .null, 0, 0), (.aload_n 0, .null, 0, 0), (.getfield 81, .null, 12, 41), (.iload_n 2, .null, 0, 0), (.iaload, .null, 0, 0), (.iload_n 1, .null, 0, 0)] [(x2, 20), (x2, 20)] (by decide +kernel) rfl ⟨hb1, hb2, trivial⟩ ?_
    refine xr_ic_gt (tgt := 66) (off := 9) (by decide +kernel) (by decide) (fun hc => ?_) (fun hc => ?_)
    · replace h := h.1 hc
      refine xr_blk (lv1 := [(2, .int (x2 + (nI 1))), (0, .ref 80), (1, .int x1)]) (st1 := []) (S1 := rt (v_A v 117 (upd (gA v 117) (x2).toNatClampNeg (nI 0)))) (pc1 := 69) [(.iinc 2 1, .int (nI 1), 0, 0)] [] (by decide +kernel) rfl trivial ?_
      refine xr_goto (tgt := 35) (off := -34) (by decide +kernel) (by decide) ?_
      exact x_R.sub [1, 2, 0] rfl h
    · replace h := h.2 hc
      refine xr_blk (lv1 := [(0, .ref 80), (1, .int x1), (2, .int x2)]) (st1 := [.int x1, .int x2, .ref 80]) (S1 := rt (v_A v 117 (upd (gA v 117) (x2).toNatClampNeg (nI 0)))) (pc1 := 63) [(.aload_n 0, .null, 0, 0), (.iload_n 2, .null, 0, 0), (.iload_n 1, .null, 0, 0)] [] (by decide +kernel) rfl trivial ?_
      refine xk_VV (As := [.int x2, .int x1]) (bb := 80) (rest := []) (idx := 334) (i0 := 334) (m1 := 183) (ps := [1740, 1742, 72]) (by decide +kernel) (by decide +kernel) (by decide) rfl ((gK_s (by decide)).trans (by decide +kernel)) (by decide) (Nat.le_of_ble_eq_true rfl) rfl h (fun v3 h => ?_)
      refine xr_blk (lv1 := [(2, .int (x2 + (nI 1))), (0, .ref 80), (1, .int x1)]) (st1 := []) (S1 := rt v3) (pc1 := 69) [(.iinc 2 1, .int (nI 1), 0, 0)] [] (by decide +kernel) rfl trivial ?_
      refine xr_goto (tgt := 35) (off := -34) (by decide +kernel) (by decide) ?_
      exact x_R.sub [1, 2, 0] rfl h
theorem ok_182 : x_mOK 182 := ⟨x_tm7 (List.mem_of_getElem? (i := 199) rfl) rfl, 114, by decide +kernel⟩
/-! X12_workOut: method 183, ScrawlHouseModel.workOut(II)V -/
set_option maxRecDepth 100000 in
theorem w_X12_workOut_0 {E : Nat × (Nat → Int32)} {d : Nat} {v : xV} {x1 : Int32} {x2 : Int32} {Q : xV → Prop} (h : vp_in x1 20 ∧ ∀ y2 : Int32, y2 = ((gA v 102) (x1).toNatClampNeg) → RV E (d + 1) 183 10 [(0, .ref 80), (1, .int x1), (2, .int x2), (3, .int y2), (4, .int (nI 0))] v Q) : RV E (d + 1) 183 0 [(0, .ref 80), (1, .int x1), (2, .int x2)] v Q := by
  unfold RV
  obtain ⟨hb1, h⟩ := h
  refine xr_blk (lv1 := [(0, .ref 80), (1, .int x1), (2, .int x2)]) (st1 := [.int ((gA v 102) (x1).toNatClampNeg)]) (S1 := rt v) (pc1 := 6) [(.aload_n 0, .null, 0, 0), (.getfield 78, .null, 12, 40), (.iload_n 1, .null, 0, 0), (.iaload, .null, 0, 0)] [(x1, 20)] (by decide +kernel) rfl ⟨hb1, trivial⟩ ?_
  refine xr_topi (fun y2 ey2 => ?_)
  replace h := h y2 ey2
  refine xr_blk (lv1 := [(4, .int (nI 0)), (3, .int y2), (0, .ref 80), (1, .int x1), (2, .int x2)]) (st1 := []) (S1 := rt v) (pc1 := 10) [(.istore_n 3, .null, 0, 0), (.iconst 0, .int (nI 0), 0, 0), (.istore 4, .null, 0, 0)] [] (by decide +kernel) rfl trivial ?_
  exact x_R.sub [2, 3, 4, 1, 0] rfl h
set_option maxRecDepth 100000 in
theorem w_X12_workOut_10 {E : Nat × (Nat → Int32)} {d : Nat} {v : xV} {x1 : Int32} {x2 : Int32} {x3 : Int32} {x4 : Int32} {Q : xV → Prop} (h : ((x3 ≤ x4 → RV E (d + 1) 183 64 [(0, .ref 80), (1, .int x1), (3, .int x3), (4, .int (nI 0))] v Q) ∧ (¬ x3 ≤ x4 → RV E (d + 1) 183 19 [(0, .ref 80), (1, .int x1), (2, .int x2), (3, .int x3), (4, .int x4), (5, .int (nI 0))] v Q))) : RV E (d + 1) 183 10 [(0, .ref 80), (1, .int x1), (2, .int x2), (3, .int x3), (4, .int x4)] v Q := by
  unfold RV
  refine xr_blk (lv1 := [(0, .ref 80), (1, .int x1), (2, .int x2), (3, .int x3), (4, .int x4)]) (st1 := [.int x3, .int x4]) (S1 := rt v) (pc1 := 13) [(.iload 4, .null, 0, 0), (.iload_n 3, .null, 0, 0)] [] (by decide +kernel) rfl trivial ?_
  refine xr_ic_ge (tgt := 61) (off := 48) (by decide +kernel) (by decide) (fun hc => ?_) (fun hc => ?_)
  · replace h := h.1 hc
    refine xr_blk (lv1 := [(4, .int (nI 0)), (0, .ref 80), (1, .int x1), (2, .int x2), (3, .int x3)]) (st1 := []) (S1 := rt v) (pc1 := 64) [(.iconst 0, .int (nI 0), 0, 0), (.istore 4, .null, 0, 0)] [] (by decide +kernel) rfl trivial ?_
    exact x_R.sub [1, 2, 4, 0] rfl h
  · replace h := h.2 hc
    refine xr_blk (lv1 := [(5, .int (nI 0)), (0, .ref 80), (1, .int x1), (2, .int x2), (3, .int x3), (4, .int x4)]) (st1 := []) (S1 := rt v) (pc1 := 19) [(.iconst 0, .int (nI 0), 0, 0), (.istore 5, .null, 0, 0)] [] (by decide +kernel) rfl trivial ?_
    exact x_R.sub [1, 2, 3, 4, 5, 0] rfl h
set_option maxRecDepth 100000 in
theorem w_X12_workOut_19 {E : Nat × (Nat → Int32)} {d : Nat} {v : xV} {x1 : Int32} {x2 : Int32} {x3 : Int32} {x4 : Int32} {x5 : Int32} {Q : xV → Prop} (h : (((nI 26) ≤ x5 → RV E (d + 1) 183 10 [(0, .ref 80), (1, .int x1), (2, .int x2), (3, .int x3), (4, .int (x4 + (nI 1)))] v Q) ∧ (¬ (nI 26) ≤ x5 → KI E d 179 [.ref 80, .int x1, .int x4, .int x5, .int x2] v (fun y2 v1 => vp_in (((nI 26) * x4) + x5) 624 ∧ RV E (d + 1) 183 19 [(0, .ref 80), (1, .int x1), (2, .int x2), (3, .int x3), (4, .int x4), (5, .int (x5 + (nI 1)))] (v_A v1 112 (upd (gA v1 112) ((((nI 26) * x4) + x5)).toNatClampNeg y2)) Q)))) : RV E (d + 1) 183 19 [(0, .ref 80), (1, .int x1), (2, .int x2), (3, .int x3), (4, .int x4), (5, .int x5)] v Q := by
  unfold RV
  refine xr_blk (lv1 := [(0, .ref 80), (1, .int x1), (2, .int x2), (3, .int x3), (4, .int x4), (5, .int x5)]) (st1 := [.int (nI 26), .int x5]) (S1 := rt v) (pc1 := 23) [(.iload 5, .null, 0, 0), (.bipush 26, .int (nI 26), 0, 0)] [] (by decide +kernel) rfl trivial ?_
  refine xr_ic_ge (tgt := 55) (off := 32) (by decide +kernel) (by decide) (fun hc => ?_) (fun hc => ?_)
  · replace h := h.1 hc
    refine xr_blk (lv1 := [(4, .int (x4 + (nI 1))), (0, .ref 80), (1, .int x1), (2, .int x2), (3, .int x3), (5, .int x5)]) (st1 := []) (S1 := rt v) (pc1 := 58) [(.iinc 4 1, .int (nI 1), 0, 0)] [] (by decide +kernel) rfl trivial ?_
    refine xr_goto (tgt := 10) (off := -48) (by decide +kernel) (by decide) ?_
    exact x_R.sub [1, 2, 3, 4, 0] rfl h
  · replace h := h.2 hc
    refine xr_blk (lv1 := [(0, .ref 80), (1, .int x1), (2, .int x2), (3, .int x3), (4, .int x4), (5, .int x5)]) (st1 := [.int x2, .int x5, .int x4, .int x1, .ref 80, .int (((nI 26) * x4) + x5), .ref 112]) (S1 := rt v) (pc1 := 45) [(.aload_n 0, .null, 0, 0), (.getfield 108, .null, 12, 53), (.bipush 26, .int (nI 26), 0, 0), (.iload 4, .null, 0, 0), (.imul, .null, 0, 0), (.iload 5, .null, 0, 0), (.iadd, .null, 0, 0), (.aload_n 0, .null, 0, 0), (.iload_n 1, .null, 0, 0), (.iload 4, .null, 0, 0), (.iload 5, .null, 0, 0), (.iload_n 2, .null, 0, 0)] [] (by decide +kernel) rfl trivial ?_
    refine xk_VI (As := [.int x1, .int x4, .int x5, .int x2]) (bb := 80) (rest := [.int (((nI 26) * x4) + x5), .ref 112]) (idx := 324) (i0 := 324) (m1 := 179) (ps := [1716, 1718, 68]) (by decide +kernel) (by decide +kernel) (by decide) rfl ((gK_s (by decide)).trans (by decide +kernel)) (by decide) (Nat.le_of_ble_eq_true rfl) rfl h (fun y2 v1 h => ?_)
    obtain ⟨hb3, h⟩ := h
    refine xr_blk (lv1 := [(5, .int (x5 + (nI 1))), (0, .ref 80), (1, .int x1), (2, .int x2), (3, .int x3), (4, .int x4)]) (st1 := []) (S1 := rt (v_A v1 112 (upd (gA v1 112) ((((nI 26) * x4) + x5)).toNatClampNeg y2))) (pc1 := 52) [(.iastore, .null, 0, 0), (.iinc 5 1, .int (nI 1), 0, 0)] [((((nI 26) * x4) + x5), 624)] (by decide +kernel) rfl ⟨hb3, trivial⟩ ?_
    refine xr_goto (tgt := 19) (off := -33) (by decide +kernel) (by decide) ?_
    exact x_R.sub [1, 2, 3, 4, 5, 0] rfl h
set_option maxRecDepth 100000 in
theorem w_X12_workOut_64 {E : Nat × (Nat → Int32)} {d : Nat} {v : xV} {x1 : Int32} {x3 : Int32} {x4 : Int32} {Q : xV → Prop} (h : (((gI v 80 20) ≤ x4 → RV E (d + 1) 183 215 [(0, .ref 80), (1, .int x1), (3, .int x3), (4, .int (nI 100000000)), (5, .int (nI 0))] v Q) ∧ (¬ (gI v 80 20) ≤ x4 → RV E (d + 1) 183 76 [(0, .ref 80), (1, .int x1), (3, .int x3), (4, .int x4), (5, .int (nI 0))] v Q))) : RV E (d + 1) 183 64 [(0, .ref 80), (1, .int x1), (3, .int x3), (4, .int x4)] v Q := by
  unfold RV
  refine xr_blk (lv1 := [(0, .ref 80), (1, .int x1), (3, .int x3), (4, .int x4)]) (st1 := [.int (gI v 80 20), .int x4]) (S1 := rt v) (pc1 := 70) [(.iload 4, .null, 0, 0), (.aload_n 0, .null, 0, 0), (.getfield 207, .null, 12, 20)] [] (by decide +kernel) rfl trivial ?_
  refine xr_ic_ge (tgt := 207) (off := 137) (by decide +kernel) (by decide) (fun hc => ?_) (fun hc => ?_)
  · replace h := h.1 hc
    refine xr_blk (lv1 := [(5, .int (nI 0)), (4, .int (nI 100000000)), (0, .ref 80), (1, .int x1), (3, .int x3)]) (st1 := []) (S1 := rt v) (pc1 := 215) [(.ldc_w 313, .int (nI 100000000), 0, 0), (.istore 4, .null, 0, 0), (.iconst 0, .int (nI 0), 0, 0), (.istore 5, .null, 0, 0)] [] (by decide +kernel) rfl trivial ?_
    exact x_R.sub [2, 3, 4, 1, 0] rfl h
  · replace h := h.2 hc
    refine xr_blk (lv1 := [(5, .int (nI 0)), (0, .ref 80), (1, .int x1), (3, .int x3), (4, .int x4)]) (st1 := []) (S1 := rt v) (pc1 := 76) [(.iconst 0, .int (nI 0), 0, 0), (.istore 5, .null, 0, 0)] [] (by decide +kernel) rfl trivial ?_
    exact x_R.sub [1, 2, 3, 4, 0] rfl h
set_option maxRecDepth 100000 in
theorem w_X12_workOut_76 {E : Nat × (Nat → Int32)} {d : Nat} {v : xV} {x1 : Int32} {x3 : Int32} {x4 : Int32} {x5 : Int32} {Q : xV → Prop} (h : ((x3 ≤ x5 → RV E (d + 1) 183 64 [(0, .ref 80), (1, .int x1), (3, .int x3), (4, .int (x4 + (nI 1)))] v Q) ∧ (¬ x3 ≤ x5 → vp_in x4 80 ∧ (((x5 + ((gA v 86) (x4).toNatClampNeg)) ≤ x3 → RV E (d + 1) 183 108 [(0, .ref 80), (1, .int x1), (3, .int x3), (4, .int x4), (5, .int x5), (6, .int (nI 0)), (7, .int (nI 0))] v Q) ∧ (¬ (x5 + ((gA v 86) (x4).toNatClampNeg)) ≤ x3 → RV E (d + 1) 183 108 [(0, .ref 80), (1, .int x1), (3, .int x3), (4, .int x4), (5, .int x5), (6, .int (nI 100000000)), (7, .int (nI 0))] v Q))))) : RV E (d + 1) 183 76 [(0, .ref 80), (1, .int x1), (3, .int x3), (4, .int x4), (5, .int x5)] v Q := by
  unfold RV
  refine xr_blk (lv1 := [(0, .ref 80), (1, .int x1), (3, .int x3), (4, .int x4), (5, .int x5)]) (st1 := [.int x3, .int x5]) (S1 := rt v) (pc1 := 79) [(.iload 5, .null, 0, 0), (.iload_n 3, .null, 0, 0)] [] (by decide +kernel) rfl trivial ?_
  refine xr_ic_ge (tgt := 201) (off := 122) (by decide +kernel) (by decide) (fun hc => ?_) (fun hc => ?_)
  · replace h := h.1 hc
    refine xr_blk (lv1 := [(4, .int (x4 + (nI 1))), (0, .ref 80), (1, .int x1), (3, .int x3), (5, .int x5)]) (st1 := []) (S1 := rt v) (pc1 := 204) [(.iinc 4 1, .int (nI 1), 0, 0)] [] (by decide +kernel) rfl trivial ?_
    refine xr_goto (tgt := 64) (off := -140) (by decide +kernel) (by decide) ?_
    exact x_R.sub [1, 2, 3, 0] rfl h
  · replace h := h.2 hc
    obtain ⟨hb1, h⟩ := h
    refine xr_blk (lv1 := [(0, .ref 80), (1, .int x1), (3, .int x3), (4, .int x4), (5, .int x5)]) (st1 := [.int x3, .int (x5 + ((gA v 86) (x4).toNatClampNeg))]) (S1 := rt v) (pc1 := 93) [(.iload 5, .null, 0, 0), (.aload_n 0, .null, 0, 0), (.getfield 29, .null, 12, 10), (.iload 4, .null, 0, 0), (.iaload, .null, 0, 0), (.iadd, .null, 0, 0), (.iload_n 3, .null, 0, 0)] [(x4, 80)] (by decide +kernel) rfl ⟨hb1, trivial⟩ ?_
    refine xr_ic_le (tgt := 102) (off := 9) (by decide +kernel) (by decide) (fun hc => ?_) (fun hc => ?_)
    · replace h := h.1 hc
      refine xr_blk (lv1 := [(7, .int (nI 0)), (6, .int (nI 0)), (0, .ref 80), (1, .int x1), (3, .int x3), (4, .int x4), (5, .int x5)]) (st1 := []) (S1 := rt v) (pc1 := 108) [(.iconst 0, .int (nI 0), 0, 0), (.istore 6, .null, 0, 0), (.iconst 0, .int (nI 0), 0, 0), (.istore 7, .null, 0, 0)] [] (by decide +kernel) rfl trivial ?_
      exact x_R.sub [2, 3, 4, 5, 6, 1, 0] rfl h
    · replace h := h.2 hc
      refine xr_blk (lv1 := [(0, .ref 80), (1, .int x1), (3, .int x3), (4, .int x4), (5, .int x5)]) (st1 := [.int (nI 100000000)]) (S1 := rt v) (pc1 := 99) [(.ldc_w 313, .int (nI 100000000), 0, 0)] [] (by decide +kernel) rfl trivial ?_
      refine xr_goto (tgt := 103) (off := 4) (by decide +kernel) (by decide) ?_
      refine xr_blk (lv1 := [(7, .int (nI 0)), (6, .int (nI 100000000)), (0, .ref 80), (1, .int x1), (3, .int x3), (4, .int x4), (5, .int x5)]) (st1 := []) (S1 := rt v) (pc1 := 108) [(.istore 6, .null, 0, 0), (.iconst 0, .int (nI 0), 0, 0), (.istore 7, .null, 0, 0)] [] (by decide +kernel) rfl trivial ?_
      exact x_R.sub [2, 3, 4, 5, 6, 1, 0] rfl h
set_option maxRecDepth 100000 in
theorem w_X12_workOut_108 {E : Nat × (Nat → Int32)} {d : Nat} {v : xV} {x1 : Int32} {x3 : Int32} {x4 : Int32} {x5 : Int32} {x6 : Int32} {x7 : Int32} {Q : xV → Prop} (h : vp_in x4 80 ∧ ((((gA v 86) (x4).toNatClampNeg) ≤ x7 → RV E (d + 1) 183 166 [(0, .ref 80), (1, .int x1), (3, .int x3), (4, .int x4), (5, .int x5), (6, .int x6)] v Q) ∧ (¬ ((gA v 86) (x4).toNatClampNeg) ≤ x7 → (((nI 100000000) ≤ x6 → RV E (d + 1) 183 166 [(0, .ref 80), (1, .int x1), (3, .int x3), (4, .int x4), (5, .int x5), (6, .int x6)] v Q) ∧ (¬ (nI 100000000) ≤ x6 → vp_in (((nI 10) * x4) + x7) 800 ∧ vp_in (((nI 26) * (x5 + x7)) + ((gA v 85) ((((nI 10) * x4) + x7)).toNatClampNeg)) 624 ∧ ∀ y4 : Int32, y4 = (x6 + ((gA v 112) ((((nI 26) * (x5 + x7)) + ((gA v 85) ((((nI 10) * x4) + x7)).toNatClampNeg))).toNatClampNeg)) → RV E (d + 1) 183 108 [(0, .ref 80), (1, .int x1), (3, .int x3), (4, .int x4), (5, .int x5), (6, .int y4), (7, .int (x7 + (nI 1)))] v Q))))) : RV E (d + 1) 183 108 [(0, .ref 80), (1, .int x1), (3, .int x3), (4, .int x4), (5, .int x5), (6, .int x6), (7, .int x7)] v Q := by
  unfold RV
  obtain ⟨hb1, h⟩ := h
  refine xr_blk (lv1 := [(0, .ref 80), (1, .int x1), (3, .int x3), (4, .int x4), (5, .int x5), (6, .int x6), (7, .int x7)]) (st1 := [.int ((gA v 86) (x4).toNatClampNeg), .int x7]) (S1 := rt v) (pc1 := 117) [(.iload 7, .null, 0, 0), (.aload_n 0, .null, 0, 0), (.getfield 29, .null, 12, 10), (.iload 4, .null, 0, 0), (.iaload, .null, 0, 0)] [(x4, 80)] (by decide +kernel) rfl ⟨hb1, trivial⟩ ?_
  refine xr_ic_ge (tgt := 166) (off := 49) (by decide +kernel) (by decide) (fun hc => ?_) (fun hc => ?_)
  · replace h := h.1 hc
    exact x_R.sub [0, 1, 2, 3, 4, 5] rfl h
  · replace h := h.2 hc
    refine xr_blk (lv1 := [(0, .ref 80), (1, .int x1), (3, .int x3), (4, .int x4), (5, .int x5), (6, .int x6), (7, .int x7)]) (st1 := [.int (nI 100000000), .int x6]) (S1 := rt v) (pc1 := 125) [(.iload 6, .null, 0, 0), (.ldc_w 313, .int (nI 100000000), 0, 0)] [] (by decide +kernel) rfl trivial ?_
    refine xr_ic_ge (tgt := 166) (off := 41) (by decide +kernel) (by decide) (fun hc => ?_) (fun hc => ?_)
    · replace h := h.1 hc
      exact x_R.sub [0, 1, 2, 3, 4, 5] rfl h
    · replace h := h.2 hc
      obtain ⟨hb2, h⟩ := h
      obtain ⟨hb3, h⟩ := h
      refine xr_blk (lv1 := [(0, .ref 80), (1, .int x1), (3, .int x3), (4, .int x4), (5, .int x5), (6, .int x6), (7, .int x7)]) (st1 := [.int (x6 + ((gA v 112) ((((nI 26) * (x5 + x7)) + ((gA v 85) ((((nI 10) * x4) + x7)).toNatClampNeg))).toNatClampNeg))]) (S1 := rt v) (pc1 := 158) [(.iload 6, .null, 0, 0), (.aload_n 0, .null, 0, 0), (.getfield 108, .null, 12, 53), (.bipush 26, .int (nI 26), 0, 0), (.iload 5, .null, 0, 0), (.iload 7, .null, 0, 0), (.iadd, .null, 0, 0), (.imul, .null, 0, 0), (.aload_n 0, .null, 0, 0), (.getfield 26, .null, 12, 9), (.bipush 10, .int (nI 10), 0, 0), (.iload 4, .null, 0, 0), (.imul, .null, 0, 0), (.iload 7, .null, 0, 0), (.iadd, .null, 0, 0), (.iaload, .null, 0, 0), (.iadd, .null, 0, 0), (.iaload, .null, 0, 0), (.iadd, .null, 0, 0)] [((((nI 10) * x4) + x7), 800), ((((nI 26) * (x5 + x7)) + ((gA v 85) ((((nI 10) * x4) + x7)).toNatClampNeg)), 624)] (by decide +kernel) rfl ⟨hb2, hb3, trivial⟩ ?_
      refine xr_topi (fun y4 ey4 => ?_)
      replace h := h y4 ey4
      refine xr_blk (lv1 := [(7, .int (x7 + (nI 1))), (6, .int y4), (0, .ref 80), (1, .int x1), (3, .int x3), (4, .int x4), (5, .int x5)]) (st1 := []) (S1 := rt v) (pc1 := 163) [(.istore 6, .null, 0, 0), (.iinc 7 1, .int (nI 1), 0, 0)] [] (by decide +kernel) rfl trivial ?_
      refine xr_goto (tgt := 108) (off := -55) (by decide +kernel) (by decide) ?_
      exact x_R.sub [2, 3, 4, 5, 6, 1, 0] rfl h
set_option maxRecDepth 100000 in
theorem w_X12_workOut_166 {E : Nat × (Nat → Int32)} {d : Nat} {v : xV} {x1 : Int32} {x3 : Int32} {x4 : Int32} {x5 : Int32} {x6 : Int32} {Q : xV → Prop} (h : (((nI 100000000) ≤ x6 → vp_in (((nI 24) * x4) + x5) 1920 ∧ RV E (d + 1) 183 76 [(0, .ref 80), (1, .int x1), (3, .int x3), (4, .int x4), (5, .int (x5 + (nI 1)))] (v_A v 113 (upd (gA v 113) ((((nI 24) * x4) + x5)).toNatClampNeg (nI 100000000))) Q) ∧ (¬ (nI 100000000) ≤ x6 → vp_in (((nI 24) * x4) + x5) 1920 ∧ RV E (d + 1) 183 76 [(0, .ref 80), (1, .int x1), (3, .int x3), (4, .int x4), (5, .int (x5 + (nI 1)))] (v_A v 113 (upd (gA v 113) ((((nI 24) * x4) + x5)).toNatClampNeg x6)) Q))) : RV E (d + 1) 183 166 [(0, .ref 80), (1, .int x1), (3, .int x3), (4, .int x4), (5, .int x5), (6, .int x6)] v Q := by
  unfold RV
  refine xr_blk (lv1 := [(0, .ref 80), (1, .int x1), (3, .int x3), (4, .int x4), (5, .int x5), (6, .int x6)]) (st1 := [.int (nI 100000000), .int x6, .int (((nI 24) * x4) + x5), .ref 113]) (S1 := rt v) (pc1 := 183) [(.aload_n 0, .null, 0, 0), (.getfield 111, .null, 12, 54), (.bipush 24, .int (nI 24), 0, 0), (.iload 4, .null, 0, 0), (.imul, .null, 0, 0), (.iload 5, .null, 0, 0), (.iadd, .null, 0, 0), (.iload 6, .null, 0, 0), (.ldc_w 313, .int (nI 100000000), 0, 0)] [] (by decide +kernel) rfl trivial ?_
  refine xr_ic_ge (tgt := 191) (off := 8) (by decide +kernel) (by decide) (fun hc => ?_) (fun hc => ?_)
  · replace h := h.1 hc
    obtain ⟨hb1, h⟩ := h
    refine xr_blk (lv1 := [(5, .int (x5 + (nI 1))), (0, .ref 80), (1, .int x1), (3, .int x3), (4, .int x4), (6, .int x6)]) (st1 := []) (S1 := rt (v_A v 113 (upd (gA v 113) ((((nI 24) * x4) + x5)).toNatClampNeg (nI 100000000)))) (pc1 := 198) [(.ldc_w 313, .int (nI 100000000), 0, 0), (.iastore, .null, 0, 0), (.iinc 5 1, .int (nI 1), 0, 0)] [((((nI 24) * x4) + x5), 1920)] (by decide +kernel) rfl ⟨hb1, trivial⟩ ?_
    refine xr_goto (tgt := 76) (off := -122) (by decide +kernel) (by decide) ?_
    exact x_R.sub [1, 2, 3, 4, 0] rfl h
  · replace h := h.2 hc
    refine xr_blk (lv1 := [(0, .ref 80), (1, .int x1), (3, .int x3), (4, .int x4), (5, .int x5), (6, .int x6)]) (st1 := [.int x6, .int (((nI 24) * x4) + x5), .ref 113]) (S1 := rt v) (pc1 := 188) [(.iload 6, .null, 0, 0)] [] (by decide +kernel) rfl trivial ?_
    refine xr_goto (tgt := 194) (off := 6) (by decide +kernel) (by decide) ?_
    obtain ⟨hb2, h⟩ := h
    refine xr_blk (lv1 := [(5, .int (x5 + (nI 1))), (0, .ref 80), (1, .int x1), (3, .int x3), (4, .int x4), (6, .int x6)]) (st1 := []) (S1 := rt (v_A v 113 (upd (gA v 113) ((((nI 24) * x4) + x5)).toNatClampNeg x6))) (pc1 := 198) [(.iastore, .null, 0, 0), (.iinc 5 1, .int (nI 1), 0, 0)] [((((nI 24) * x4) + x5), 1920)] (by decide +kernel) rfl ⟨hb2, trivial⟩ ?_
    refine xr_goto (tgt := 76) (off := -122) (by decide +kernel) (by decide) ?_
    exact x_R.sub [1, 2, 3, 4, 0] rfl h
set_option maxRecDepth 100000 in
theorem w_X12_workOut_215 {E : Nat × (Nat → Int32)} {d : Nat} {v : xV} {x1 : Int32} {x3 : Int32} {x4 : Int32} {x5 : Int32} {Q : xV → Prop} (h : (((gI v 80 30) ≤ x5 → vp_in x1 20 ∧ ((x4 < (nI 100000000) → vp_in x1 20 ∧ RV E (d + 1) 183 295 [(0, .ref 80), (1, .int x1), (3, .int x3), (4, .int x4), (5, .int (nI 0))] (v_A (v_A v 118 (upd (gA v 118) (x1).toNatClampNeg x4)) 119 (upd (gA v 119) (x1).toNatClampNeg (nI 0))) Q) ∧ (¬ x4 < (nI 100000000) → Q (v_A v 118 (upd (gA v 118) (x1).toNatClampNeg x4))))) ∧ (¬ (gI v 80 30) ≤ x5 → KV E d 184 [.ref 80, .int x5, .int x3] v (fun v3 => KI E d 181 [.int x5, .int (nI 0), .int (nI 0)] v3 (fun y5 v4 => vp_in y5 44800 ∧ ((x4 ≤ ((gA v4 114) (y5).toNatClampNeg) → RV E (d + 1) 183 215 [(0, .ref 80), (1, .int x1), (3, .int x3), (4, .int x4), (5, .int (x5 + (nI 1)))] v4 Q) ∧ (¬ x4 ≤ ((gA v4 114) (y5).toNatClampNeg) → KI E d 181 [.int x5, .int (nI 0), .int (nI 0)] v4 (fun y8 v7 => vp_in y8 44800 ∧ ∀ y10 : Int32, y10 = ((gA v7 114) (y8).toNatClampNeg) → RV E (d + 1) 183 215 [(0, .ref 80), (1, .int x1), (3, .int x3), (4, .int y10), (5, .int (x5 + (nI 1)))] v7 Q)))))))) : RV E (d + 1) 183 215 [(0, .ref 80), (1, .int x1), (3, .int x3), (4, .int x4), (5, .int x5)] v Q := by
  unfold RV
  refine xr_blk (lv1 := [(0, .ref 80), (1, .int x1), (3, .int x3), (4, .int x4), (5, .int x5)]) (st1 := [.int (gI v 80 30), .int x5]) (S1 := rt v) (pc1 := 221) [(.iload 5, .null, 0, 0), (.aload_n 0, .null, 0, 0), (.getfield 291, .null, 12, 30)] [] (by decide +kernel) rfl trivial ?_
  refine xr_ic_ge (tgt := 268) (off := 47) (by decide +kernel) (by decide) (fun hc => ?_) (fun hc => ?_)
  · replace h := h.1 hc
    obtain ⟨hb1, h⟩ := h
    refine xr_blk (lv1 := [(0, .ref 80), (1, .int x1), (3, .int x3), (4, .int x4), (5, .int x5)]) (st1 := [.int (nI 100000000), .int x4]) (S1 := rt (v_A v 118 (upd (gA v 118) (x1).toNatClampNeg x4))) (pc1 := 281) [(.aload_n 0, .null, 0, 0), (.getfield 127, .null, 12, 59), (.iload_n 1, .null, 0, 0), (.iload 4, .null, 0, 0), (.iastore, .null, 0, 0), (.iload 4, .null, 0, 0), (.ldc_w 313, .int (nI 100000000), 0, 0)] [(x1, 20)] (by decide +kernel) rfl ⟨hb1, trivial⟩ ?_
    refine xr_ic_lt (tgt := 285) (off := 4) (by decide +kernel) (by decide) (fun hc => ?_) (fun hc => ?_)
    · replace h := h.1 hc
      obtain ⟨hb2, h⟩ := h
      refine xr_blk (lv1 := [(5, .int (nI 0)), (0, .ref 80), (1, .int x1), (3, .int x3), (4, .int x4)]) (st1 := []) (S1 := rt (v_A (v_A v 118 (upd (gA v 118) (x1).toNatClampNeg x4)) 119 (upd (gA v 119) (x1).toNatClampNeg (nI 0)))) (pc1 := 295) [(.aload_n 0, .null, 0, 0), (.getfield 130, .null, 12, 60), (.iload_n 1, .null, 0, 0), (.iconst 0, .int (nI 0), 0, 0), (.iastore, .null, 0, 0), (.iconst 0, .int (nI 0), 0, 0), (.istore 5, .null, 0, 0)] [(x1, 20)] (by decide +kernel) rfl ⟨hb2, trivial⟩ ?_
      exact x_R.sub [1, 2, 3, 4, 0] rfl h
    · replace h := h.2 hc
      exact xr_ret0 (by decide +kernel) rfl ⟨_, rfl, rfl, h⟩
  · replace h := h.2 hc
    refine xr_blk (lv1 := [(0, .ref 80), (1, .int x1), (3, .int x3), (4, .int x4), (5, .int x5)]) (st1 := [.int x3, .int x5, .ref 80]) (S1 := rt v) (pc1 := 228) [(.aload_n 0, .null, 0, 0), (.iload 5, .null, 0, 0), (.iload_n 3, .null, 0, 0)] [] (by decide +kernel) rfl trivial ?_
    refine xk_VV (As := [.int x5, .int x3]) (bb := 80) (rest := []) (idx := 337) (i0 := 337) (m1 := 184) (ps := [1744, 1746, 73]) (by decide +kernel) (by decide +kernel) (by decide) rfl ((gK_s (by decide)).trans (by decide +kernel)) (by decide) (Nat.le_of_ble_eq_true rfl) rfl h (fun v3 h => ?_)
    refine xr_blk (lv1 := [(0, .ref 80), (1, .int x1), (3, .int x3), (4, .int x4), (5, .int x5)]) (st1 := [.int (nI 0), .int (nI 0), .int x5, .ref 114]) (S1 := rt v3) (pc1 := 239) [(.aload_n 0, .null, 0, 0), (.getfield 115, .null, 12, 55), (.iload 5, .null, 0, 0), (.iconst 0, .int (nI 0), 0, 0), (.iconst 0, .int (nI 0), 0, 0)] [] (by decide +kernel) rfl trivial ?_
    refine xk_SI (As := [.int x5, .int (nI 0), .int (nI 0)]) (rest := [.ref 114]) (idx := 340) (i0 := 340) (m1 := 181) (ps := [1748, 1749]) (by decide +kernel) (by decide +kernel) (by decide) rfl (Nat.le_of_ble_eq_true rfl) rfl h (fun y5 v4 h => ?_)
    obtain ⟨hb6, h⟩ := h
    refine xr_blk (lv1 := [(0, .ref 80), (1, .int x1), (3, .int x3), (4, .int x4), (5, .int x5)]) (st1 := [.int x4, .int ((gA v4 114) (y5).toNatClampNeg)]) (S1 := rt v4) (pc1 := 245) [(.iaload, .null, 0, 0), (.iload 4, .null, 0, 0)] [(y5, 44800)] (by decide +kernel) rfl ⟨hb6, trivial⟩ ?_
    refine xr_ic_ge (tgt := 262) (off := 17) (by decide +kernel) (by decide) (fun hc => ?_) (fun hc => ?_)
    · replace h := h.1 hc
      refine xr_blk (lv1 := [(5, .int (x5 + (nI 1))), (0, .ref 80), (1, .int x1), (3, .int x3), (4, .int x4)]) (st1 := []) (S1 := rt v4) (pc1 := 265) [(.iinc 5 1, .int (nI 1), 0, 0)] [] (by decide +kernel) rfl trivial ?_
      refine xr_goto (tgt := 215) (off := -50) (by decide +kernel) (by decide) ?_
      exact x_R.sub [1, 2, 3, 4, 0] rfl h
    · replace h := h.2 hc
      refine xr_blk (lv1 := [(0, .ref 80), (1, .int x1), (3, .int x3), (4, .int x4), (5, .int x5)]) (st1 := [.int (nI 0), .int (nI 0), .int x5, .ref 114]) (S1 := rt v4) (pc1 := 256) [(.aload_n 0, .null, 0, 0), (.getfield 115, .null, 12, 55), (.iload 5, .null, 0, 0), (.iconst 0, .int (nI 0), 0, 0), (.iconst 0, .int (nI 0), 0, 0)] [] (by decide +kernel) rfl trivial ?_
      refine xk_SI (As := [.int x5, .int (nI 0), .int (nI 0)]) (rest := [.ref 114]) (idx := 340) (i0 := 340) (m1 := 181) (ps := [1748, 1749]) (by decide +kernel) (by decide +kernel) (by decide) rfl (Nat.le_of_ble_eq_true rfl) rfl h (fun y8 v7 h => ?_)
      obtain ⟨hb9, h⟩ := h
      refine xr_blk (lv1 := [(0, .ref 80), (1, .int x1), (3, .int x3), (4, .int x4), (5, .int x5)]) (st1 := [.int ((gA v7 114) (y8).toNatClampNeg)]) (S1 := rt v7) (pc1 := 260) [(.iaload, .null, 0, 0)] [(y8, 44800)] (by decide +kernel) rfl ⟨hb9, trivial⟩ ?_
      refine xr_topi (fun y10 ey10 => ?_)
      replace h := h y10 ey10
      refine xr_blk (lv1 := [(5, .int (x5 + (nI 1))), (4, .int y10), (0, .ref 80), (1, .int x1), (3, .int x3)]) (st1 := []) (S1 := rt v7) (pc1 := 265) [(.istore 4, .null, 0, 0), (.iinc 5 1, .int (nI 1), 0, 0)] [] (by decide +kernel) rfl trivial ?_
      refine xr_goto (tgt := 215) (off := -50) (by decide +kernel) (by decide) ?_
      exact x_R.sub [2, 3, 4, 1, 0] rfl h
set_option maxRecDepth 100000 in
theorem w_X12_workOut_295 {E : Nat × (Nat → Int32)} {d : Nat} {v : xV} {x1 : Int32} {x3 : Int32} {x4 : Int32} {x5 : Int32} {Q : xV → Prop} (h : (((gI v 80 30) ≤ x5 → KV E d 185 [.ref 80, .int x1, .int x3, .int x4] v (fun v1 => Q v1)) ∧ (¬ (gI v 80 30) ≤ x5 → KI E d 181 [.int x5, .int (nI 0), .int (nI 0)] v (fun y3 v2 => vp_in y3 44800 ∧ ((¬ ((gA v2 114) (y3).toNatClampNeg) = x4 → vp_in x5 256 ∧ vp_in x5 256 ∧ ((((upd (gA v2 120) (x5).toNatClampNeg (nI 0)) (x5).toNatClampNeg) = (nI 0) → RV E (d + 1) 183 364 [(0, .ref 80), (1, .int x1), (3, .int x3), (4, .int x4), (5, .int x5)] (v_A v2 120 (upd (gA v2 120) (x5).toNatClampNeg (nI 0))) Q) ∧ (¬ ((upd (gA v2 120) (x5).toNatClampNeg (nI 0)) (x5).toNatClampNeg) = (nI 0) → vp_in x1 20 ∧ KI E d 181 [.int x5, .int (nI 0), .int (nI 0)] (v_A v2 120 (upd (gA v2 120) (x5).toNatClampNeg (nI 0))) (fun y9 v8 => vp_in y9 44800 ∧ vp_in x1 20 ∧ RV E (d + 1) 183 364 [(0, .ref 80), (1, .int x1), (3, .int x3), (4, .int x4), (5, .int x5)] (v_A v8 119 (upd (gA v8 119) (x1).toNatClampNeg (((gA v2 119) (x1).toNatClampNeg) + ((gA v8 115) (y9).toNatClampNeg)))) Q)))) ∧ (((gA v2 114) (y3).toNatClampNeg) = x4 → vp_in x5 256 ∧ vp_in x5 256 ∧ ((((upd (gA v2 120) (x5).toNatClampNeg (nI 1)) (x5).toNatClampNeg) = (nI 0) → RV E (d + 1) 183 364 [(0, .ref 80), (1, .int x1), (3, .int x3), (4, .int x4), (5, .int x5)] (v_A v2 120 (upd (gA v2 120) (x5).toNatClampNeg (nI 1))) Q) ∧ (¬ ((upd (gA v2 120) (x5).toNatClampNeg (nI 1)) (x5).toNatClampNeg) = (nI 0) → vp_in x1 20 ∧ KI E d 181 [.int x5, .int (nI 0), .int (nI 0)] (v_A v2 120 (upd (gA v2 120) (x5).toNatClampNeg (nI 1))) (fun y16 v15 => vp_in y16 44800 ∧ vp_in x1 20 ∧ RV E (d + 1) 183 364 [(0, .ref 80), (1, .int x1), (3, .int x3), (4, .int x4), (5, .int x5)] (v_A v15 119 (upd (gA v15 119) (x1).toNatClampNeg (((gA v2 119) (x1).toNatClampNeg) + ((gA v15 115) (y16).toNatClampNeg)))) Q))))))))) : RV E (d + 1) 183 295 [(0, .ref 80), (1, .int x1), (3, .int x3), (4, .int x4), (5, .int x5)] v Q := by
  unfold RV
  refine xr_blk (lv1 := [(0, .ref 80), (1, .int x1), (3, .int x3), (4, .int x4), (5, .int x5)]) (st1 := [.int (gI v 80 30), .int x5]) (S1 := rt v) (pc1 := 301) [(.iload 5, .null, 0, 0), (.aload_n 0, .null, 0, 0), (.getfield 291, .null, 12, 30)] [] (by decide +kernel) rfl trivial ?_
  refine xr_ic_ge (tgt := 391) (off := 90) (by decide +kernel) (by decide) (fun hc => ?_) (fun hc => ?_)
  · replace h := h.1 hc
    refine xr_blk (lv1 := [(0, .ref 80), (1, .int x1), (3, .int x3), (4, .int x4), (5, .int x5)]) (st1 := [.int x4, .int x3, .int x1, .ref 80]) (S1 := rt v) (pc1 := 396) [(.aload_n 0, .null, 0, 0), (.iload_n 1, .null, 0, 0), (.iload_n 3, .null, 0, 0), (.iload 4, .null, 0, 0)] [] (by decide +kernel) rfl trivial ?_
    refine xk_VV (As := [.int x1, .int x3, .int x4]) (bb := 80) (rest := []) (idx := 344) (i0 := 344) (m1 := 185) (ps := [1751, 1753, 74]) (by decide +kernel) (by decide +kernel) (by decide) rfl ((gK_s (by decide)).trans (by decide +kernel)) (by decide) (Nat.le_of_ble_eq_true rfl) rfl h (fun v1 h => ?_)
    exact xr_ret0 (by decide +kernel) rfl ⟨_, rfl, rfl, h⟩
  · replace h := h.2 hc
    refine xr_blk (lv1 := [(0, .ref 80), (1, .int x1), (3, .int x3), (4, .int x4), (5, .int x5)]) (st1 := [.int (nI 0), .int (nI 0), .int x5, .ref 114, .int x5, .ref 120]) (S1 := rt v) (pc1 := 318) [(.aload_n 0, .null, 0, 0), (.getfield 133, .null, 12, 63), (.iload 5, .null, 0, 0), (.aload_n 0, .null, 0, 0), (.getfield 115, .null, 12, 55), (.iload 5, .null, 0, 0), (.iconst 0, .int (nI 0), 0, 0), (.iconst 0, .int (nI 0), 0, 0)] [] (by decide +kernel) rfl trivial ?_
    refine xk_SI (As := [.int x5, .int (nI 0), .int (nI 0)]) (rest := [.ref 114, .int x5, .ref 120]) (idx := 340) (i0 := 340) (m1 := 181) (ps := [1748, 1749]) (by decide +kernel) (by decide +kernel) (by decide) rfl (Nat.le_of_ble_eq_true rfl) rfl h (fun y3 v2 h => ?_)
    obtain ⟨hb4, h⟩ := h
    refine xr_blk (lv1 := [(0, .ref 80), (1, .int x1), (3, .int x3), (4, .int x4), (5, .int x5)]) (st1 := [.int x4, .int ((gA v2 114) (y3).toNatClampNeg), .int x5, .ref 120]) (S1 := rt v2) (pc1 := 324) [(.iaload, .null, 0, 0), (.iload 4, .null, 0, 0)] [(y3, 44800)] (by decide +kernel) rfl ⟨hb4, trivial⟩ ?_
    refine xr_ic_ne (tgt := 331) (off := 7) (by decide +kernel) (by decide) (fun hc => ?_) (fun hc => ?_)
    · replace h := h.1 hc
      obtain ⟨hb5, h⟩ := h
      obtain ⟨hb6, h⟩ := h
      refine xr_blk (lv1 := [(0, .ref 80), (1, .int x1), (3, .int x3), (4, .int x4), (5, .int x5)]) (st1 := [.int ((upd (gA v2 120) (x5).toNatClampNeg (nI 0)) (x5).toNatClampNeg)]) (S1 := rt (v_A v2 120 (upd (gA v2 120) (x5).toNatClampNeg (nI 0)))) (pc1 := 340) [(.iconst 0, .int (nI 0), 0, 0), (.bastore, .null, 0, 0), (.aload_n 0, .null, 0, 0), (.getfield 133, .null, 12, 63), (.iload 5, .null, 0, 0), (.baload, .null, 0, 0)] [(x5, 256), ((nI 0), 2), (x5, 256)] (by decide +kernel) rfl ⟨hb5, x_inl (by decide), hb6, trivial⟩ ?_
      refine xr_if_eq (tgt := 364) (off := 24) (by decide +kernel) (by decide) (fun hc => ?_) (fun hc => ?_)
      · replace h := h.1 hc
        exact x_R.sub [0, 1, 2, 3, 4] rfl h
      · replace h := h.2 hc
        obtain ⟨hb7, h⟩ := h
        refine xr_blk (lv1 := [(0, .ref 80), (1, .int x1), (3, .int x3), (4, .int x4), (5, .int x5)]) (st1 := [.int (nI 0), .int (nI 0), .int x5, .ref 115, .int ((gA v2 119) (x1).toNatClampNeg), .int x1, .ref 119]) (S1 := rt (v_A v2 120 (upd (gA v2 120) (x5).toNatClampNeg (nI 0)))) (pc1 := 358) [(.aload_n 0, .null, 0, 0), (.getfield 130, .null, 12, 60), (.iload_n 1, .null, 0, 0), (.dup2, .null, 0, 0), (.iaload, .null, 0, 0), (.aload_n 0, .null, 0, 0), (.getfield 118, .null, 12, 56), (.iload 5, .null, 0, 0), (.iconst 0, .int (nI 0), 0, 0), (.iconst 0, .int (nI 0), 0, 0)] [(x1, 20)] (by decide +kernel) rfl ⟨hb7, trivial⟩ ?_
        refine xk_SI (As := [.int x5, .int (nI 0), .int (nI 0)]) (rest := [.ref 115, .int ((gA v2 119) (x1).toNatClampNeg), .int x1, .ref 119]) (idx := 340) (i0 := 340) (m1 := 181) (ps := [1748, 1749]) (by decide +kernel) (by decide +kernel) (by decide) rfl (Nat.le_of_ble_eq_true rfl) rfl h (fun y9 v8 h => ?_)
        obtain ⟨hb10, h⟩ := h
        obtain ⟨hb11, h⟩ := h
        refine xr_blk (lv1 := [(0, .ref 80), (1, .int x1), (3, .int x3), (4, .int x4), (5, .int x5)]) (st1 := []) (S1 := rt (v_A v8 119 (upd (gA v8 119) (x1).toNatClampNeg (((gA v2 119) (x1).toNatClampNeg) + ((gA v8 115) (y9).toNatClampNeg))))) (pc1 := 364) [(.iaload, .null, 0, 0), (.iadd, .null, 0, 0), (.iastore, .null, 0, 0)] [(y9, 44800), (x1, 20)] (by decide +kernel) rfl ⟨hb10, hb11, trivial⟩ ?_
        exact x_R.sub [0, 1, 2, 3, 4] rfl h
    · replace h := h.2 hc
      refine xr_blk (lv1 := [(0, .ref 80), (1, .int x1), (3, .int x3), (4, .int x4), (5, .int x5)]) (st1 := [.int (nI 1), .int x5, .ref 120]) (S1 := rt v2) (pc1 := 328) [(.iconst 1, .int (nI 1), 0, 0)] [] (by decide +kernel) rfl trivial ?_
      refine xr_goto (tgt := 332) (off := 4) (by decide +kernel) (by decide) ?_
      obtain ⟨hb12, h⟩ := h
      obtain ⟨hb13, h⟩ := h
      refine xr_blk (lv1 := [(0, .ref 80), (1, .int x1), (3, .int x3), (4, .int x4), (5, .int x5)]) (st1 := [.int ((upd (gA v2 120) (x5).toNatClampNeg (nI 1)) (x5).toNatClampNeg)]) (S1 := rt (v_A v2 120 (upd (gA v2 120) (x5).toNatClampNeg (nI 1)))) (pc1 := 340) [(.bastore, .null, 0, 0), (.aload_n 0, .null, 0, 0), (.getfield 133, .null, 12, 63), (.iload 5, .null, 0, 0), (.baload, .null, 0, 0)] [(x5, 256), ((nI 1), 2), (x5, 256)] (by decide +kernel) rfl ⟨hb12, x_inl (by decide), hb13, trivial⟩ ?_
      refine xr_if_eq (tgt := 364) (off := 24) (by decide +kernel) (by decide) (fun hc => ?_) (fun hc => ?_)
      · replace h := h.1 hc
        exact x_R.sub [0, 1, 2, 3, 4] rfl h
      · replace h := h.2 hc
        obtain ⟨hb14, h⟩ := h
        refine xr_blk (lv1 := [(0, .ref 80), (1, .int x1), (3, .int x3), (4, .int x4), (5, .int x5)]) (st1 := [.int (nI 0), .int (nI 0), .int x5, .ref 115, .int ((gA v2 119) (x1).toNatClampNeg), .int x1, .ref 119]) (S1 := rt (v_A v2 120 (upd (gA v2 120) (x5).toNatClampNeg (nI 1)))) (pc1 := 358) [(.aload_n 0, .null, 0, 0), (.getfield 130, .null, 12, 60), (.iload_n 1, .null, 0, 0), (.dup2, .null, 0, 0), (.iaload, .null, 0, 0), (.aload_n 0, .null, 0, 0), (.getfield 118, .null, 12, 56), (.iload 5, .null, 0, 0), (.iconst 0, .int (nI 0), 0, 0), (.iconst 0, .int (nI 0), 0, 0)] [(x1, 20)] (by decide +kernel) rfl ⟨hb14, trivial⟩ ?_
        refine xk_SI (As := [.int x5, .int (nI 0), .int (nI 0)]) (rest := [.ref 115, .int ((gA v2 119) (x1).toNatClampNeg), .int x1, .ref 119]) (idx := 340) (i0 := 340) (m1 := 181) (ps := [1748, 1749]) (by decide +kernel) (by decide +kernel) (by decide) rfl (Nat.le_of_ble_eq_true rfl) rfl h (fun y16 v15 h => ?_)
        obtain ⟨hb17, h⟩ := h
        obtain ⟨hb18, h⟩ := h
        refine xr_blk (lv1 := [(0, .ref 80), (1, .int x1), (3, .int x3), (4, .int x4), (5, .int x5)]) (st1 := []) (S1 := rt (v_A v15 119 (upd (gA v15 119) (x1).toNatClampNeg (((gA v2 119) (x1).toNatClampNeg) + ((gA v15 115) (y16).toNatClampNeg))))) (pc1 := 364) [(.iaload, .null, 0, 0), (.iadd, .null, 0, 0), (.iastore, .null, 0, 0)] [(y16, 44800), (x1, 20)] (by decide +kernel) rfl ⟨hb17, hb18, trivial⟩ ?_
        exact x_R.sub [0, 1, 2, 3, 4] rfl h
set_option maxRecDepth 100000 in
theorem w_X12_workOut_364 {E : Nat × (Nat → Int32)} {d : Nat} {v : xV} {x1 : Int32} {x3 : Int32} {x4 : Int32} {x5 : Int32} {Q : xV → Prop} (h : vp_in x1 20 ∧ ((((gA v 119) (x1).toNatClampNeg) ≤ (nI 1000) → RV E (d + 1) 183 295 [(0, .ref 80), (1, .int x1), (3, .int x3), (4, .int x4), (5, .int (x5 + (nI 1)))] v Q) ∧ (¬ ((gA v 119) (x1).toNatClampNeg) ≤ (nI 1000) → vp_in x1 20 ∧ RV E (d + 1) 183 295 [(0, .ref 80), (1, .int x1), (3, .int x3), (4, .int x4), (5, .int (x5 + (nI 1)))] (v_A v 119 (upd (gA v 119) (x1).toNatClampNeg (nI 1000))) Q))) : RV E (d + 1) 183 364 [(0, .ref 80), (1, .int x1), (3, .int x3), (4, .int x4), (5, .int x5)] v Q := by
  unfold RV
  obtain ⟨hb1, h⟩ := h
  refine xr_blk (lv1 := [(0, .ref 80), (1, .int x1), (3, .int x3), (4, .int x4), (5, .int x5)]) (st1 := [.int (nI 1000), .int ((gA v 119) (x1).toNatClampNeg)]) (S1 := rt v) (pc1 := 373) [(.aload_n 0, .null, 0, 0), (.getfield 130, .null, 12, 60), (.iload_n 1, .null, 0, 0), (.iaload, .null, 0, 0), (.sipush 1000, .int (nI 1000), 0, 0)] [(x1, 20)] (by decide +kernel) rfl ⟨hb1, trivial⟩ ?_
  refine xr_ic_le (tgt := 385) (off := 12) (by decide +kernel) (by decide) (fun hc => ?_) (fun hc => ?_)
  · replace h := h.1 hc
    refine xr_blk (lv1 := [(5, .int (x5 + (nI 1))), (0, .ref 80), (1, .int x1), (3, .int x3), (4, .int x4)]) (st1 := []) (S1 := rt v) (pc1 := 388) [(.iinc 5 1, .int (nI 1), 0, 0)] [] (by decide +kernel) rfl trivial ?_
    refine xr_goto (tgt := 295) (off := -93) (by decide +kernel) (by decide) ?_
    exact x_R.sub [1, 2, 3, 4, 0] rfl h
  · replace h := h.2 hc
    obtain ⟨hb2, h⟩ := h
    refine xr_blk (lv1 := [(5, .int (x5 + (nI 1))), (0, .ref 80), (1, .int x1), (3, .int x3), (4, .int x4)]) (st1 := []) (S1 := rt (v_A v 119 (upd (gA v 119) (x1).toNatClampNeg (nI 1000)))) (pc1 := 388) [(.aload_n 0, .null, 0, 0), (.getfield 130, .null, 12, 60), (.iload_n 1, .null, 0, 0), (.sipush 1000, .int (nI 1000), 0, 0), (.iastore, .null, 0, 0), (.iinc 5 1, .int (nI 1), 0, 0)] [(x1, 20)] (by decide +kernel) rfl ⟨hb2, trivial⟩ ?_
    refine xr_goto (tgt := 295) (off := -93) (by decide +kernel) (by decide) ?_
    exact x_R.sub [1, 2, 3, 4, 0] rfl h
theorem ok_183 : x_mOK 183 := ⟨x_tm7 (List.mem_of_getElem? (i := 203) rfl) rfl, 114, by decide +kernel⟩
/-! X12_fillRow: method 184, ScrawlHouseModel.fillRow(II)V -/
set_option maxRecDepth 100000 in
theorem w_X12_fillRow_0 {E : Nat × (Nat → Int32)} {d : Nat} {v : xV} {x1 : Int32} {x2 : Int32} {Q : xV → Prop} (h : vp_in x1 512 ∧ ∀ y2 : Int32, y2 = ((gA v 96) (x1).toNatClampNeg) → RV E (d + 1) 184 10 [(0, .ref 80), (1, .int x1), (2, .int x2), (3, .int y2), (4, .int (nI 0))] v Q) : RV E (d + 1) 184 0 [(0, .ref 80), (1, .int x1), (2, .int x2)] v Q := by
  unfold RV
  obtain ⟨hb1, h⟩ := h
  refine xr_blk (lv1 := [(0, .ref 80), (1, .int x1), (2, .int x2)]) (st1 := [.int ((gA v 96) (x1).toNatClampNeg)]) (S1 := rt v) (pc1 := 6) [(.aload_n 0, .null, 0, 0), (.getfield 59, .null, 12, 33), (.iload_n 1, .null, 0, 0), (.iaload, .null, 0, 0)] [(x1, 512)] (by decide +kernel) rfl ⟨hb1, trivial⟩ ?_
  refine xr_topi (fun y2 ey2 => ?_)
  replace h := h y2 ey2
  refine xr_blk (lv1 := [(4, .int (nI 0)), (3, .int y2), (0, .ref 80), (1, .int x1), (2, .int x2)]) (st1 := []) (S1 := rt v) (pc1 := 10) [(.istore_n 3, .null, 0, 0), (.iconst 0, .int (nI 0), 0, 0), (.istore 4, .null, 0, 0)] [] (by decide +kernel) rfl trivial ?_
  exact x_R.sub [2, 3, 4, 1, 0] rfl h
set_option maxRecDepth 100000 in
theorem w_X12_fillRow_10 {E : Nat × (Nat → Int32)} {d : Nat} {v : xV} {x1 : Int32} {x2 : Int32} {x3 : Int32} {x4 : Int32} {Q : xV → Prop} (h : ((x2 < x4 → ∀ y1 : Int32, y1 = (x3 - (nI 1)) → RV E (d + 1) 184 75 [(0, .ref 80), (1, .int x1), (2, .int x2), (4, .int y1)] v Q) ∧ (¬ x2 < x4 → KI E d 181 [.int x1, .int x3, .int x4] v (fun y3 v2 => ((¬ x4 = x2 → vp_in y3 44800 ∧ KI E d 181 [.int x1, .int x3, .int x4] (v_A v2 114 (upd (gA v2 114) (y3).toNatClampNeg (nI 100000000))) (fun y6 v5 => ((¬ x4 = x2 → vp_in y6 44800 ∧ RV E (d + 1) 184 10 [(0, .ref 80), (1, .int x1), (2, .int x2), (3, .int x3), (4, .int (x4 + (nI 1)))] (v_A v5 115 (upd (gA v5 115) (y6).toNatClampNeg (nI 0))) Q) ∧ (x4 = x2 → vp_in y6 44800 ∧ RV E (d + 1) 184 10 [(0, .ref 80), (1, .int x1), (2, .int x2), (3, .int x3), (4, .int (x4 + (nI 1)))] (v_A v5 115 (upd (gA v5 115) (y6).toNatClampNeg (nI 1))) Q)))) ∧ (x4 = x2 → vp_in y3 44800 ∧ KI E d 181 [.int x1, .int x3, .int x4] (v_A v2 114 (upd (gA v2 114) (y3).toNatClampNeg (nI 0))) (fun y11 v10 => ((¬ x4 = x2 → vp_in y11 44800 ∧ RV E (d + 1) 184 10 [(0, .ref 80), (1, .int x1), (2, .int x2), (3, .int x3), (4, .int (x4 + (nI 1)))] (v_A v10 115 (upd (gA v10 115) (y11).toNatClampNeg (nI 0))) Q) ∧ (x4 = x2 → vp_in y11 44800 ∧ RV E (d + 1) 184 10 [(0, .ref 80), (1, .int x1), (2, .int x2), (3, .int x3), (4, .int (x4 + (nI 1)))] (v_A v10 115 (upd (gA v10 115) (y11).toNatClampNeg (nI 1))) Q))))))))) : RV E (d + 1) 184 10 [(0, .ref 80), (1, .int x1), (2, .int x2), (3, .int x3), (4, .int x4)] v Q := by
  unfold RV
  refine xr_blk (lv1 := [(0, .ref 80), (1, .int x1), (2, .int x2), (3, .int x3), (4, .int x4)]) (st1 := [.int x2, .int x4]) (S1 := rt v) (pc1 := 13) [(.iload 4, .null, 0, 0), (.iload_n 2, .null, 0, 0)] [] (by decide +kernel) rfl trivial ?_
  refine xr_ic_gt (tgt := 70) (off := 57) (by decide +kernel) (by decide) (fun hc => ?_) (fun hc => ?_)
  · replace h := h.1 hc
    refine xr_blk (lv1 := [(0, .ref 80), (1, .int x1), (2, .int x2), (3, .int x3), (4, .int x4)]) (st1 := [.int (x3 - (nI 1))]) (S1 := rt v) (pc1 := 73) [(.iload_n 3, .null, 0, 0), (.iconst 1, .int (nI 1), 0, 0), (.isub, .null, 0, 0)] [] (by decide +kernel) rfl trivial ?_
    refine xr_topi (fun y1 ey1 => ?_)
    replace h := h y1 ey1
    refine xr_blk (lv1 := [(4, .int y1), (0, .ref 80), (1, .int x1), (2, .int x2), (3, .int x3)]) (st1 := []) (S1 := rt v) (pc1 := 75) [(.istore 4, .null, 0, 0)] [] (by decide +kernel) rfl trivial ?_
    exact x_R.sub [1, 2, 3, 0] rfl h
  · replace h := h.2 hc
    refine xr_blk (lv1 := [(0, .ref 80), (1, .int x1), (2, .int x2), (3, .int x3), (4, .int x4)]) (st1 := [.int x4, .int x3, .int x1, .ref 114]) (S1 := rt v) (pc1 := 24) [(.aload_n 0, .null, 0, 0), (.getfield 115, .null, 12, 55), (.iload_n 1, .null, 0, 0), (.iload_n 3, .null, 0, 0), (.iload 4, .null, 0, 0)] [] (by decide +kernel) rfl trivial ?_
    refine xk_SI (As := [.int x1, .int x3, .int x4]) (rest := [.ref 114]) (idx := 340) (i0 := 340) (m1 := 181) (ps := [1748, 1749]) (by decide +kernel) (by decide +kernel) (by decide) rfl (Nat.le_of_ble_eq_true rfl) rfl h (fun y3 v2 h => ?_)
    refine xr_blk (lv1 := [(0, .ref 80), (1, .int x1), (2, .int x2), (3, .int x3), (4, .int x4)]) (st1 := [.int x2, .int x4, .int y3, .ref 114]) (S1 := rt v2) (pc1 := 30) [(.iload 4, .null, 0, 0), (.iload_n 2, .null, 0, 0)] [] (by decide +kernel) rfl trivial ?_
    refine xr_ic_ne (tgt := 37) (off := 7) (by decide +kernel) (by decide) (fun hc => ?_) (fun hc => ?_)
    · replace h := h.1 hc
      obtain ⟨hb4, h⟩ := h
      refine xr_blk (lv1 := [(0, .ref 80), (1, .int x1), (2, .int x2), (3, .int x3), (4, .int x4)]) (st1 := [.int x4, .int x3, .int x1, .ref 115]) (S1 := rt (v_A v2 114 (upd (gA v2 114) (y3).toNatClampNeg (nI 100000000)))) (pc1 := 49) [(.ldc_w 313, .int (nI 100000000), 0, 0), (.iastore, .null, 0, 0), (.aload_n 0, .null, 0, 0), (.getfield 118, .null, 12, 56), (.iload_n 1, .null, 0, 0), (.iload_n 3, .null, 0, 0), (.iload 4, .null, 0, 0)] [(y3, 44800)] (by decide +kernel) rfl ⟨hb4, trivial⟩ ?_
      refine xk_SI (As := [.int x1, .int x3, .int x4]) (rest := [.ref 115]) (idx := 340) (i0 := 340) (m1 := 181) (ps := [1748, 1749]) (by decide +kernel) (by decide +kernel) (by decide) rfl (Nat.le_of_ble_eq_true rfl) rfl h (fun y6 v5 h => ?_)
      refine xr_blk (lv1 := [(0, .ref 80), (1, .int x1), (2, .int x2), (3, .int x3), (4, .int x4)]) (st1 := [.int x2, .int x4, .int y6, .ref 115]) (S1 := rt v5) (pc1 := 55) [(.iload 4, .null, 0, 0), (.iload_n 2, .null, 0, 0)] [] (by decide +kernel) rfl trivial ?_
      refine xr_ic_ne (tgt := 62) (off := 7) (by decide +kernel) (by decide) (fun hc => ?_) (fun hc => ?_)
      · replace h := h.1 hc
        obtain ⟨hb7, h⟩ := h
        refine xr_blk (lv1 := [(4, .int (x4 + (nI 1))), (0, .ref 80), (1, .int x1), (2, .int x2), (3, .int x3)]) (st1 := []) (S1 := rt (v_A v5 115 (upd (gA v5 115) (y6).toNatClampNeg (nI 0)))) (pc1 := 67) [(.iconst 0, .int (nI 0), 0, 0), (.iastore, .null, 0, 0), (.iinc 4 1, .int (nI 1), 0, 0)] [(y6, 44800)] (by decide +kernel) rfl ⟨hb7, trivial⟩ ?_
        refine xr_goto (tgt := 10) (off := -57) (by decide +kernel) (by decide) ?_
        exact x_R.sub [1, 2, 3, 4, 0] rfl h
      · replace h := h.2 hc
        refine xr_blk (lv1 := [(0, .ref 80), (1, .int x1), (2, .int x2), (3, .int x3), (4, .int x4)]) (st1 := [.int (nI 1), .int y6, .ref 115]) (S1 := rt v5) (pc1 := 59) [(.iconst 1, .int (nI 1), 0, 0)] [] (by decide +kernel) rfl trivial ?_
        refine xr_goto (tgt := 63) (off := 4) (by decide +kernel) (by decide) ?_
        obtain ⟨hb8, h⟩ := h
        refine xr_blk (lv1 := [(4, .int (x4 + (nI 1))), (0, .ref 80), (1, .int x1), (2, .int x2), (3, .int x3)]) (st1 := []) (S1 := rt (v_A v5 115 (upd (gA v5 115) (y6).toNatClampNeg (nI 1)))) (pc1 := 67) [(.iastore, .null, 0, 0), (.iinc 4 1, .int (nI 1), 0, 0)] [(y6, 44800)] (by decide +kernel) rfl ⟨hb8, trivial⟩ ?_
        refine xr_goto (tgt := 10) (off := -57) (by decide +kernel) (by decide) ?_
        exact x_R.sub [1, 2, 3, 4, 0] rfl h
    · replace h := h.2 hc
      refine xr_blk (lv1 := [(0, .ref 80), (1, .int x1), (2, .int x2), (3, .int x3), (4, .int x4)]) (st1 := [.int (nI 0), .int y3, .ref 114]) (S1 := rt v2) (pc1 := 34) [(.iconst 0, .int (nI 0), 0, 0)] [] (by decide +kernel) rfl trivial ?_
      refine xr_goto (tgt := 40) (off := 6) (by decide +kernel) (by decide) ?_
      obtain ⟨hb9, h⟩ := h
      refine xr_blk (lv1 := [(0, .ref 80), (1, .int x1), (2, .int x2), (3, .int x3), (4, .int x4)]) (st1 := [.int x4, .int x3, .int x1, .ref 115]) (S1 := rt (v_A v2 114 (upd (gA v2 114) (y3).toNatClampNeg (nI 0)))) (pc1 := 49) [(.iastore, .null, 0, 0), (.aload_n 0, .null, 0, 0), (.getfield 118, .null, 12, 56), (.iload_n 1, .null, 0, 0), (.iload_n 3, .null, 0, 0), (.iload 4, .null, 0, 0)] [(y3, 44800)] (by decide +kernel) rfl ⟨hb9, trivial⟩ ?_
      refine xk_SI (As := [.int x1, .int x3, .int x4]) (rest := [.ref 115]) (idx := 340) (i0 := 340) (m1 := 181) (ps := [1748, 1749]) (by decide +kernel) (by decide +kernel) (by decide) rfl (Nat.le_of_ble_eq_true rfl) rfl h (fun y11 v10 h => ?_)
      refine xr_blk (lv1 := [(0, .ref 80), (1, .int x1), (2, .int x2), (3, .int x3), (4, .int x4)]) (st1 := [.int x2, .int x4, .int y11, .ref 115]) (S1 := rt v10) (pc1 := 55) [(.iload 4, .null, 0, 0), (.iload_n 2, .null, 0, 0)] [] (by decide +kernel) rfl trivial ?_
      refine xr_ic_ne (tgt := 62) (off := 7) (by decide +kernel) (by decide) (fun hc => ?_) (fun hc => ?_)
      · replace h := h.1 hc
        obtain ⟨hb12, h⟩ := h
        refine xr_blk (lv1 := [(4, .int (x4 + (nI 1))), (0, .ref 80), (1, .int x1), (2, .int x2), (3, .int x3)]) (st1 := []) (S1 := rt (v_A v10 115 (upd (gA v10 115) (y11).toNatClampNeg (nI 0)))) (pc1 := 67) [(.iconst 0, .int (nI 0), 0, 0), (.iastore, .null, 0, 0), (.iinc 4 1, .int (nI 1), 0, 0)] [(y11, 44800)] (by decide +kernel) rfl ⟨hb12, trivial⟩ ?_
        refine xr_goto (tgt := 10) (off := -57) (by decide +kernel) (by decide) ?_
        exact x_R.sub [1, 2, 3, 4, 0] rfl h
      · replace h := h.2 hc
        refine xr_blk (lv1 := [(0, .ref 80), (1, .int x1), (2, .int x2), (3, .int x3), (4, .int x4)]) (st1 := [.int (nI 1), .int y11, .ref 115]) (S1 := rt v10) (pc1 := 59) [(.iconst 1, .int (nI 1), 0, 0)] [] (by decide +kernel) rfl trivial ?_
        refine xr_goto (tgt := 63) (off := 4) (by decide +kernel) (by decide) ?_
        obtain ⟨hb13, h⟩ := h
        refine xr_blk (lv1 := [(4, .int (x4 + (nI 1))), (0, .ref 80), (1, .int x1), (2, .int x2), (3, .int x3)]) (st1 := []) (S1 := rt (v_A v10 115 (upd (gA v10 115) (y11).toNatClampNeg (nI 1)))) (pc1 := 67) [(.iastore, .null, 0, 0), (.iinc 4 1, .int (nI 1), 0, 0)] [(y11, 44800)] (by decide +kernel) rfl ⟨hb13, trivial⟩ ?_
        refine xr_goto (tgt := 10) (off := -57) (by decide +kernel) (by decide) ?_
        exact x_R.sub [1, 2, 3, 4, 0] rfl h
set_option maxRecDepth 100000 in
theorem w_X12_fillRow_75 {E : Nat × (Nat → Int32)} {d : Nat} {v : xV} {x1 : Int32} {x2 : Int32} {x4 : Int32} {Q : xV → Prop} (h : ((x4 < (nI 0) → Q v) ∧ (¬ x4 < (nI 0) → RV E (d + 1) 184 83 [(0, .ref 80), (1, .int x1), (2, .int x2), (4, .int x4), (5, .int (nI 0))] v Q))) : RV E (d + 1) 184 75 [(0, .ref 80), (1, .int x1), (2, .int x2), (4, .int x4)] v Q := by
  unfold RV
  refine xr_blk (lv1 := [(0, .ref 80), (1, .int x1), (2, .int x2), (4, .int x4)]) (st1 := [.int x4]) (S1 := rt v) (pc1 := 77) [(.iload 4, .null, 0, 0)] [] (by decide +kernel) rfl trivial ?_
  refine xr_if_lt (tgt := 307) (off := 230) (by decide +kernel) (by decide) (fun hc => ?_) (fun hc => ?_)
  · replace h := h.1 hc
    exact xr_ret0 (by decide +kernel) rfl ⟨_, rfl, rfl, h⟩
  · replace h := h.2 hc
    refine xr_blk (lv1 := [(5, .int (nI 0)), (0, .ref 80), (1, .int x1), (2, .int x2), (4, .int x4)]) (st1 := []) (S1 := rt v) (pc1 := 83) [(.iconst 0, .int (nI 0), 0, 0), (.istore 5, .null, 0, 0)] [] (by decide +kernel) rfl trivial ?_
    exact x_R.sub [1, 2, 3, 4, 0] rfl h
set_option maxRecDepth 100000 in
theorem w_X12_fillRow_83 {E : Nat × (Nat → Int32)} {d : Nat} {v : xV} {x1 : Int32} {x2 : Int32} {x4 : Int32} {x5 : Int32} {Q : xV → Prop} (h : ((x2 < x5 → RV E (d + 1) 184 75 [(0, .ref 80), (1, .int x1), (2, .int x2), (4, .int (x4 + (-1 : Int32)))] v Q) ∧ (¬ x2 < x5 → RV E (d + 1) 184 100 [(0, .ref 80), (1, .int x1), (2, .int x2), (4, .int x4), (5, .int x5), (6, .int (nI 100000000)), (7, .int (nI 0)), (8, .int (nI 0))] v Q))) : RV E (d + 1) 184 83 [(0, .ref 80), (1, .int x1), (2, .int x2), (4, .int x4), (5, .int x5)] v Q := by
  unfold RV
  refine xr_blk (lv1 := [(0, .ref 80), (1, .int x1), (2, .int x2), (4, .int x4), (5, .int x5)]) (st1 := [.int x2, .int x5]) (S1 := rt v) (pc1 := 86) [(.iload 5, .null, 0, 0), (.iload_n 2, .null, 0, 0)] [] (by decide +kernel) rfl trivial ?_
  refine xr_ic_gt (tgt := 301) (off := 215) (by decide +kernel) (by decide) (fun hc => ?_) (fun hc => ?_)
  · replace h := h.1 hc
    refine xr_blk (lv1 := [(4, .int (x4 + (-1 : Int32))), (0, .ref 80), (1, .int x1), (2, .int x2), (5, .int x5)]) (st1 := []) (S1 := rt v) (pc1 := 304) [(.iinc 4 (-1), .int (-1), 0, 0)] [] (by decide +kernel) rfl trivial ?_
    refine xr_goto (tgt := 75) (off := -229) (by decide +kernel) (by decide) ?_
    exact x_R.sub [1, 2, 3, 0] rfl h
  · replace h := h.2 hc
    refine xr_blk (lv1 := [(8, .int (nI 0)), (7, .int (nI 0)), (6, .int (nI 100000000)), (0, .ref 80), (1, .int x1), (2, .int x2), (4, .int x4), (5, .int x5)]) (st1 := []) (S1 := rt v) (pc1 := 100) [(.ldc_w 313, .int (nI 100000000), 0, 0), (.istore 6, .null, 0, 0), (.iconst 0, .int (nI 0), 0, 0), (.istore 7, .null, 0, 0), (.iconst 0, .int (nI 0), 0, 0), (.istore 8, .null, 0, 0)] [] (by decide +kernel) rfl trivial ?_
    exact x_R.sub [3, 4, 5, 6, 7, 2, 1, 0] rfl h
set_option maxRecDepth 100000 in
theorem w_X12_fillRow_100 {E : Nat × (Nat → Int32)} {d : Nat} {v : xV} {x1 : Int32} {x2 : Int32} {x4 : Int32} {x5 : Int32} {x6 : Int32} {x7 : Int32} {x8 : Int32} {Q : xV → Prop} (h : (((gI v 80 20) ≤ x8 → RV E (d + 1) 184 265 [(0, .ref 80), (1, .int x1), (2, .int x2), (4, .int x4), (5, .int x5), (6, .int x6), (7, .int x7)] v Q) ∧ (¬ (gI v 80 20) ≤ x8 → ((x2 ≤ x5 → RV E (d + 1) 184 265 [(0, .ref 80), (1, .int x1), (2, .int x2), (4, .int x4), (5, .int x5), (6, .int x6), (7, .int x7)] v Q) ∧ (¬ x2 ≤ x5 → vp_in x8 80 ∧ vp_in (((nI 6) * x1) + x4) 3072 ∧ ((¬ ((gA v 87) (x8).toNatClampNeg) = ((gA v 97) ((((nI 6) * x1) + x4)).toNatClampNeg) → RV E (d + 1) 184 100 [(0, .ref 80), (1, .int x1), (2, .int x2), (4, .int x4), (5, .int x5), (6, .int x6), (7, .int x7), (8, .int (x8 + (nI 1)))] v Q) ∧ (((gA v 87) (x8).toNatClampNeg) = ((gA v 97) ((((nI 6) * x1) + x4)).toNatClampNeg) → vp_in (((nI 24) * x8) + x5) 1920 ∧ ((((gA v 113) ((((nI 24) * x8) + x5)).toNatClampNeg) < (nI 100000000) → vp_in x8 80 ∧ KI E d 181 [.int x1, .int (x4 + (nI 1)), .int (x5 + ((gA v 86) (x8).toNatClampNeg))] v (fun y6 v5 => vp_in (((nI 24) * x8) + x5) 1920 ∧ vp_in y6 44800 ∧ ∀ y9 : Int32, y9 = (((gA v5 113) ((((nI 24) * x8) + x5)).toNatClampNeg) + ((gA v5 114) (y6).toNatClampNeg)) → (((nI 100000000) ≤ y9 → RV E (d + 1) 184 100 [(0, .ref 80), (1, .int x1), (2, .int x2), (4, .int x4), (5, .int x5), (6, .int x6), (7, .int x7), (8, .int (x8 + (nI 1)))] v5 Q) ∧ (¬ (nI 100000000) ≤ y9 → ((y9 ≤ x6 → ((x6 ≤ y9 → RV E (d + 1) 184 230 [(0, .ref 80), (1, .int x1), (2, .int x2), (4, .int x4), (5, .int x5), (7, .int x7), (8, .int x8), (9, .int y6), (10, .int y9)] v5 Q) ∧ (¬ x6 ≤ y9 → RV E (d + 1) 184 230 [(0, .ref 80), (1, .int x1), (2, .int x2), (4, .int x4), (5, .int x5), (7, .int (nI 0)), (8, .int x8), (9, .int y6), (10, .int y9)] v5 Q))) ∧ (¬ y9 ≤ x6 → RV E (d + 1) 184 100 [(0, .ref 80), (1, .int x1), (2, .int x2), (4, .int x4), (5, .int x5), (6, .int x6), (7, .int x7), (8, .int (x8 + (nI 1)))] v5 Q)))))) ∧ (¬ ((gA v 113) ((((nI 24) * x8) + x5)).toNatClampNeg) < (nI 100000000) → RV E (d + 1) 184 100 [(0, .ref 80), (1, .int x1), (2, .int x2), (4, .int x4), (5, .int x5), (6, .int x6), (7, .int x7), (8, .int (x8 + (nI 1)))] v Q))))))))) : RV E (d + 1) 184 100 [(0, .ref 80), (1, .int x1), (2, .int x2), (4, .int x4), (5, .int x5), (6, .int x6), (7, .int x7), (8, .int x8)] v Q := by
  unfold RV
  refine xr_blk (lv1 := [(0, .ref 80), (1, .int x1), (2, .int x2), (4, .int x4), (5, .int x5), (6, .int x6), (7, .int x7), (8, .int x8)]) (st1 := [.int (gI v 80 20), .int x8]) (S1 := rt v) (pc1 := 106) [(.iload 8, .null, 0, 0), (.aload_n 0, .null, 0, 0), (.getfield 207, .null, 12, 20)] [] (by decide +kernel) rfl trivial ?_
  refine xr_ic_ge (tgt := 265) (off := 159) (by decide +kernel) (by decide) (fun hc => ?_) (fun hc => ?_)
  · replace h := h.1 hc
    exact x_R.sub [0, 1, 2, 3, 4, 5, 6] rfl h
  · replace h := h.2 hc
    refine xr_blk (lv1 := [(0, .ref 80), (1, .int x1), (2, .int x2), (4, .int x4), (5, .int x5), (6, .int x6), (7, .int x7), (8, .int x8)]) (st1 := [.int x2, .int x5]) (S1 := rt v) (pc1 := 112) [(.iload 5, .null, 0, 0), (.iload_n 2, .null, 0, 0)] [] (by decide +kernel) rfl trivial ?_
    refine xr_ic_ge (tgt := 265) (off := 153) (by decide +kernel) (by decide) (fun hc => ?_) (fun hc => ?_)
    · replace h := h.1 hc
      exact x_R.sub [0, 1, 2, 3, 4, 5, 6] rfl h
    · replace h := h.2 hc
      obtain ⟨hb1, h⟩ := h
      obtain ⟨hb2, h⟩ := h
      refine xr_blk (lv1 := [(0, .ref 80), (1, .int x1), (2, .int x2), (4, .int x4), (5, .int x5), (6, .int x6), (7, .int x7), (8, .int x8)]) (st1 := [.int ((gA v 97) ((((nI 6) * x1) + x4)).toNatClampNeg), .int ((gA v 87) (x8).toNatClampNeg)]) (S1 := rt v) (pc1 := 134) [(.aload_n 0, .null, 0, 0), (.getfield 32, .null, 12, 11), (.iload 8, .null, 0, 0), (.iaload, .null, 0, 0), (.aload_n 0, .null, 0, 0), (.getfield 62, .null, 12, 34), (.bipush 6, .int (nI 6), 0, 0), (.iload_n 1, .null, 0, 0), (.imul, .null, 0, 0), (.iload 4, .null, 0, 0), (.iadd, .null, 0, 0), (.iaload, .null, 0, 0)] [(x8, 80), ((((nI 6) * x1) + x4), 3072)] (by decide +kernel) rfl ⟨hb1, hb2, trivial⟩ ?_
      refine xr_ic_ne (tgt := 259) (off := 125) (by decide +kernel) (by decide) (fun hc => ?_) (fun hc => ?_)
      · replace h := h.1 hc
        refine xr_blk (lv1 := [(8, .int (x8 + (nI 1))), (0, .ref 80), (1, .int x1), (2, .int x2), (4, .int x4), (5, .int x5), (6, .int x6), (7, .int x7)]) (st1 := []) (S1 := rt v) (pc1 := 262) [(.iinc 8 1, .int (nI 1), 0, 0)] [] (by decide +kernel) rfl trivial ?_
        refine xr_goto (tgt := 100) (off := -162) (by decide +kernel) (by decide) ?_
        exact x_R.sub [1, 2, 3, 4, 5, 6, 7, 0] rfl h
      · replace h := h.2 hc
        obtain ⟨hb3, h⟩ := h
        refine xr_blk (lv1 := [(0, .ref 80), (1, .int x1), (2, .int x2), (4, .int x4), (5, .int x5), (6, .int x6), (7, .int x7), (8, .int x8)]) (st1 := [.int (nI 100000000), .int ((gA v 113) ((((nI 24) * x8) + x5)).toNatClampNeg)]) (S1 := rt v) (pc1 := 153) [(.aload_n 0, .null, 0, 0), (.getfield 111, .null, 12, 54), (.bipush 24, .int (nI 24), 0, 0), (.iload 8, .null, 0, 0), (.imul, .null, 0, 0), (.iload 5, .null, 0, 0), (.iadd, .null, 0, 0), (.iaload, .null, 0, 0), (.ldc_w 313, .int (nI 100000000), 0, 0)] [((((nI 24) * x8) + x5), 1920)] (by decide +kernel) rfl ⟨hb3, trivial⟩ ?_
        refine xr_ic_lt (tgt := 159) (off := 6) (by decide +kernel) (by decide) (fun hc => ?_) (fun hc => ?_)
        · replace h := h.1 hc
          obtain ⟨hb4, h⟩ := h
          refine xr_blk (lv1 := [(0, .ref 80), (1, .int x1), (2, .int x2), (4, .int x4), (5, .int x5), (6, .int x6), (7, .int x7), (8, .int x8)]) (st1 := [.int (x5 + ((gA v 86) (x8).toNatClampNeg)), .int (x4 + (nI 1)), .int x1]) (S1 := rt v) (pc1 := 174) [(.iload_n 1, .null, 0, 0), (.iload 4, .null, 0, 0), (.iconst 1, .int (nI 1), 0, 0), (.iadd, .null, 0, 0), (.iload 5, .null, 0, 0), (.aload_n 0, .null, 0, 0), (.getfield 29, .null, 12, 10), (.iload 8, .null, 0, 0), (.iaload, .null, 0, 0), (.iadd, .null, 0, 0)] [(x8, 80)] (by decide +kernel) rfl ⟨hb4, trivial⟩ ?_
          refine xk_SI (As := [.int x1, .int (x4 + (nI 1)), .int (x5 + ((gA v 86) (x8).toNatClampNeg))]) (rest := []) (idx := 340) (i0 := 340) (m1 := 181) (ps := [1748, 1749]) (by decide +kernel) (by decide +kernel) (by decide) rfl (Nat.le_of_ble_eq_true rfl) rfl h (fun y6 v5 h => ?_)
          obtain ⟨hb7, h⟩ := h
          obtain ⟨hb8, h⟩ := h
          refine xr_blk (lv1 := [(9, .int y6), (0, .ref 80), (1, .int x1), (2, .int x2), (4, .int x4), (5, .int x5), (6, .int x6), (7, .int x7), (8, .int x8)]) (st1 := [.int (((gA v5 113) ((((nI 24) * x8) + x5)).toNatClampNeg) + ((gA v5 114) (y6).toNatClampNeg))]) (S1 := rt v5) (pc1 := 200) [(.istore 9, .null, 0, 0), (.aload_n 0, .null, 0, 0), (.getfield 111, .null, 12, 54), (.bipush 24, .int (nI 24), 0, 0), (.iload 8, .null, 0, 0), (.imul, .null, 0, 0), (.iload 5, .null, 0, 0), (.iadd, .null, 0, 0), (.iaload, .null, 0, 0), (.aload_n 0, .null, 0, 0), (.getfield 115, .null, 12, 55), (.iload 9, .null, 0, 0), (.iaload, .null, 0, 0), (.iadd, .null, 0, 0)] [((((nI 24) * x8) + x5), 1920), (y6, 44800)] (by decide +kernel) rfl ⟨hb7, hb8, trivial⟩ ?_
          refine xr_topi (fun y9 ey9 => ?_)
          replace h := h y9 ey9
          refine xr_blk (lv1 := [(10, .int y9), (9, .int y6), (0, .ref 80), (1, .int x1), (2, .int x2), (4, .int x4), (5, .int x5), (6, .int x6), (7, .int x7), (8, .int x8)]) (st1 := [.int (nI 100000000), .int y9]) (S1 := rt v5) (pc1 := 207) [(.istore 10, .null, 0, 0), (.iload 10, .null, 0, 0), (.ldc_w 313, .int (nI 100000000), 0, 0)] [] (by decide +kernel) rfl trivial ?_
          refine xr_ic_ge (tgt := 259) (off := 52) (by decide +kernel) (by decide) (fun hc => ?_) (fun hc => ?_)
          · replace h := h.1 hc
            refine xr_blk (lv1 := [(8, .int (x8 + (nI 1))), (10, .int y9), (9, .int y6), (0, .ref 80), (1, .int x1), (2, .int x2), (4, .int x4), (5, .int x5), (6, .int x6), (7, .int x7)]) (st1 := []) (S1 := rt v5) (pc1 := 262) [(.iinc 8 1, .int (nI 1), 0, 0)] [] (by decide +kernel) rfl trivial ?_
            refine xr_goto (tgt := 100) (off := -162) (by decide +kernel) (by decide) ?_
            exact x_R.sub [3, 4, 5, 6, 7, 8, 9, 0] rfl h
          · replace h := h.2 hc
            refine xr_blk (lv1 := [(10, .int y9), (9, .int y6), (0, .ref 80), (1, .int x1), (2, .int x2), (4, .int x4), (5, .int x5), (6, .int x6), (7, .int x7), (8, .int x8)]) (st1 := [.int x6, .int y9]) (S1 := rt v5) (pc1 := 214) [(.iload 10, .null, 0, 0), (.iload 6, .null, 0, 0)] [] (by decide +kernel) rfl trivial ?_
            refine xr_ic_le (tgt := 220) (off := 6) (by decide +kernel) (by decide) (fun hc => ?_) (fun hc => ?_)
            · replace h := h.1 hc
              refine xr_blk (lv1 := [(10, .int y9), (9, .int y6), (0, .ref 80), (1, .int x1), (2, .int x2), (4, .int x4), (5, .int x5), (6, .int x6), (7, .int x7), (8, .int x8)]) (st1 := [.int x6, .int y9]) (S1 := rt v5) (pc1 := 224) [(.iload 10, .null, 0, 0), (.iload 6, .null, 0, 0)] [] (by decide +kernel) rfl trivial ?_
              refine xr_ic_ge (tgt := 230) (off := 6) (by decide +kernel) (by decide) (fun hc => ?_) (fun hc => ?_)
              · replace h := h.1 hc
                exact x_R.sub [2, 3, 4, 5, 6, 8, 9, 1, 0] rfl h
              · replace h := h.2 hc
                refine xr_blk (lv1 := [(7, .int (nI 0)), (10, .int y9), (9, .int y6), (0, .ref 80), (1, .int x1), (2, .int x2), (4, .int x4), (5, .int x5), (6, .int x6), (8, .int x8)]) (st1 := []) (S1 := rt v5) (pc1 := 230) [(.iconst 0, .int (nI 0), 0, 0), (.istore 7, .null, 0, 0)] [] (by decide +kernel) rfl trivial ?_
                exact x_R.sub [3, 4, 5, 6, 7, 0, 9, 2, 1] rfl h
            · replace h := h.2 hc
              refine xr_goto (tgt := 259) (off := 42) (by decide +kernel) (by decide) ?_
              refine xr_blk (lv1 := [(8, .int (x8 + (nI 1))), (10, .int y9), (9, .int y6), (0, .ref 80), (1, .int x1), (2, .int x2), (4, .int x4), (5, .int x5), (6, .int x6), (7, .int x7)]) (st1 := []) (S1 := rt v5) (pc1 := 262) [(.iinc 8 1, .int (nI 1), 0, 0)] [] (by decide +kernel) rfl trivial ?_
              refine xr_goto (tgt := 100) (off := -162) (by decide +kernel) (by decide) ?_
              exact x_R.sub [3, 4, 5, 6, 7, 8, 9, 0] rfl h
        · replace h := h.2 hc
          refine xr_goto (tgt := 259) (off := 103) (by decide +kernel) (by decide) ?_
          refine xr_blk (lv1 := [(8, .int (x8 + (nI 1))), (0, .ref 80), (1, .int x1), (2, .int x2), (4, .int x4), (5, .int x5), (6, .int x6), (7, .int x7)]) (st1 := []) (S1 := rt v) (pc1 := 262) [(.iinc 8 1, .int (nI 1), 0, 0)] [] (by decide +kernel) rfl trivial ?_
          refine xr_goto (tgt := 100) (off := -162) (by decide +kernel) (by decide) ?_
          exact x_R.sub [1, 2, 3, 4, 5, 6, 7, 0] rfl h
set_option maxRecDepth 100000 in
theorem w_X12_fillRow_230 {E : Nat × (Nat → Int32)} {d : Nat} {v : xV} {x1 : Int32} {x2 : Int32} {x4 : Int32} {x5 : Int32} {x7 : Int32} {x8 : Int32} {x9 : Int32} {x10 : Int32} {Q : xV → Prop} (h : vp_in x9 44800 ∧ ∀ y2 : Int32, y2 = (x7 + ((gA v 115) (x9).toNatClampNeg)) → ((y2 ≤ (nI 1000) → RV E (d + 1) 184 100 [(0, .ref 80), (1, .int x1), (2, .int x2), (4, .int x4), (5, .int x5), (6, .int x10), (7, .int y2), (8, .int (x8 + (nI 1)))] v Q) ∧ (¬ y2 ≤ (nI 1000) → RV E (d + 1) 184 100 [(0, .ref 80), (1, .int x1), (2, .int x2), (4, .int x4), (5, .int x5), (6, .int x10), (7, .int (nI 1000)), (8, .int (x8 + (nI 1)))] v Q))) : RV E (d + 1) 184 230 [(0, .ref 80), (1, .int x1), (2, .int x2), (4, .int x4), (5, .int x5), (7, .int x7), (8, .int x8), (9, .int x9), (10, .int x10)] v Q := by
  unfold RV
  obtain ⟨hb1, h⟩ := h
  refine xr_blk (lv1 := [(6, .int x10), (0, .ref 80), (1, .int x1), (2, .int x2), (4, .int x4), (5, .int x5), (7, .int x7), (8, .int x8), (9, .int x9), (10, .int x10)]) (st1 := [.int (x7 + ((gA v 115) (x9).toNatClampNeg))]) (S1 := rt v) (pc1 := 244) [(.iload 10, .null, 0, 0), (.istore 6, .null, 0, 0), (.iload 7, .null, 0, 0), (.aload_n 0, .null, 0, 0), (.getfield 118, .null, 12, 56), (.iload 9, .null, 0, 0), (.iaload, .null, 0, 0), (.iadd, .null, 0, 0)] [(x9, 44800)] (by decide +kernel) rfl ⟨hb1, trivial⟩ ?_
  refine xr_topi (fun y2 ey2 => ?_)
  replace h := h y2 ey2
  refine xr_blk (lv1 := [(7, .int y2), (6, .int x10), (0, .ref 80), (1, .int x1), (2, .int x2), (4, .int x4), (5, .int x5), (8, .int x8), (9, .int x9), (10, .int x10)]) (st1 := [.int (nI 1000), .int y2]) (S1 := rt v) (pc1 := 251) [(.istore 7, .null, 0, 0), (.iload 7, .null, 0, 0), (.sipush 1000, .int (nI 1000), 0, 0)] [] (by decide +kernel) rfl trivial ?_
  refine xr_ic_le (tgt := 259) (off := 8) (by decide +kernel) (by decide) (fun hc => ?_) (fun hc => ?_)
  · replace h := h.1 hc
    refine xr_blk (lv1 := [(8, .int (x8 + (nI 1))), (7, .int y2), (6, .int x10), (0, .ref 80), (1, .int x1), (2, .int x2), (4, .int x4), (5, .int x5), (9, .int x9), (10, .int x10)]) (st1 := []) (S1 := rt v) (pc1 := 262) [(.iinc 8 1, .int (nI 1), 0, 0)] [] (by decide +kernel) rfl trivial ?_
    refine xr_goto (tgt := 100) (off := -162) (by decide +kernel) (by decide) ?_
    exact x_R.sub [3, 4, 5, 6, 7, 2, 1, 0] rfl h
  · replace h := h.2 hc
    refine xr_blk (lv1 := [(8, .int (x8 + (nI 1))), (7, .int (nI 1000)), (6, .int x10), (0, .ref 80), (1, .int x1), (2, .int x2), (4, .int x4), (5, .int x5), (9, .int x9), (10, .int x10)]) (st1 := []) (S1 := rt v) (pc1 := 262) [(.sipush 1000, .int (nI 1000), 0, 0), (.istore 7, .null, 0, 0), (.iinc 8 1, .int (nI 1), 0, 0)] [] (by decide +kernel) rfl trivial ?_
    refine xr_goto (tgt := 100) (off := -162) (by decide +kernel) (by decide) ?_
    exact x_R.sub [3, 4, 5, 6, 7, 2, 1, 0] rfl h
set_option maxRecDepth 100000 in
theorem w_X12_fillRow_265 {E : Nat × (Nat → Int32)} {d : Nat} {v : xV} {x1 : Int32} {x2 : Int32} {x4 : Int32} {x5 : Int32} {x6 : Int32} {x7 : Int32} {Q : xV → Prop} (h : KI E d 181 [.int x1, .int x4, .int x5] v (fun y2 v1 => vp_in y2 44800 ∧ KI E d 181 [.int x1, .int x4, .int x5] (v_A v1 114 (upd (gA v1 114) (y2).toNatClampNeg x6)) (fun y5 v4 => vp_in y5 44800 ∧ RV E (d + 1) 184 83 [(0, .ref 80), (1, .int x1), (2, .int x2), (4, .int x4), (5, .int (x5 + (nI 1)))] (v_A v4 115 (upd (gA v4 115) (y5).toNatClampNeg x7)) Q))) : RV E (d + 1) 184 265 [(0, .ref 80), (1, .int x1), (2, .int x2), (4, .int x4), (5, .int x5), (6, .int x6), (7, .int x7)] v Q := by
  unfold RV
  refine xr_blk (lv1 := [(0, .ref 80), (1, .int x1), (2, .int x2), (4, .int x4), (5, .int x5), (6, .int x6), (7, .int x7)]) (st1 := [.int x5, .int x4, .int x1, .ref 114]) (S1 := rt v) (pc1 := 274) [(.aload_n 0, .null, 0, 0), (.getfield 115, .null, 12, 55), (.iload_n 1, .null, 0, 0), (.iload 4, .null, 0, 0), (.iload 5, .null, 0, 0)] [] (by decide +kernel) rfl trivial ?_
  refine xk_SI (As := [.int x1, .int x4, .int x5]) (rest := [.ref 114]) (idx := 340) (i0 := 340) (m1 := 181) (ps := [1748, 1749]) (by decide +kernel) (by decide +kernel) (by decide) rfl (Nat.le_of_ble_eq_true rfl) rfl h (fun y2 v1 h => ?_)
  obtain ⟨hb3, h⟩ := h
  refine xr_blk (lv1 := [(0, .ref 80), (1, .int x1), (2, .int x2), (4, .int x4), (5, .int x5), (6, .int x6), (7, .int x7)]) (st1 := [.int x5, .int x4, .int x1, .ref 115]) (S1 := rt (v_A v1 114 (upd (gA v1 114) (y2).toNatClampNeg x6))) (pc1 := 289) [(.iload 6, .null, 0, 0), (.iastore, .null, 0, 0), (.aload_n 0, .null, 0, 0), (.getfield 118, .null, 12, 56), (.iload_n 1, .null, 0, 0), (.iload 4, .null, 0, 0), (.iload 5, .null, 0, 0)] [(y2, 44800)] (by decide +kernel) rfl ⟨hb3, trivial⟩ ?_
  refine xk_SI (As := [.int x1, .int x4, .int x5]) (rest := [.ref 115]) (idx := 340) (i0 := 340) (m1 := 181) (ps := [1748, 1749]) (by decide +kernel) (by decide +kernel) (by decide) rfl (Nat.le_of_ble_eq_true rfl) rfl h (fun y5 v4 h => ?_)
  obtain ⟨hb6, h⟩ := h
  refine xr_blk (lv1 := [(5, .int (x5 + (nI 1))), (0, .ref 80), (1, .int x1), (2, .int x2), (4, .int x4), (6, .int x6), (7, .int x7)]) (st1 := []) (S1 := rt (v_A v4 115 (upd (gA v4 115) (y5).toNatClampNeg x7))) (pc1 := 298) [(.iload 7, .null, 0, 0), (.iastore, .null, 0, 0), (.iinc 5 1, .int (nI 1), 0, 0)] [(y5, 44800)] (by decide +kernel) rfl ⟨hb6, trivial⟩ ?_
  refine xr_goto (tgt := 83) (off := -215) (by decide +kernel) (by decide) ?_
  exact x_R.sub [1, 2, 3, 4, 0] rfl h
theorem ok_184 : x_mOK 184 := ⟨x_tm7 (List.mem_of_getElem? (i := 207) rfl) rfl, 114, by decide +kernel⟩
/-! X12_walkBest: method 185, ScrawlHouseModel.walkBest(III)V -/
set_option maxRecDepth 100000 in
theorem w_X12_walkBest_0 {E : Nat × (Nat → Int32)} {d : Nat} {v : xV} {x1 : Int32} {x2 : Int32} {x3 : Int32} {Q : xV → Prop} (h : RV E (d + 1) 185 9 [(0, .ref 80), (1, .int x1), (2, .int x2), (4, .int x3), (5, .int (nI 0)), (6, .int (nI 0))] v Q) : RV E (d + 1) 185 0 [(0, .ref 80), (1, .int x1), (2, .int x2), (3, .int x3)] v Q := by
  unfold RV
  refine xr_blk (lv1 := [(6, .int (nI 0)), (5, .int (nI 0)), (4, .int x3), (0, .ref 80), (1, .int x1), (2, .int x2), (3, .int x3)]) (st1 := []) (S1 := rt v) (pc1 := 9) [(.iload_n 3, .null, 0, 0), (.istore 4, .null, 0, 0), (.iconst 0, .int (nI 0), 0, 0), (.istore 5, .null, 0, 0), (.iconst 0, .int (nI 0), 0, 0), (.istore 6, .null, 0, 0)] [] (by decide +kernel) rfl trivial ?_
  exact x_R.sub [3, 4, 5, 2, 1, 0] rfl h
set_option maxRecDepth 100000 in
theorem w_X12_walkBest_9 {E : Nat × (Nat → Int32)} {d : Nat} {v : xV} {x1 : Int32} {x2 : Int32} {x4 : Int32} {x5 : Int32} {x6 : Int32} {Q : xV → Prop} (h : ((x2 ≤ x5 → vp_in x1 20 ∧ Q (v_A v 117 (upd (gA v 117) (x1).toNatClampNeg x6))) ∧ (¬ x2 ≤ x5 → RV E (d + 1) 185 18 [(0, .ref 80), (1, .int x1), (2, .int x2), (4, .int x4), (5, .int x5), (6, .int x6), (7, .int (nI 0))] v Q))) : RV E (d + 1) 185 9 [(0, .ref 80), (1, .int x1), (2, .int x2), (4, .int x4), (5, .int x5), (6, .int x6)] v Q := by
  unfold RV
  refine xr_blk (lv1 := [(0, .ref 80), (1, .int x1), (2, .int x2), (4, .int x4), (5, .int x5), (6, .int x6)]) (st1 := [.int x2, .int x5]) (S1 := rt v) (pc1 := 12) [(.iload 5, .null, 0, 0), (.iload_n 2, .null, 0, 0)] [] (by decide +kernel) rfl trivial ?_
  refine xr_ic_ge (tgt := 146) (off := 134) (by decide +kernel) (by decide) (fun hc => ?_) (fun hc => ?_)
  · replace h := h.1 hc
    obtain ⟨hb1, h⟩ := h
    refine xr_blk (lv1 := [(0, .ref 80), (1, .int x1), (2, .int x2), (4, .int x4), (5, .int x5), (6, .int x6)]) (st1 := []) (S1 := rt (v_A v 117 (upd (gA v 117) (x1).toNatClampNeg x6))) (pc1 := 154) [(.aload_n 0, .null, 0, 0), (.getfield 124, .null, 12, 58), (.iload_n 1, .null, 0, 0), (.iload 6, .null, 0, 0), (.iastore, .null, 0, 0)] [(x1, 20)] (by decide +kernel) rfl ⟨hb1, trivial⟩ ?_
    exact xr_ret0 (by decide +kernel) rfl ⟨_, rfl, rfl, h⟩
  · replace h := h.2 hc
    refine xr_blk (lv1 := [(7, .int (nI 0)), (0, .ref 80), (1, .int x1), (2, .int x2), (4, .int x4), (5, .int x5), (6, .int x6)]) (st1 := []) (S1 := rt v) (pc1 := 18) [(.iconst 0, .int (nI 0), 0, 0), (.istore 7, .null, 0, 0)] [] (by decide +kernel) rfl trivial ?_
    exact x_R.sub [1, 2, 3, 4, 5, 6, 0] rfl h
set_option maxRecDepth 100000 in
theorem w_X12_walkBest_18 {E : Nat × (Nat → Int32)} {d : Nat} {v : xV} {x1 : Int32} {x2 : Int32} {x4 : Int32} {x5 : Int32} {x6 : Int32} {x7 : Int32} {Q : xV → Prop} (h : KI E d 187 [.ref 80, .int x7, .int x6, .int x5, .int x4] v (fun y2 v1 => ((¬ y2 = (nI 0) → RV E (d + 1) 185 42 [(0, .ref 80), (1, .int x1), (2, .int x2), (4, .int x4), (5, .int x5), (6, .int x6), (7, .int x7), (8, .int (nI 0))] v1 Q) ∧ (y2 = (nI 0) → RV E (d + 1) 185 18 [(0, .ref 80), (1, .int x1), (2, .int x2), (4, .int x4), (5, .int x5), (6, .int x6), (7, .int (x7 + (nI 1)))] v1 Q)))) : RV E (d + 1) 185 18 [(0, .ref 80), (1, .int x1), (2, .int x2), (4, .int x4), (5, .int x5), (6, .int x6), (7, .int x7)] v Q := by
  unfold RV
  refine xr_blk (lv1 := [(0, .ref 80), (1, .int x1), (2, .int x2), (4, .int x4), (5, .int x5), (6, .int x6), (7, .int x7)]) (st1 := [.int x4, .int x5, .int x6, .int x7, .ref 80]) (S1 := rt v) (pc1 := 27) [(.aload_n 0, .null, 0, 0), (.iload 7, .null, 0, 0), (.iload 6, .null, 0, 0), (.iload 5, .null, 0, 0), (.iload 4, .null, 0, 0)] [] (by decide +kernel) rfl trivial ?_
  refine xk_VI (As := [.int x7, .int x6, .int x5, .int x4]) (bb := 80) (rest := []) (idx := 348) (i0 := 348) (m1 := 187) (ps := [1755, 1757, 75]) (by decide +kernel) (by decide +kernel) (by decide) rfl ((gK_s (by decide)).trans (by decide +kernel)) (by decide) (Nat.le_of_ble_eq_true rfl) rfl h (fun y2 v1 h => ?_)
  refine xr_if_ne (tgt := 39) (off := 9) (by decide +kernel) (by decide) (fun hc => ?_) (fun hc => ?_)
  · replace h := h.1 hc
    refine xr_blk (lv1 := [(8, .int (nI 0)), (0, .ref 80), (1, .int x1), (2, .int x2), (4, .int x4), (5, .int x5), (6, .int x6), (7, .int x7)]) (st1 := []) (S1 := rt v1) (pc1 := 42) [(.iconst 0, .int (nI 0), 0, 0), (.istore 8, .null, 0, 0)] [] (by decide +kernel) rfl trivial ?_
    exact x_R.sub [1, 2, 3, 4, 5, 6, 7, 0] rfl h
  · replace h := h.2 hc
    refine xr_blk (lv1 := [(7, .int (x7 + (nI 1))), (0, .ref 80), (1, .int x1), (2, .int x2), (4, .int x4), (5, .int x5), (6, .int x6)]) (st1 := []) (S1 := rt v1) (pc1 := 36) [(.iinc 7 1, .int (nI 1), 0, 0)] [] (by decide +kernel) rfl trivial ?_
    refine xr_goto (tgt := 18) (off := -18) (by decide +kernel) (by decide) ?_
    exact x_R.sub [1, 2, 3, 4, 5, 6, 0] rfl h
set_option maxRecDepth 100000 in
theorem w_X12_walkBest_42 {E : Nat × (Nat → Int32)} {d : Nat} {v : xV} {x1 : Int32} {x2 : Int32} {x4 : Int32} {x5 : Int32} {x6 : Int32} {x7 : Int32} {x8 : Int32} {Q : xV → Prop} (h : (((gI v 80 30) ≤ x8 → vp_in (((nI 6) * x1) + x6) 120 ∧ vp_in (((nI 24) * x7) + x5) 1920 ∧ ∀ y3 : Int32, y3 = (x4 - ((gA v 113) ((((nI 24) * x7) + x5)).toNatClampNeg)) → vp_in x7 80 ∧ ∀ y5 : Int32, y5 = (x5 + ((gA v 86) (x7).toNatClampNeg)) → RV E (d + 1) 185 9 [(0, .ref 80), (1, .int x1), (2, .int x2), (4, .int y3), (5, .int y5), (6, .int (x6 + (nI 1)))] (v_A v 116 (upd (gA v 116) ((((nI 6) * x1) + x6)).toNatClampNeg x7)) Q) ∧ (¬ (gI v 80 30) ≤ x8 → vp_in x8 256 ∧ ((((gA v 120) (x8).toNatClampNeg) = (nI 0) → vp_in x8 256 ∧ RV E (d + 1) 185 42 [(0, .ref 80), (1, .int x1), (2, .int x2), (4, .int x4), (5, .int x5), (6, .int x6), (7, .int x7), (8, .int (x8 + (nI 1)))] (v_A v 120 (upd (gA v 120) (x8).toNatClampNeg (nI 0))) Q) ∧ (¬ ((gA v 120) (x8).toNatClampNeg) = (nI 0) → KI E d 186 [.ref 80, .int x8, .int x7, .int x6, .int x5, .int x4] v (fun y9 v8 => ((y9 = (nI 0) → vp_in x8 256 ∧ RV E (d + 1) 185 42 [(0, .ref 80), (1, .int x1), (2, .int x2), (4, .int x4), (5, .int x5), (6, .int x6), (7, .int x7), (8, .int (x8 + (nI 1)))] (v_A v8 120 (upd (gA v8 120) (x8).toNatClampNeg (nI 0))) Q) ∧ (¬ y9 = (nI 0) → vp_in x8 256 ∧ RV E (d + 1) 185 42 [(0, .ref 80), (1, .int x1), (2, .int x2), (4, .int x4), (5, .int x5), (6, .int x6), (7, .int x7), (8, .int (x8 + (nI 1)))] (v_A v8 120 (upd (gA v8 120) (x8).toNatClampNeg (nI 1))) Q)))))))) : RV E (d + 1) 185 42 [(0, .ref 80), (1, .int x1), (2, .int x2), (4, .int x4), (5, .int x5), (6, .int x6), (7, .int x7), (8, .int x8)] v Q := by
  unfold RV
  refine xr_blk (lv1 := [(0, .ref 80), (1, .int x1), (2, .int x2), (4, .int x4), (5, .int x5), (6, .int x6), (7, .int x7), (8, .int x8)]) (st1 := [.int (gI v 80 30), .int x8]) (S1 := rt v) (pc1 := 48) [(.iload 8, .null, 0, 0), (.aload_n 0, .null, 0, 0), (.getfield 291, .null, 12, 30)] [] (by decide +kernel) rfl trivial ?_
  refine xr_ic_ge (tgt := 96) (off := 48) (by decide +kernel) (by decide) (fun hc => ?_) (fun hc => ?_)
  · replace h := h.1 hc
    obtain ⟨hb1, h⟩ := h
    obtain ⟨hb2, h⟩ := h
    refine xr_blk (lv1 := [(0, .ref 80), (1, .int x1), (2, .int x2), (4, .int x4), (5, .int x5), (6, .int x6), (7, .int x7), (8, .int x8)]) (st1 := [.int (x4 - ((gA v 113) ((((nI 24) * x7) + x5)).toNatClampNeg))]) (S1 := rt (v_A v 116 (upd (gA v 116) ((((nI 6) * x1) + x6)).toNatClampNeg x7))) (pc1 := 126) [(.aload_n 0, .null, 0, 0), (.getfield 121, .null, 12, 57), (.bipush 6, .int (nI 6), 0, 0), (.iload_n 1, .null, 0, 0), (.imul, .null, 0, 0), (.iload 6, .null, 0, 0), (.iadd, .null, 0, 0), (.iload 7, .null, 0, 0), (.iastore, .null, 0, 0), (.iload 4, .null, 0, 0), (.aload_n 0, .null, 0, 0), (.getfield 111, .null, 12, 54), (.bipush 24, .int (nI 24), 0, 0), (.iload 7, .null, 0, 0), (.imul, .null, 0, 0), (.iload 5, .null, 0, 0), (.iadd, .null, 0, 0), (.iaload, .null, 0, 0), (.isub, .null, 0, 0)] [((((nI 6) * x1) + x6), 120), ((((nI 24) * x7) + x5), 1920)] (by decide +kernel) rfl ⟨hb1, hb2, trivial⟩ ?_
    refine xr_topi (fun y3 ey3 => ?_)
    replace h := h y3 ey3
    obtain ⟨hb4, h⟩ := h
    refine xr_blk (lv1 := [(4, .int y3), (0, .ref 80), (1, .int x1), (2, .int x2), (5, .int x5), (6, .int x6), (7, .int x7), (8, .int x8)]) (st1 := [.int (x5 + ((gA v 86) (x7).toNatClampNeg))]) (S1 := rt (v_A v 116 (upd (gA v 116) ((((nI 6) * x1) + x6)).toNatClampNeg x7))) (pc1 := 138) [(.istore 4, .null, 0, 0), (.iload 5, .null, 0, 0), (.aload_n 0, .null, 0, 0), (.getfield 29, .null, 12, 10), (.iload 7, .null, 0, 0), (.iaload, .null, 0, 0), (.iadd, .null, 0, 0)] [(x7, 80)] (by decide +kernel) rfl ⟨hb4, trivial⟩ ?_
    refine xr_topi (fun y5 ey5 => ?_)
    replace h := h y5 ey5
    refine xr_blk (lv1 := [(6, .int (x6 + (nI 1))), (5, .int y5), (4, .int y3), (0, .ref 80), (1, .int x1), (2, .int x2), (7, .int x7), (8, .int x8)]) (st1 := []) (S1 := rt (v_A v 116 (upd (gA v 116) ((((nI 6) * x1) + x6)).toNatClampNeg x7))) (pc1 := 143) [(.istore 5, .null, 0, 0), (.iinc 6 1, .int (nI 1), 0, 0)] [] (by decide +kernel) rfl trivial ?_
    refine xr_goto (tgt := 9) (off := -134) (by decide +kernel) (by decide) ?_
    exact x_R.sub [3, 4, 5, 2, 1, 0] rfl h
  · replace h := h.2 hc
    obtain ⟨hb6, h⟩ := h
    refine xr_blk (lv1 := [(0, .ref 80), (1, .int x1), (2, .int x2), (4, .int x4), (5, .int x5), (6, .int x6), (7, .int x7), (8, .int x8)]) (st1 := [.int ((gA v 120) (x8).toNatClampNeg), .int x8, .ref 120]) (S1 := rt v) (pc1 := 64) [(.aload_n 0, .null, 0, 0), (.getfield 133, .null, 12, 63), (.iload 8, .null, 0, 0), (.aload_n 0, .null, 0, 0), (.getfield 133, .null, 12, 63), (.iload 8, .null, 0, 0), (.baload, .null, 0, 0)] [(x8, 256)] (by decide +kernel) rfl ⟨hb6, trivial⟩ ?_
    refine xr_if_eq (tgt := 88) (off := 24) (by decide +kernel) (by decide) (fun hc => ?_) (fun hc => ?_)
    · replace h := h.1 hc
      obtain ⟨hb7, h⟩ := h
      refine xr_blk (lv1 := [(8, .int (x8 + (nI 1))), (0, .ref 80), (1, .int x1), (2, .int x2), (4, .int x4), (5, .int x5), (6, .int x6), (7, .int x7)]) (st1 := []) (S1 := rt (v_A v 120 (upd (gA v 120) (x8).toNatClampNeg (nI 0)))) (pc1 := 93) [(.iconst 0, .int (nI 0), 0, 0), (.bastore, .null, 0, 0), (.iinc 8 1, .int (nI 1), 0, 0)] [(x8, 256), ((nI 0), 2)] (by decide +kernel) rfl ⟨hb7, x_inl (by decide), trivial⟩ ?_
      refine xr_goto (tgt := 42) (off := -51) (by decide +kernel) (by decide) ?_
      exact x_R.sub [1, 2, 3, 4, 5, 6, 7, 0] rfl h
    · replace h := h.2 hc
      refine xr_blk (lv1 := [(0, .ref 80), (1, .int x1), (2, .int x2), (4, .int x4), (5, .int x5), (6, .int x6), (7, .int x7), (8, .int x8)]) (st1 := [.int x4, .int x5, .int x6, .int x7, .int x8, .ref 80, .int x8, .ref 120]) (S1 := rt v) (pc1 := 78) [(.aload_n 0, .null, 0, 0), (.iload 8, .null, 0, 0), (.iload 7, .null, 0, 0), (.iload 6, .null, 0, 0), (.iload 5, .null, 0, 0), (.iload 4, .null, 0, 0)] [] (by decide +kernel) rfl trivial ?_
      refine xk_VI (As := [.int x8, .int x7, .int x6, .int x5, .int x4]) (bb := 80) (rest := [.int x8, .ref 120]) (idx := 352) (i0 := 352) (m1 := 186) (ps := [1759, 1761, 76]) (by decide +kernel) (by decide +kernel) (by decide) rfl ((gK_s (by decide)).trans (by decide +kernel)) (by decide) (Nat.le_of_ble_eq_true rfl) rfl h (fun y9 v8 h => ?_)
      refine xr_if_eq (tgt := 88) (off := 7) (by decide +kernel) (by decide) (fun hc => ?_) (fun hc => ?_)
      · replace h := h.1 hc
        obtain ⟨hb10, h⟩ := h
        refine xr_blk (lv1 := [(8, .int (x8 + (nI 1))), (0, .ref 80), (1, .int x1), (2, .int x2), (4, .int x4), (5, .int x5), (6, .int x6), (7, .int x7)]) (st1 := []) (S1 := rt (v_A v8 120 (upd (gA v8 120) (x8).toNatClampNeg (nI 0)))) (pc1 := 93) [(.iconst 0, .int (nI 0), 0, 0), (.bastore, .null, 0, 0), (.iinc 8 1, .int (nI 1), 0, 0)] [(x8, 256), ((nI 0), 2)] (by decide +kernel) rfl ⟨hb10, x_inl (by decide), trivial⟩ ?_
        refine xr_goto (tgt := 42) (off := -51) (by decide +kernel) (by decide) ?_
        exact x_R.sub [1, 2, 3, 4, 5, 6, 7, 0] rfl h
      · replace h := h.2 hc
        refine xr_blk (lv1 := [(0, .ref 80), (1, .int x1), (2, .int x2), (4, .int x4), (5, .int x5), (6, .int x6), (7, .int x7), (8, .int x8)]) (st1 := [.int (nI 1), .int x8, .ref 120]) (S1 := rt v8) (pc1 := 85) [(.iconst 1, .int (nI 1), 0, 0)] [] (by decide +kernel) rfl trivial ?_
        refine xr_goto (tgt := 89) (off := 4) (by decide +kernel) (by decide) ?_
        obtain ⟨hb11, h⟩ := h
        refine xr_blk (lv1 := [(8, .int (x8 + (nI 1))), (0, .ref 80), (1, .int x1), (2, .int x2), (4, .int x4), (5, .int x5), (6, .int x6), (7, .int x7)]) (st1 := []) (S1 := rt (v_A v8 120 (upd (gA v8 120) (x8).toNatClampNeg (nI 1)))) (pc1 := 93) [(.bastore, .null, 0, 0), (.iinc 8 1, .int (nI 1), 0, 0)] [(x8, 256), ((nI 1), 2)] (by decide +kernel) rfl ⟨hb11, x_inl (by decide), trivial⟩ ?_
        refine xr_goto (tgt := 42) (off := -51) (by decide +kernel) (by decide) ?_
        exact x_R.sub [1, 2, 3, 4, 5, 6, 7, 0] rfl h
theorem ok_185 : x_mOK 185 := ⟨x_tm7 (List.mem_of_getElem? (i := 214) rfl) rfl, 114, by decide +kernel⟩

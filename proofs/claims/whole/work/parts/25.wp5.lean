/-! X12_take: method 151, ScrawlHouseModel.take()I -/
set_option maxRecDepth 100000 in
theorem w_X12_take_0 {E : Nat × (Nat → Int32)} {d : Nat} {v : xV} {Q : Int32 → xV → Prop} (h : ∀ y1 : Int32, y1 = (gI v 80 3) → Q y1 (v_I v 80 3 (nI 0))) : RI E d 151 0 [(0, .ref 80)] v Q := by
  unfold RI
  refine xr_blk (lv1 := [(0, .ref 80)]) (st1 := [.int (gI v 80 3)]) (S1 := rt v) (pc1 := 4) [(.aload_n 0, .null, 0, 0), (.getfield 193, .null, 12, 3)] [] (by decide +kernel) rfl trivial ?_
  refine xr_topi (fun y1 ey1 => ?_)
  replace h := h y1 ey1
  refine xr_blk (lv1 := [(1, .int y1), (0, .ref 80)]) (st1 := [.int y1]) (S1 := rt (v_I v 80 3 (nI 0))) (pc1 := 11) [(.istore_n 1, .null, 0, 0), (.aload_n 0, .null, 0, 0), (.iconst 0, .int (nI 0), 0, 0), (.putfield 193, .null, 12, 3), (.iload_n 1, .null, 0, 0)] [] (by decide +kernel) rfl trivial ?_
  exact xr_iret (by decide +kernel) rfl ⟨_, _, rfl, rfl, h⟩
theorem ok_151 : x_mOK 151 := ⟨x_tm7 (List.mem_of_getElem? (i := 90) rfl) rfl, 114, by decide +kernel⟩
/-! X12_isIn: method 152, ScrawlHouseModel.isIn(III)Z -/
set_option maxRecDepth 100000 in
theorem w_X12_isIn_0 {E : Nat × (Nat → Int32)} {d : Nat} {v : xV} {x0 : Int32} {x1 : Int32} {x2 : Int32} {Q : Int32 → xV → Prop} (h : ((x0 < x1 → Q (nI 0) v) ∧ (¬ x0 < x1 → ((x2 < x0 → Q (nI 0) v) ∧ (¬ x2 < x0 → Q (nI 1) v))))) : RI E d 152 0 [(0, .int x0), (1, .int x1), (2, .int x2)] v Q := by
  unfold RI
  refine xr_blk (lv1 := [(0, .int x0), (1, .int x1), (2, .int x2)]) (st1 := [.int x1, .int x0]) (S1 := rt v) (pc1 := 2) [(.iload_n 0, .null, 0, 0), (.iload_n 1, .null, 0, 0)] [] (by decide +kernel) rfl trivial ?_
  refine xr_ic_lt (tgt := 14) (off := 12) (by decide +kernel) (by decide) (fun hc => ?_) (fun hc => ?_)
  · replace h := h.1 hc
    refine xr_blk (lv1 := [(0, .int x0), (1, .int x1), (2, .int x2)]) (st1 := [.int (nI 0)]) (S1 := rt v) (pc1 := 15) [(.iconst 0, .int (nI 0), 0, 0)] [] (by decide +kernel) rfl trivial ?_
    exact xr_zret (by decide +kernel) rfl x_in2_0 ⟨_, _, rfl, rfl, h⟩
  · replace h := h.2 hc
    refine xr_blk (lv1 := [(0, .int x0), (1, .int x1), (2, .int x2)]) (st1 := [.int x2, .int x0]) (S1 := rt v) (pc1 := 7) [(.iload_n 0, .null, 0, 0), (.iload_n 2, .null, 0, 0)] [] (by decide +kernel) rfl trivial ?_
    refine xr_ic_gt (tgt := 14) (off := 7) (by decide +kernel) (by decide) (fun hc => ?_) (fun hc => ?_)
    · replace h := h.1 hc
      refine xr_blk (lv1 := [(0, .int x0), (1, .int x1), (2, .int x2)]) (st1 := [.int (nI 0)]) (S1 := rt v) (pc1 := 15) [(.iconst 0, .int (nI 0), 0, 0)] [] (by decide +kernel) rfl trivial ?_
      exact xr_zret (by decide +kernel) rfl x_in2_0 ⟨_, _, rfl, rfl, h⟩
    · replace h := h.2 hc
      refine xr_blk (lv1 := [(0, .int x0), (1, .int x1), (2, .int x2)]) (st1 := [.int (nI 1)]) (S1 := rt v) (pc1 := 11) [(.iconst 1, .int (nI 1), 0, 0)] [] (by decide +kernel) rfl trivial ?_
      refine xr_goto (tgt := 15) (off := 4) (by decide +kernel) (by decide) ?_
      exact xr_zret (by decide +kernel) rfl x_in2_1 ⟨_, _, rfl, rfl, h⟩
theorem ok_152 : x_mOK 152 := ⟨x_tm7 (List.mem_of_getElem? (i := 78) rfl) rfl, 114, by decide +kernel⟩
/-! X12_next: method 153, ScrawlHouseModel.next(I)I -/
set_option maxRecDepth 100000 in
theorem w_X12_next_0 {E : Nat × (Nat → Int32)} {d : Nat} {v : xV} {x1 : Int32} {Q : Int32 → xV → Prop} (h : KI E d 152 [.int x1, .int (nI 0), .int (nI 999)] (v_I v 80 0 (nI 0)) (fun y2 v1 => ((y2 = (nI 0) → Q (-1 : Int32) v1) ∧ (¬ y2 = (nI 0) → ((((gI v1 80 5) + x1) ≤ (nI 999) → Q ((gI v1 80 5) + x1) (v_I v1 80 5 ((gI v1 80 5) + x1))) ∧ (¬ ((gI v1 80 5) + x1) ≤ (nI 999) → Q (-1 : Int32) v1)))))) : RI E (d + 1) 153 0 [(0, .ref 80), (1, .int x1)] v Q := by
  unfold RI
  refine xr_blk (lv1 := [(0, .ref 80), (1, .int x1)]) (st1 := [.int (nI 999), .int (nI 0), .int x1]) (S1 := rt (v_I v 80 0 (nI 0))) (pc1 := 10) [(.aload_n 0, .null, 0, 0), (.iconst 0, .int (nI 0), 0, 0), (.putfield 190, .null, 12, 0), (.iload_n 1, .null, 0, 0), (.iconst 0, .int (nI 0), 0, 0), (.sipush 999, .int (nI 999), 0, 0)] [] (by decide +kernel) rfl trivial ?_
  refine xk_SI (As := [.int x1, .int (nI 0), .int (nI 999)]) (rest := []) (idx := 200) (i0 := 200) (m1 := 152) (ps := [1616, 1617]) (by decide +kernel) (by decide +kernel) (by decide) rfl (Nat.le_of_ble_eq_true rfl) rfl h (fun y2 v1 h => ?_)
  refine xr_if_eq (tgt := 28) (off := 15) (by decide +kernel) (by decide) (fun hc => ?_) (fun hc => ?_)
  · replace h := h.1 hc
    refine xr_blk (lv1 := [(0, .ref 80), (1, .int x1)]) (st1 := [.int (-1)]) (S1 := rt v1) (pc1 := 29) [(.iconst (-1), .int (-1), 0, 0)] [] (by decide +kernel) rfl trivial ?_
    exact xr_iret (by decide +kernel) rfl ⟨_, _, rfl, rfl, h⟩
  · replace h := h.2 hc
    refine xr_blk (lv1 := [(0, .ref 80), (1, .int x1)]) (st1 := [.int (nI 999), .int ((gI v1 80 5) + x1)]) (S1 := rt v1) (pc1 := 25) [(.aload_n 0, .null, 0, 0), (.getfield 204, .null, 12, 5), (.iload_n 1, .null, 0, 0), (.iadd, .null, 0, 0), (.sipush 999, .int (nI 999), 0, 0)] [] (by decide +kernel) rfl trivial ?_
    refine xr_ic_le (tgt := 30) (off := 5) (by decide +kernel) (by decide) (fun hc => ?_) (fun hc => ?_)
    · replace h := h.1 hc
      refine xr_blk (lv1 := [(0, .ref 80), (1, .int x1)]) (st1 := [.int ((gI v1 80 5) + x1)]) (S1 := rt (v_I v1 80 5 ((gI v1 80 5) + x1))) (pc1 := 44) [(.aload_n 0, .null, 0, 0), (.dup, .null, 0, 0), (.getfield 204, .null, 12, 5), (.iload_n 1, .null, 0, 0), (.iadd, .null, 0, 0), (.putfield 204, .null, 12, 5), (.aload_n 0, .null, 0, 0), (.getfield 204, .null, 12, 5)] [] (by decide +kernel) rfl trivial ?_
      exact xr_iret (by decide +kernel) rfl ⟨_, _, rfl, rfl, h⟩
    · replace h := h.2 hc
      refine xr_blk (lv1 := [(0, .ref 80), (1, .int x1)]) (st1 := [.int (-1)]) (S1 := rt v1) (pc1 := 29) [(.iconst (-1), .int (-1), 0, 0)] [] (by decide +kernel) rfl trivial ?_
      exact xr_iret (by decide +kernel) rfl ⟨_, _, rfl, rfl, h⟩
theorem ok_153 : x_mOK 153 := ⟨x_tm7 (List.mem_of_getElem? (i := 75) rfl) rfl, 114, by decide +kernel⟩
/-! X12_isLetter: method 154, ScrawlHouseModel.isLetter(I)Z -/
set_option maxRecDepth 100000 in
theorem w_X12_isLetter_0 {E : Nat × (Nat → Int32)} {d : Nat} {v : xV} {x0 : Int32} {Q : Int32 → xV → Prop} (h : ((x0 < (nI 97) → Q (nI 0) v) ∧ (¬ x0 < (nI 97) → (((nI 122) < x0 → Q (nI 0) v) ∧ (¬ (nI 122) < x0 → Q (nI 1) v))))) : RI E d 154 0 [(0, .int x0)] v Q := by
  unfold RI
  refine xr_blk (lv1 := [(0, .int x0)]) (st1 := [.int (nI 97), .int x0]) (S1 := rt v) (pc1 := 3) [(.iload_n 0, .null, 0, 0), (.bipush 97, .int (nI 97), 0, 0)] [] (by decide +kernel) rfl trivial ?_
  refine xr_ic_lt (tgt := 16) (off := 13) (by decide +kernel) (by decide) (fun hc => ?_) (fun hc => ?_)
  · replace h := h.1 hc
    refine xr_blk (lv1 := [(0, .int x0)]) (st1 := [.int (nI 0)]) (S1 := rt v) (pc1 := 17) [(.iconst 0, .int (nI 0), 0, 0)] [] (by decide +kernel) rfl trivial ?_
    exact xr_zret (by decide +kernel) rfl x_in2_0 ⟨_, _, rfl, rfl, h⟩
  · replace h := h.2 hc
    refine xr_blk (lv1 := [(0, .int x0)]) (st1 := [.int (nI 122), .int x0]) (S1 := rt v) (pc1 := 9) [(.iload_n 0, .null, 0, 0), (.bipush 122, .int (nI 122), 0, 0)] [] (by decide +kernel) rfl trivial ?_
    refine xr_ic_gt (tgt := 16) (off := 7) (by decide +kernel) (by decide) (fun hc => ?_) (fun hc => ?_)
    · replace h := h.1 hc
      refine xr_blk (lv1 := [(0, .int x0)]) (st1 := [.int (nI 0)]) (S1 := rt v) (pc1 := 17) [(.iconst 0, .int (nI 0), 0, 0)] [] (by decide +kernel) rfl trivial ?_
      exact xr_zret (by decide +kernel) rfl x_in2_0 ⟨_, _, rfl, rfl, h⟩
    · replace h := h.2 hc
      refine xr_blk (lv1 := [(0, .int x0)]) (st1 := [.int (nI 1)]) (S1 := rt v) (pc1 := 13) [(.iconst 1, .int (nI 1), 0, 0)] [] (by decide +kernel) rfl trivial ?_
      refine xr_goto (tgt := 17) (off := 4) (by decide +kernel) (by decide) ?_
      exact xr_zret (by decide +kernel) rfl x_in2_1 ⟨_, _, rfl, rfl, h⟩
theorem ok_154 : x_mOK 154 := ⟨x_tm7 (List.mem_of_getElem? (i := 93) rfl) rfl, 114, by decide +kernel⟩
/-! X12_form: method 155, ScrawlHouseModel.form(II)I -/
set_option maxRecDepth 100000 in
theorem w_X12_form_0 {E : Nat × (Nat → Int32)} {d : Nat} {v : xV} {x1 : Int32} {x2 : Int32} {Q : Int32 → xV → Prop} (h : KI E d 152 [.int x1, .int (nI 0), .int (nI 25)] (v_I v 80 0 (nI 0)) (fun y2 v1 => ((y2 = (nI 0) → Q (-1 : Int32) v1) ∧ (¬ y2 = (nI 0) → KI E d 152 [.int x2, .int (nI 1), .int (nI 255)] v1 (fun y4 v3 => ((y4 = (nI 0) → Q (-1 : Int32) v3) ∧ (¬ y4 = (nI 0) → vp_in x1 26 ∧ ((¬ ((gA v3 83) (x1).toNatClampNeg) = (nI 3) → RI E (d + 1) 155 40 [(0, .ref 80), (1, .int x1), (2, .int x2), (3, .int (nI 0))] v3 Q) ∧ (((gA v3 83) (x1).toNatClampNeg) = (nI 3) → Q (-1 : Int32) v3))))))))) : RI E (d + 1) 155 0 [(0, .ref 80), (1, .int x1), (2, .int x2)] v Q := by
  unfold RI
  refine xr_blk (lv1 := [(0, .ref 80), (1, .int x1), (2, .int x2)]) (st1 := [.int (nI 25), .int (nI 0), .int x1]) (S1 := rt (v_I v 80 0 (nI 0))) (pc1 := 9) [(.aload_n 0, .null, 0, 0), (.iconst 0, .int (nI 0), 0, 0), (.putfield 190, .null, 12, 0), (.iload_n 1, .null, 0, 0), (.iconst 0, .int (nI 0), 0, 0), (.bipush 25, .int (nI 25), 0, 0)] [] (by decide +kernel) rfl trivial ?_
  refine xk_SI (As := [.int x1, .int (nI 0), .int (nI 25)]) (rest := []) (idx := 200) (i0 := 200) (m1 := 152) (ps := [1616, 1617]) (by decide +kernel) (by decide +kernel) (by decide) rfl (Nat.le_of_ble_eq_true rfl) rfl h (fun y2 v1 h => ?_)
  refine xr_if_eq (tgt := 36) (off := 24) (by decide +kernel) (by decide) (fun hc => ?_) (fun hc => ?_)
  · replace h := h.1 hc
    refine xr_blk (lv1 := [(0, .ref 80), (1, .int x1), (2, .int x2)]) (st1 := [.int (-1)]) (S1 := rt v1) (pc1 := 37) [(.iconst (-1), .int (-1), 0, 0)] [] (by decide +kernel) rfl trivial ?_
    exact xr_iret (by decide +kernel) rfl ⟨_, _, rfl, rfl, h⟩
  · replace h := h.2 hc
    refine xr_blk (lv1 := [(0, .ref 80), (1, .int x1), (2, .int x2)]) (st1 := [.int (nI 255), .int (nI 1), .int x2]) (S1 := rt v1) (pc1 := 20) [(.iload_n 2, .null, 0, 0), (.iconst 1, .int (nI 1), 0, 0), (.sipush 255, .int (nI 255), 0, 0)] [] (by decide +kernel) rfl trivial ?_
    refine xk_SI (As := [.int x2, .int (nI 1), .int (nI 255)]) (rest := []) (idx := 200) (i0 := 200) (m1 := 152) (ps := [1616, 1617]) (by decide +kernel) (by decide +kernel) (by decide) rfl (Nat.le_of_ble_eq_true rfl) rfl h (fun y4 v3 h => ?_)
    refine xr_if_eq (tgt := 36) (off := 13) (by decide +kernel) (by decide) (fun hc => ?_) (fun hc => ?_)
    · replace h := h.1 hc
      refine xr_blk (lv1 := [(0, .ref 80), (1, .int x1), (2, .int x2)]) (st1 := [.int (-1)]) (S1 := rt v3) (pc1 := 37) [(.iconst (-1), .int (-1), 0, 0)] [] (by decide +kernel) rfl trivial ?_
      exact xr_iret (by decide +kernel) rfl ⟨_, _, rfl, rfl, h⟩
    · replace h := h.2 hc
      obtain ⟨hb5, h⟩ := h
      refine xr_blk (lv1 := [(0, .ref 80), (1, .int x1), (2, .int x2)]) (st1 := [.int (nI 3), .int ((gA v3 83) (x1).toNatClampNeg)]) (S1 := rt v3) (pc1 := 33) [(.aload_n 0, .null, 0, 0), (.getfield 20, .null, 12, 7), (.iload_n 1, .null, 0, 0), (.iaload, .null, 0, 0), (.iconst 3, .int (nI 3), 0, 0)] [(x1, 26)] (by decide +kernel) rfl ⟨hb5, trivial⟩ ?_
      refine xr_ic_ne (tgt := 38) (off := 5) (by decide +kernel) (by decide) (fun hc => ?_) (fun hc => ?_)
      · replace h := h.1 hc
        refine xr_blk (lv1 := [(3, .int (nI 0)), (0, .ref 80), (1, .int x1), (2, .int x2)]) (st1 := []) (S1 := rt v3) (pc1 := 40) [(.iconst 0, .int (nI 0), 0, 0), (.istore_n 3, .null, 0, 0)] [] (by decide +kernel) rfl trivial ?_
        exact x_R.sub [1, 2, 3, 0] rfl h
      · replace h := h.2 hc
        refine xr_blk (lv1 := [(0, .ref 80), (1, .int x1), (2, .int x2)]) (st1 := [.int (-1)]) (S1 := rt v3) (pc1 := 37) [(.iconst (-1), .int (-1), 0, 0)] [] (by decide +kernel) rfl trivial ?_
        exact xr_iret (by decide +kernel) rfl ⟨_, _, rfl, rfl, h⟩
set_option maxRecDepth 100000 in
theorem w_X12_form_40 {E : Nat × (Nat → Int32)} {d : Nat} {v : xV} {x1 : Int32} {x2 : Int32} {x3 : Int32} {Q : Int32 → xV → Prop} (h : vp_in x1 26 ∧ ((((gA v 83) (x1).toNatClampNeg) ≤ x3 → vp_in x1 26 ∧ vp_in (((nI 3) * x1) + ((gA v 83) (x1).toNatClampNeg)) 78 ∧ vp_in x1 26 ∧ vp_in x1 26 ∧ vp_in x1 26 ∧ Q (((upd (gA v 83) (x1).toNatClampNeg (((gA v 83) (x1).toNatClampNeg) + (nI 1))) (x1).toNatClampNeg) - (nI 1)) (v_I (v_A (v_A v 84 (upd (gA v 84) ((((nI 3) * x1) + ((gA v 83) (x1).toNatClampNeg))).toNatClampNeg x2)) 83 (upd (gA v 83) (x1).toNatClampNeg (((gA v 83) (x1).toNatClampNeg) + (nI 1)))) 80 6 ((gI v 80 6) + (nI 1)))) ∧ (¬ ((gA v 83) (x1).toNatClampNeg) ≤ x3 → vp_in (((nI 3) * x1) + x3) 78 ∧ ((¬ ((gA v 84) ((((nI 3) * x1) + x3)).toNatClampNeg) = x2 → RI E (d + 1) 155 40 [(0, .ref 80), (1, .int x1), (2, .int x2), (3, .int (x3 + (nI 1)))] v Q) ∧ (((gA v 84) ((((nI 3) * x1) + x3)).toNatClampNeg) = x2 → Q (-1 : Int32) v))))) : RI E (d + 1) 155 40 [(0, .ref 80), (1, .int x1), (2, .int x2), (3, .int x3)] v Q := by
  unfold RI
  obtain ⟨hb1, h⟩ := h
  refine xr_blk (lv1 := [(0, .ref 80), (1, .int x1), (2, .int x2), (3, .int x3)]) (st1 := [.int ((gA v 83) (x1).toNatClampNeg), .int x3]) (S1 := rt v) (pc1 := 47) [(.iload_n 3, .null, 0, 0), (.aload_n 0, .null, 0, 0), (.getfield 20, .null, 12, 7), (.iload_n 1, .null, 0, 0), (.iaload, .null, 0, 0)] [(x1, 26)] (by decide +kernel) rfl ⟨hb1, trivial⟩ ?_
  refine xr_ic_ge (tgt := 72) (off := 25) (by decide +kernel) (by decide) (fun hc => ?_) (fun hc => ?_)
  · replace h := h.1 hc
    obtain ⟨hb2, h⟩ := h
    obtain ⟨hb3, h⟩ := h
    obtain ⟨hb4, h⟩ := h
    obtain ⟨hb5, h⟩ := h
    obtain ⟨hb6, h⟩ := h
    refine xr_blk (lv1 := [(0, .ref 80), (1, .int x1), (2, .int x2), (3, .int x3)]) (st1 := [.int (((upd (gA v 83) (x1).toNatClampNeg (((gA v 83) (x1).toNatClampNeg) + (nI 1))) (x1).toNatClampNeg) - (nI 1))]) (S1 := rt (v_I (v_A (v_A v 84 (upd (gA v 84) ((((nI 3) * x1) + ((gA v 83) (x1).toNatClampNeg))).toNatClampNeg x2)) 83 (upd (gA v 83) (x1).toNatClampNeg (((gA v 83) (x1).toNatClampNeg) + (nI 1)))) 80 6 ((gI v 80 6) + (nI 1)))) (pc1 := 116) [(.aload_n 0, .null, 0, 0), (.getfield 23, .null, 12, 8), (.iconst 3, .int (nI 3), 0, 0), (.iload_n 1, .null, 0, 0), (.imul, .null, 0, 0), (.aload_n 0, .null, 0, 0), (.getfield 20, .null, 12, 7), (.iload_n 1, .null, 0, 0), (.iaload, .null, 0, 0), (.iadd, .null, 0, 0), (.iload_n 2, .null, 0, 0), (.iastore, .null, 0, 0), (.aload_n 0, .null, 0, 0), (.getfield 20, .null, 12, 7), (.iload_n 1, .null, 0, 0), (.dup2, .null, 0, 0), (.iaload, .null, 0, 0), (.iconst 1, .int (nI 1), 0, 0), (.iadd, .null, 0, 0), (.iastore, .null, 0, 0), (.aload_n 0, .null, 0, 0), (.dup, .null, 0, 0), (.getfield 16, .null, 12, 6), (.iconst 1, .int (nI 1), 0, 0), (.iadd, .null, 0, 0), (.putfield 16, .null, 12, 6), (.aload_n 0, .null, 0, 0), (.getfield 20, .null, 12, 7), (.iload_n 1, .null, 0, 0), (.iaload, .null, 0, 0), (.iconst 1, .int (nI 1), 0, 0), (.isub, .null, 0, 0)] [(x1, 26), ((((nI 3) * x1) + ((gA v 83) (x1).toNatClampNeg)), 78), (x1, 26), (x1, 26), (x1, 26)] (by decide +kernel) rfl ⟨hb2, hb3, hb4, hb5, hb6, trivial⟩ ?_
    exact xr_iret (by decide +kernel) rfl ⟨_, _, rfl, rfl, h⟩
  · replace h := h.2 hc
    obtain ⟨hb7, h⟩ := h
    refine xr_blk (lv1 := [(0, .ref 80), (1, .int x1), (2, .int x2), (3, .int x3)]) (st1 := [.int x2, .int ((gA v 84) ((((nI 3) * x1) + x3)).toNatClampNeg)]) (S1 := rt v) (pc1 := 61) [(.aload_n 0, .null, 0, 0), (.getfield 23, .null, 12, 8), (.iconst 3, .int (nI 3), 0, 0), (.iload_n 1, .null, 0, 0), (.imul, .null, 0, 0), (.iload_n 3, .null, 0, 0), (.iadd, .null, 0, 0), (.iaload, .null, 0, 0), (.iload_n 2, .null, 0, 0)] [((((nI 3) * x1) + x3), 78)] (by decide +kernel) rfl ⟨hb7, trivial⟩ ?_
    refine xr_ic_ne (tgt := 66) (off := 5) (by decide +kernel) (by decide) (fun hc => ?_) (fun hc => ?_)
    · replace h := h.1 hc
      refine xr_blk (lv1 := [(3, .int (x3 + (nI 1))), (0, .ref 80), (1, .int x1), (2, .int x2)]) (st1 := []) (S1 := rt v) (pc1 := 69) [(.iinc 3 1, .int (nI 1), 0, 0)] [] (by decide +kernel) rfl trivial ?_
      refine xr_goto (tgt := 40) (off := -29) (by decide +kernel) (by decide) ?_
      exact x_R.sub [1, 2, 3, 0] rfl h
    · replace h := h.2 hc
      refine xr_blk (lv1 := [(0, .ref 80), (1, .int x1), (2, .int x2), (3, .int x3)]) (st1 := [.int (-1)]) (S1 := rt v) (pc1 := 65) [(.iconst (-1), .int (-1), 0, 0)] [] (by decide +kernel) rfl trivial ?_
      exact xr_iret (by decide +kernel) rfl ⟨_, _, rfl, rfl, h⟩
theorem ok_155 : x_mOK 155 := ⟨x_tm7 (List.mem_of_getElem? (i := 82) rfl) rfl, 114, by decide +kernel⟩
/-! X12_isThere: method 156, ScrawlHouseModel.isThere(II)Z -/
set_option maxRecDepth 100000 in
theorem w_X12_isThere_0 {E : Nat × (Nat → Int32)} {d : Nat} {v : xV} {x1 : Int32} {x2 : Int32} {Q : Int32 → xV → Prop} (h : RI E d 156 2 [(0, .ref 80), (1, .int x1), (2, .int x2), (3, .int (nI 0))] v Q) : RI E d 156 0 [(0, .ref 80), (1, .int x1), (2, .int x2)] v Q := by
  unfold RI
  refine xr_blk (lv1 := [(3, .int (nI 0)), (0, .ref 80), (1, .int x1), (2, .int x2)]) (st1 := []) (S1 := rt v) (pc1 := 2) [(.iconst 0, .int (nI 0), 0, 0), (.istore_n 3, .null, 0, 0)] [] (by decide +kernel) rfl trivial ?_
  exact x_R.sub [1, 2, 3, 0] rfl h
set_option maxRecDepth 100000 in
theorem w_X12_isThere_2 {E : Nat × (Nat → Int32)} {d : Nat} {v : xV} {x1 : Int32} {x2 : Int32} {x3 : Int32} {Q : Int32 → xV → Prop} (h : (((gI v 80 20) ≤ x3 → Q (nI 0) v) ∧ (¬ (gI v 80 20) ≤ x3 → vp_in x3 80 ∧ ((¬ ((gA v 87) (x3).toNatClampNeg) = x2 → RI E d 156 40 [(0, .ref 80), (1, .int x1), (2, .int x2), (3, .int x3), (4, .int (nI 0)), (5, .int (nI 0))] v Q) ∧ (((gA v 87) (x3).toNatClampNeg) = x2 → vp_in x3 80 ∧ ((¬ ((gA v 86) (x3).toNatClampNeg) = x1 → RI E d 156 40 [(0, .ref 80), (1, .int x1), (2, .int x2), (3, .int x3), (4, .int (nI 0)), (5, .int (nI 0))] v Q) ∧ (((gA v 86) (x3).toNatClampNeg) = x1 → RI E d 156 40 [(0, .ref 80), (1, .int x1), (2, .int x2), (3, .int x3), (4, .int (nI 1)), (5, .int (nI 0))] v Q))))))) : RI E d 156 2 [(0, .ref 80), (1, .int x1), (2, .int x2), (3, .int x3)] v Q := by
  unfold RI
  refine xr_blk (lv1 := [(0, .ref 80), (1, .int x1), (2, .int x2), (3, .int x3)]) (st1 := [.int (gI v 80 20), .int x3]) (S1 := rt v) (pc1 := 7) [(.iload_n 3, .null, 0, 0), (.aload_n 0, .null, 0, 0), (.getfield 207, .null, 12, 20)] [] (by decide +kernel) rfl trivial ?_
  refine xr_ic_ge (tgt := 102) (off := 95) (by decide +kernel) (by decide) (fun hc => ?_) (fun hc => ?_)
  · replace h := h.1 hc
    refine xr_blk (lv1 := [(0, .ref 80), (1, .int x1), (2, .int x2), (3, .int x3)]) (st1 := [.int (nI 0)]) (S1 := rt v) (pc1 := 103) [(.iconst 0, .int (nI 0), 0, 0)] [] (by decide +kernel) rfl trivial ?_
    exact xr_zret (by decide +kernel) rfl x_in2_0 ⟨_, _, rfl, rfl, h⟩
  · replace h := h.2 hc
    obtain ⟨hb1, h⟩ := h
    refine xr_blk (lv1 := [(0, .ref 80), (1, .int x1), (2, .int x2), (3, .int x3)]) (st1 := [.int x2, .int ((gA v 87) (x3).toNatClampNeg)]) (S1 := rt v) (pc1 := 17) [(.aload_n 0, .null, 0, 0), (.getfield 32, .null, 12, 11), (.iload_n 3, .null, 0, 0), (.iaload, .null, 0, 0), (.iload_n 2, .null, 0, 0)] [(x3, 80)] (by decide +kernel) rfl ⟨hb1, trivial⟩ ?_
    refine xr_ic_ne (tgt := 34) (off := 17) (by decide +kernel) (by decide) (fun hc => ?_) (fun hc => ?_)
    · replace h := h.1 hc
      refine xr_blk (lv1 := [(5, .int (nI 0)), (4, .int (nI 0)), (0, .ref 80), (1, .int x1), (2, .int x2), (3, .int x3)]) (st1 := []) (S1 := rt v) (pc1 := 40) [(.iconst 0, .int (nI 0), 0, 0), (.istore 4, .null, 0, 0), (.iconst 0, .int (nI 0), 0, 0), (.istore 5, .null, 0, 0)] [] (by decide +kernel) rfl trivial ?_
      exact x_R.sub [2, 3, 4, 5, 1, 0] rfl h
    · replace h := h.2 hc
      obtain ⟨hb2, h⟩ := h
      refine xr_blk (lv1 := [(0, .ref 80), (1, .int x1), (2, .int x2), (3, .int x3)]) (st1 := [.int x1, .int ((gA v 86) (x3).toNatClampNeg)]) (S1 := rt v) (pc1 := 27) [(.aload_n 0, .null, 0, 0), (.getfield 29, .null, 12, 10), (.iload_n 3, .null, 0, 0), (.iaload, .null, 0, 0), (.iload_n 1, .null, 0, 0)] [(x3, 80)] (by decide +kernel) rfl ⟨hb2, trivial⟩ ?_
      refine xr_ic_ne (tgt := 34) (off := 7) (by decide +kernel) (by decide) (fun hc => ?_) (fun hc => ?_)
      · replace h := h.1 hc
        refine xr_blk (lv1 := [(5, .int (nI 0)), (4, .int (nI 0)), (0, .ref 80), (1, .int x1), (2, .int x2), (3, .int x3)]) (st1 := []) (S1 := rt v) (pc1 := 40) [(.iconst 0, .int (nI 0), 0, 0), (.istore 4, .null, 0, 0), (.iconst 0, .int (nI 0), 0, 0), (.istore 5, .null, 0, 0)] [] (by decide +kernel) rfl trivial ?_
        exact x_R.sub [2, 3, 4, 5, 1, 0] rfl h
      · replace h := h.2 hc
        refine xr_blk (lv1 := [(0, .ref 80), (1, .int x1), (2, .int x2), (3, .int x3)]) (st1 := [.int (nI 1)]) (S1 := rt v) (pc1 := 31) [(.iconst 1, .int (nI 1), 0, 0)] [] (by decide +kernel) rfl trivial ?_
        refine xr_goto (tgt := 35) (off := 4) (by decide +kernel) (by decide) ?_
        refine xr_blk (lv1 := [(5, .int (nI 0)), (4, .int (nI 1)), (0, .ref 80), (1, .int x1), (2, .int x2), (3, .int x3)]) (st1 := []) (S1 := rt v) (pc1 := 40) [(.istore 4, .null, 0, 0), (.iconst 0, .int (nI 0), 0, 0), (.istore 5, .null, 0, 0)] [] (by decide +kernel) rfl trivial ?_
        exact x_R.sub [2, 3, 4, 5, 1, 0] rfl h
set_option maxRecDepth 100000 in
theorem w_X12_isThere_40 {E : Nat × (Nat → Int32)} {d : Nat} {v : xV} {x1 : Int32} {x2 : Int32} {x3 : Int32} {x4 : Int32} {x5 : Int32} {Q : Int32 → xV → Prop} (h : ((x1 ≤ x5 → RI E d 156 89 [(0, .ref 80), (1, .int x1), (2, .int x2), (3, .int x3), (4, .int x4)] v Q) ∧ (¬ x1 ≤ x5 → ((x4 = (nI 0) → RI E d 156 89 [(0, .ref 80), (1, .int x1), (2, .int x2), (3, .int x3), (4, .int x4)] v Q) ∧ (¬ x4 = (nI 0) → vp_in (((nI 10) * x3) + x5) 800 ∧ vp_in x5 240 ∧ ((¬ ((gA v 85) ((((nI 10) * x3) + x5)).toNatClampNeg) = (((gA v 81) (x5).toNatClampNeg) - (nI 97)) → RI E d 156 40 [(0, .ref 80), (1, .int x1), (2, .int x2), (3, .int x3), (4, .int (nI 0)), (5, .int (x5 + (nI 1)))] v Q) ∧ (((gA v 85) ((((nI 10) * x3) + x5)).toNatClampNeg) = (((gA v 81) (x5).toNatClampNeg) - (nI 97)) → RI E d 156 40 [(0, .ref 80), (1, .int x1), (2, .int x2), (3, .int x3), (4, .int (nI 1)), (5, .int (x5 + (nI 1)))] v Q))))))) : RI E d 156 40 [(0, .ref 80), (1, .int x1), (2, .int x2), (3, .int x3), (4, .int x4), (5, .int x5)] v Q := by
  unfold RI
  refine xr_blk (lv1 := [(0, .ref 80), (1, .int x1), (2, .int x2), (3, .int x3), (4, .int x4), (5, .int x5)]) (st1 := [.int x1, .int x5]) (S1 := rt v) (pc1 := 43) [(.iload 5, .null, 0, 0), (.iload_n 1, .null, 0, 0)] [] (by decide +kernel) rfl trivial ?_
  refine xr_ic_ge (tgt := 89) (off := 46) (by decide +kernel) (by decide) (fun hc => ?_) (fun hc => ?_)
  · replace h := h.1 hc
    exact x_R.sub [0, 1, 2, 3, 4] rfl h
  · replace h := h.2 hc
    refine xr_blk (lv1 := [(0, .ref 80), (1, .int x1), (2, .int x2), (3, .int x3), (4, .int x4), (5, .int x5)]) (st1 := [.int x4]) (S1 := rt v) (pc1 := 48) [(.iload 4, .null, 0, 0)] [] (by decide +kernel) rfl trivial ?_
    refine xr_if_eq (tgt := 89) (off := 41) (by decide +kernel) (by decide) (fun hc => ?_) (fun hc => ?_)
    · replace h := h.1 hc
      exact x_R.sub [0, 1, 2, 3, 4] rfl h
    · replace h := h.2 hc
      obtain ⟨hb1, h⟩ := h
      obtain ⟨hb2, h⟩ := h
      refine xr_blk (lv1 := [(0, .ref 80), (1, .int x1), (2, .int x2), (3, .int x3), (4, .int x4), (5, .int x5)]) (st1 := [.int (((gA v 81) (x5).toNatClampNeg) - (nI 97)), .int ((gA v 85) ((((nI 10) * x3) + x5)).toNatClampNeg)]) (S1 := rt v) (pc1 := 73) [(.aload_n 0, .null, 0, 0), (.getfield 26, .null, 12, 9), (.bipush 10, .int (nI 10), 0, 0), (.iload_n 3, .null, 0, 0), (.imul, .null, 0, 0), (.iload 5, .null, 0, 0), (.iadd, .null, 0, 0), (.iaload, .null, 0, 0), (.aload_n 0, .null, 0, 0), (.getfield 7, .null, 12, 1), (.iload 5, .null, 0, 0), (.iaload, .null, 0, 0), (.bipush 97, .int (nI 97), 0, 0), (.isub, .null, 0, 0)] [((((nI 10) * x3) + x5), 800), (x5, 240)] (by decide +kernel) rfl ⟨hb1, hb2, trivial⟩ ?_
      refine xr_ic_ne (tgt := 80) (off := 7) (by decide +kernel) (by decide) (fun hc => ?_) (fun hc => ?_)
      · replace h := h.1 hc
        refine xr_blk (lv1 := [(5, .int (x5 + (nI 1))), (4, .int (nI 0)), (0, .ref 80), (1, .int x1), (2, .int x2), (3, .int x3)]) (st1 := []) (S1 := rt v) (pc1 := 86) [(.iconst 0, .int (nI 0), 0, 0), (.istore 4, .null, 0, 0), (.iinc 5 1, .int (nI 1), 0, 0)] [] (by decide +kernel) rfl trivial ?_
        refine xr_goto (tgt := 40) (off := -46) (by decide +kernel) (by decide) ?_
        exact x_R.sub [2, 3, 4, 5, 1, 0] rfl h
      · replace h := h.2 hc
        refine xr_blk (lv1 := [(0, .ref 80), (1, .int x1), (2, .int x2), (3, .int x3), (4, .int x4), (5, .int x5)]) (st1 := [.int (nI 1)]) (S1 := rt v) (pc1 := 77) [(.iconst 1, .int (nI 1), 0, 0)] [] (by decide +kernel) rfl trivial ?_
        refine xr_goto (tgt := 81) (off := 4) (by decide +kernel) (by decide) ?_
        refine xr_blk (lv1 := [(5, .int (x5 + (nI 1))), (4, .int (nI 1)), (0, .ref 80), (1, .int x1), (2, .int x2), (3, .int x3)]) (st1 := []) (S1 := rt v) (pc1 := 86) [(.istore 4, .null, 0, 0), (.iinc 5 1, .int (nI 1), 0, 0)] [] (by decide +kernel) rfl trivial ?_
        refine xr_goto (tgt := 40) (off := -46) (by decide +kernel) (by decide) ?_
        exact x_R.sub [2, 3, 4, 5, 1, 0] rfl h
set_option maxRecDepth 100000 in
theorem w_X12_isThere_89 {E : Nat × (Nat → Int32)} {d : Nat} {v : xV} {x1 : Int32} {x2 : Int32} {x3 : Int32} {x4 : Int32} {Q : Int32 → xV → Prop} (h : ((x4 = (nI 0) → RI E d 156 2 [(0, .ref 80), (1, .int x1), (2, .int x2), (3, .int (x3 + (nI 1)))] v Q) ∧ (¬ x4 = (nI 0) → Q (nI 1) v))) : RI E d 156 89 [(0, .ref 80), (1, .int x1), (2, .int x2), (3, .int x3), (4, .int x4)] v Q := by
  unfold RI
  refine xr_blk (lv1 := [(0, .ref 80), (1, .int x1), (2, .int x2), (3, .int x3), (4, .int x4)]) (st1 := [.int x4]) (S1 := rt v) (pc1 := 91) [(.iload 4, .null, 0, 0)] [] (by decide +kernel) rfl trivial ?_
  refine xr_if_eq (tgt := 96) (off := 5) (by decide +kernel) (by decide) (fun hc => ?_) (fun hc => ?_)
  · replace h := h.1 hc
    refine xr_blk (lv1 := [(3, .int (x3 + (nI 1))), (0, .ref 80), (1, .int x1), (2, .int x2), (4, .int x4)]) (st1 := []) (S1 := rt v) (pc1 := 99) [(.iinc 3 1, .int (nI 1), 0, 0)] [] (by decide +kernel) rfl trivial ?_
    refine xr_goto (tgt := 2) (off := -97) (by decide +kernel) (by decide) ?_
    exact x_R.sub [1, 2, 3, 0] rfl h
  · replace h := h.2 hc
    refine xr_blk (lv1 := [(0, .ref 80), (1, .int x1), (2, .int x2), (3, .int x3), (4, .int x4)]) (st1 := [.int (nI 1)]) (S1 := rt v) (pc1 := 95) [(.iconst 1, .int (nI 1), 0, 0)] [] (by decide +kernel) rfl trivial ?_
    exact xr_zret (by decide +kernel) rfl x_in2_1 ⟨_, _, rfl, rfl, h⟩
theorem ok_156 : x_mOK 156 := ⟨x_tm7 (List.mem_of_getElem? (i := 97) rfl) rfl, 114, by decide +kernel⟩
/-! X12_word: method 157, ScrawlHouseModel.word(I)I -/
set_option maxRecDepth 100000 in
theorem w_X12_word_0 {E : Nat × (Nat → Int32)} {d : Nat} {v : xV} {x1 : Int32} {Q : Int32 → xV → Prop} (h : KI E d 151 [.ref 80] (v_I v 80 0 (nI 0)) (fun y2 v1 => (((gI v1 80 20) = (nI 80) → Q (-1 : Int32) v1) ∧ (¬ (gI v1 80 20) = (nI 80) → KI E d 152 [.int x1, .int (nI 0), .int (nI 4)] v1 (fun y4 v3 => ((y4 = (nI 0) → Q (-1 : Int32) v3) ∧ (¬ y4 = (nI 0) → KI E d 152 [.int y2, .int (nI 1), .int (nI 10)] v3 (fun y6 v5 => ((¬ y6 = (nI 0) → RI E (d + 1) 157 42 [(0, .ref 80), (1, .int x1), (2, .int y2), (3, .int (nI 0))] v5 Q) ∧ (y6 = (nI 0) → Q (-1 : Int32) v5)))))))))) : RI E (d + 1) 157 0 [(0, .ref 80), (1, .int x1)] v Q := by
  unfold RI
  refine xr_blk (lv1 := [(0, .ref 80), (1, .int x1)]) (st1 := [.ref 80]) (S1 := rt (v_I v 80 0 (nI 0))) (pc1 := 6) [(.aload_n 0, .null, 0, 0), (.iconst 0, .int (nI 0), 0, 0), (.putfield 190, .null, 12, 0), (.aload_n 0, .null, 0, 0)] [] (by decide +kernel) rfl trivial ?_
  refine xk_VI (As := []) (bb := 80) (rest := []) (idx := 210) (i0 := 210) (m1 := 151) (ps := [1627, 1629, 58]) (by decide +kernel) (by decide +kernel) (by decide) rfl ((gK_s (by decide)).trans (by decide +kernel)) (by decide) (Nat.le_of_ble_eq_true rfl) rfl h (fun y2 v1 h => ?_)
  refine xr_blk (lv1 := [(2, .int y2), (0, .ref 80), (1, .int x1)]) (st1 := [.int (nI 80), .int (gI v1 80 20)]) (S1 := rt v1) (pc1 := 16) [(.istore_n 2, .null, 0, 0), (.aload_n 0, .null, 0, 0), (.getfield 207, .null, 12, 20), (.bipush 80, .int (nI 80), 0, 0)] [] (by decide +kernel) rfl trivial ?_
  refine xr_ic_eq (tgt := 38) (off := 22) (by decide +kernel) (by decide) (fun hc => ?_) (fun hc => ?_)
  · replace h := h.1 hc
    refine xr_blk (lv1 := [(2, .int y2), (0, .ref 80), (1, .int x1)]) (st1 := [.int (-1)]) (S1 := rt v1) (pc1 := 39) [(.iconst (-1), .int (-1), 0, 0)] [] (by decide +kernel) rfl trivial ?_
    exact xr_iret (by decide +kernel) rfl ⟨_, _, rfl, rfl, h⟩
  · replace h := h.2 hc
    refine xr_blk (lv1 := [(2, .int y2), (0, .ref 80), (1, .int x1)]) (st1 := [.int (nI 4), .int (nI 0), .int x1]) (S1 := rt v1) (pc1 := 22) [(.iload_n 1, .null, 0, 0), (.iconst 0, .int (nI 0), 0, 0), (.iconst 4, .int (nI 4), 0, 0)] [] (by decide +kernel) rfl trivial ?_
    refine xk_SI (As := [.int x1, .int (nI 0), .int (nI 4)]) (rest := []) (idx := 200) (i0 := 200) (m1 := 152) (ps := [1616, 1617]) (by decide +kernel) (by decide +kernel) (by decide) rfl (Nat.le_of_ble_eq_true rfl) rfl h (fun y4 v3 h => ?_)
    refine xr_if_eq (tgt := 38) (off := 13) (by decide +kernel) (by decide) (fun hc => ?_) (fun hc => ?_)
    · replace h := h.1 hc
      refine xr_blk (lv1 := [(2, .int y2), (0, .ref 80), (1, .int x1)]) (st1 := [.int (-1)]) (S1 := rt v3) (pc1 := 39) [(.iconst (-1), .int (-1), 0, 0)] [] (by decide +kernel) rfl trivial ?_
      exact xr_iret (by decide +kernel) rfl ⟨_, _, rfl, rfl, h⟩
    · replace h := h.2 hc
      refine xr_blk (lv1 := [(2, .int y2), (0, .ref 80), (1, .int x1)]) (st1 := [.int (nI 10), .int (nI 1), .int y2]) (S1 := rt v3) (pc1 := 32) [(.iload_n 2, .null, 0, 0), (.iconst 1, .int (nI 1), 0, 0), (.bipush 10, .int (nI 10), 0, 0)] [] (by decide +kernel) rfl trivial ?_
      refine xk_SI (As := [.int y2, .int (nI 1), .int (nI 10)]) (rest := []) (idx := 200) (i0 := 200) (m1 := 152) (ps := [1616, 1617]) (by decide +kernel) (by decide +kernel) (by decide) rfl (Nat.le_of_ble_eq_true rfl) rfl h (fun y6 v5 h => ?_)
      refine xr_if_ne (tgt := 40) (off := 5) (by decide +kernel) (by decide) (fun hc => ?_) (fun hc => ?_)
      · replace h := h.1 hc
        refine xr_blk (lv1 := [(3, .int (nI 0)), (2, .int y2), (0, .ref 80), (1, .int x1)]) (st1 := []) (S1 := rt v5) (pc1 := 42) [(.iconst 0, .int (nI 0), 0, 0), (.istore_n 3, .null, 0, 0)] [] (by decide +kernel) rfl trivial ?_
        exact x_R.sub [2, 3, 1, 0] rfl h
      · replace h := h.2 hc
        refine xr_blk (lv1 := [(2, .int y2), (0, .ref 80), (1, .int x1)]) (st1 := [.int (-1)]) (S1 := rt v5) (pc1 := 39) [(.iconst (-1), .int (-1), 0, 0)] [] (by decide +kernel) rfl trivial ?_
        exact xr_iret (by decide +kernel) rfl ⟨_, _, rfl, rfl, h⟩
set_option maxRecDepth 100000 in
theorem w_X12_word_42 {E : Nat × (Nat → Int32)} {d : Nat} {v : xV} {x1 : Int32} {x2 : Int32} {x3 : Int32} {Q : Int32 → xV → Prop} (h : ((x2 ≤ x3 → KI E d 156 [.ref 80, .int x2, .int x1] v (fun y2 v1 => ((y2 = (nI 0) → RI E (d + 1) 157 80 [(0, .ref 80), (1, .int x1), (2, .int x2), (3, .int (nI 0))] v1 Q) ∧ (¬ y2 = (nI 0) → Q (-1 : Int32) v1)))) ∧ (¬ x2 ≤ x3 → vp_in x3 240 ∧ KI E d 154 [.int ((gA v 81) (x3).toNatClampNeg)] v (fun y5 v4 => ((¬ y5 = (nI 0) → RI E (d + 1) 157 42 [(0, .ref 80), (1, .int x1), (2, .int x2), (3, .int (x3 + (nI 1)))] v4 Q) ∧ (y5 = (nI 0) → Q (-1 : Int32) v4)))))) : RI E (d + 1) 157 42 [(0, .ref 80), (1, .int x1), (2, .int x2), (3, .int x3)] v Q := by
  unfold RI
  refine xr_blk (lv1 := [(0, .ref 80), (1, .int x1), (2, .int x2), (3, .int x3)]) (st1 := [.int x2, .int x3]) (S1 := rt v) (pc1 := 44) [(.iload_n 3, .null, 0, 0), (.iload_n 2, .null, 0, 0)] [] (by decide +kernel) rfl trivial ?_
  refine xr_ic_ge (tgt := 67) (off := 23) (by decide +kernel) (by decide) (fun hc => ?_) (fun hc => ?_)
  · replace h := h.1 hc
    refine xr_blk (lv1 := [(0, .ref 80), (1, .int x1), (2, .int x2), (3, .int x3)]) (st1 := [.int x1, .int x2, .ref 80]) (S1 := rt v) (pc1 := 70) [(.aload_n 0, .null, 0, 0), (.iload_n 2, .null, 0, 0), (.iload_n 1, .null, 0, 0)] [] (by decide +kernel) rfl trivial ?_
    refine xk_VI (As := [.int x2, .int x1]) (bb := 80) (rest := []) (idx := 218) (i0 := 218) (m1 := 156) (ps := [1634, 1636, 59]) (by decide +kernel) (by decide +kernel) (by decide) rfl ((gK_s (by decide)).trans (by decide +kernel)) (by decide) (Nat.le_of_ble_eq_true rfl) rfl h (fun y2 v1 h => ?_)
    refine xr_if_eq (tgt := 78) (off := 5) (by decide +kernel) (by decide) (fun hc => ?_) (fun hc => ?_)
    · replace h := h.1 hc
      refine xr_blk (lv1 := [(3, .int (nI 0)), (0, .ref 80), (1, .int x1), (2, .int x2)]) (st1 := []) (S1 := rt v1) (pc1 := 80) [(.iconst 0, .int (nI 0), 0, 0), (.istore_n 3, .null, 0, 0)] [] (by decide +kernel) rfl trivial ?_
      exact x_R.sub [1, 2, 3, 0] rfl h
    · replace h := h.2 hc
      refine xr_blk (lv1 := [(0, .ref 80), (1, .int x1), (2, .int x2), (3, .int x3)]) (st1 := [.int (-1)]) (S1 := rt v1) (pc1 := 77) [(.iconst (-1), .int (-1), 0, 0)] [] (by decide +kernel) rfl trivial ?_
      exact xr_iret (by decide +kernel) rfl ⟨_, _, rfl, rfl, h⟩
  · replace h := h.2 hc
    obtain ⟨hb3, h⟩ := h
    refine xr_blk (lv1 := [(0, .ref 80), (1, .int x1), (2, .int x2), (3, .int x3)]) (st1 := [.int ((gA v 81) (x3).toNatClampNeg)]) (S1 := rt v) (pc1 := 53) [(.aload_n 0, .null, 0, 0), (.getfield 7, .null, 12, 1), (.iload_n 3, .null, 0, 0), (.iaload, .null, 0, 0)] [(x3, 240)] (by decide +kernel) rfl ⟨hb3, trivial⟩ ?_
    refine xk_SI (As := [.int ((gA v 81) (x3).toNatClampNeg)]) (rest := []) (idx := 214) (i0 := 214) (m1 := 154) (ps := [1631, 1632]) (by decide +kernel) (by decide +kernel) (by decide) rfl (Nat.le_of_ble_eq_true rfl) rfl h (fun y5 v4 h => ?_)
    refine xr_if_ne (tgt := 61) (off := 5) (by decide +kernel) (by decide) (fun hc => ?_) (fun hc => ?_)
    · replace h := h.1 hc
      refine xr_blk (lv1 := [(3, .int (x3 + (nI 1))), (0, .ref 80), (1, .int x1), (2, .int x2)]) (st1 := []) (S1 := rt v4) (pc1 := 64) [(.iinc 3 1, .int (nI 1), 0, 0)] [] (by decide +kernel) rfl trivial ?_
      refine xr_goto (tgt := 42) (off := -22) (by decide +kernel) (by decide) ?_
      exact x_R.sub [1, 2, 3, 0] rfl h
    · replace h := h.2 hc
      refine xr_blk (lv1 := [(0, .ref 80), (1, .int x1), (2, .int x2), (3, .int x3)]) (st1 := [.int (-1)]) (S1 := rt v4) (pc1 := 60) [(.iconst (-1), .int (-1), 0, 0)] [] (by decide +kernel) rfl trivial ?_
      exact xr_iret (by decide +kernel) rfl ⟨_, _, rfl, rfl, h⟩
set_option maxRecDepth 100000 in
theorem w_X12_word_80 {E : Nat × (Nat → Int32)} {d : Nat} {v : xV} {x1 : Int32} {x2 : Int32} {x3 : Int32} {Q : Int32 → xV → Prop} (h : ((x2 ≤ x3 → vp_in (gI v 80 20) 80 ∧ vp_in (gI v 80 20) 80 ∧ Q (((gI v 80 20) + (nI 1)) - (nI 1)) (v_I (v_I (v_A (v_A v 86 (upd (gA v 86) ((gI v 80 20)).toNatClampNeg x2)) 87 (upd (gA v 87) ((gI v 80 20)).toNatClampNeg x1)) 80 20 ((gI v 80 20) + (nI 1))) 80 6 ((gI v 80 6) + (nI 1)))) ∧ (¬ x2 ≤ x3 → vp_in x3 240 ∧ vp_in (((nI 10) * (gI v 80 20)) + x3) 800 ∧ RI E (d + 1) 157 80 [(0, .ref 80), (1, .int x1), (2, .int x2), (3, .int (x3 + (nI 1)))] (v_A v 85 (upd (gA v 85) ((((nI 10) * (gI v 80 20)) + x3)).toNatClampNeg (((gA v 81) (x3).toNatClampNeg) - (nI 97)))) Q))) : RI E (d + 1) 157 80 [(0, .ref 80), (1, .int x1), (2, .int x2), (3, .int x3)] v Q := by
  unfold RI
  refine xr_blk (lv1 := [(0, .ref 80), (1, .int x1), (2, .int x2), (3, .int x3)]) (st1 := [.int x2, .int x3]) (S1 := rt v) (pc1 := 82) [(.iload_n 3, .null, 0, 0), (.iload_n 2, .null, 0, 0)] [] (by decide +kernel) rfl trivial ?_
  refine xr_ic_ge (tgt := 114) (off := 32) (by decide +kernel) (by decide) (fun hc => ?_) (fun hc => ?_)
  · replace h := h.1 hc
    obtain ⟨hb1, h⟩ := h
    obtain ⟨hb2, h⟩ := h
    refine xr_blk (lv1 := [(0, .ref 80), (1, .int x1), (2, .int x2), (3, .int x3)]) (st1 := [.int (((gI v 80 20) + (nI 1)) - (nI 1))]) (S1 := rt (v_I (v_I (v_A (v_A v 86 (upd (gA v 86) ((gI v 80 20)).toNatClampNeg x2)) 87 (upd (gA v 87) ((gI v 80 20)).toNatClampNeg x1)) 80 20 ((gI v 80 20) + (nI 1))) 80 6 ((gI v 80 6) + (nI 1)))) (pc1 := 160) [(.aload_n 0, .null, 0, 0), (.getfield 29, .null, 12, 10), (.aload_n 0, .null, 0, 0), (.getfield 207, .null, 12, 20), (.iload_n 2, .null, 0, 0), (.iastore, .null, 0, 0), (.aload_n 0, .null, 0, 0), (.getfield 32, .null, 12, 11), (.aload_n 0, .null, 0, 0), (.getfield 207, .null, 12, 20), (.iload_n 1, .null, 0, 0), (.iastore, .null, 0, 0), (.aload_n 0, .null, 0, 0), (.dup, .null, 0, 0), (.getfield 207, .null, 12, 20), (.iconst 1, .int (nI 1), 0, 0), (.iadd, .null, 0, 0), (.putfield 207, .null, 12, 20), (.aload_n 0, .null, 0, 0), (.dup, .null, 0, 0), (.getfield 16, .null, 12, 6), (.iconst 1, .int (nI 1), 0, 0), (.iadd, .null, 0, 0), (.putfield 16, .null, 12, 6), (.aload_n 0, .null, 0, 0), (.getfield 207, .null, 12, 20), (.iconst 1, .int (nI 1), 0, 0), (.isub, .null, 0, 0)] [((gI v 80 20), 80), ((gI v 80 20), 80)] (by decide +kernel) rfl ⟨hb1, hb2, trivial⟩ ?_
    exact xr_iret (by decide +kernel) rfl ⟨_, _, rfl, rfl, h⟩
  · replace h := h.2 hc
    obtain ⟨hb3, h⟩ := h
    obtain ⟨hb4, h⟩ := h
    refine xr_blk (lv1 := [(3, .int (x3 + (nI 1))), (0, .ref 80), (1, .int x1), (2, .int x2)]) (st1 := []) (S1 := rt (v_A v 85 (upd (gA v 85) ((((nI 10) * (gI v 80 20)) + x3)).toNatClampNeg (((gA v 81) (x3).toNatClampNeg) - (nI 97))))) (pc1 := 111) [(.aload_n 0, .null, 0, 0), (.getfield 26, .null, 12, 9), (.bipush 10, .int (nI 10), 0, 0), (.aload_n 0, .null, 0, 0), (.getfield 207, .null, 12, 20), (.imul, .null, 0, 0), (.iload_n 3, .null, 0, 0), (.iadd, .null, 0, 0), (.aload_n 0, .null, 0, 0), (.getfield 7, .null, 12, 1), (.iload_n 3, .null, 0, 0), (.iaload, .null, 0, 0), (.bipush 97, .int (nI 97), 0, 0), (.isub, .null, 0, 0), (.iastore, .null, 0, 0), (.iinc 3 1, .int (nI 1), 0, 0)] [(x3, 240), ((((nI 10) * (gI v 80 20)) + x3), 800)] (by decide +kernel) rfl ⟨hb3, hb4, trivial⟩ ?_
    refine xr_goto (tgt := 80) (off := -31) (by decide +kernel) (by decide) ?_
    exact x_R.sub [1, 2, 3, 0] rfl h
theorem ok_157 : x_mOK 157 := ⟨x_tm7 (List.mem_of_getElem? (i := 86) rfl) rfl, 114, by decide +kernel⟩
/-! X12_isCorner: method 158, ScrawlHouseModel.isCorner(I)Z -/
set_option maxRecDepth 100000 in
theorem w_X12_isCorner_0 {E : Nat × (Nat → Int32)} {d : Nat} {v : xV} {x0 : Int32} {Q : Int32 → xV → Prop} (h : ((x0 < (nI 0) → Q (nI 0) v) ∧ (¬ x0 < (nI 0) → (((nI 12) ≤ x0 → Q (nI 0) v) ∧ (¬ (nI 12) ≤ x0 → Q (nI 1) v))))) : RI E d 158 0 [(0, .int x0)] v Q := by
  unfold RI
  refine xr_blk (lv1 := [(0, .int x0)]) (st1 := [.int x0]) (S1 := rt v) (pc1 := 1) [(.iload_n 0, .null, 0, 0)] [] (by decide +kernel) rfl trivial ?_
  refine xr_if_lt (tgt := 14) (off := 13) (by decide +kernel) (by decide) (fun hc => ?_) (fun hc => ?_)
  · replace h := h.1 hc
    refine xr_blk (lv1 := [(0, .int x0)]) (st1 := [.int (nI 0)]) (S1 := rt v) (pc1 := 15) [(.iconst 0, .int (nI 0), 0, 0)] [] (by decide +kernel) rfl trivial ?_
    exact xr_zret (by decide +kernel) rfl x_in2_0 ⟨_, _, rfl, rfl, h⟩
  · replace h := h.2 hc
    refine xr_blk (lv1 := [(0, .int x0)]) (st1 := [.int (nI 12), .int x0]) (S1 := rt v) (pc1 := 7) [(.iload_n 0, .null, 0, 0), (.bipush 12, .int (nI 12), 0, 0)] [] (by decide +kernel) rfl trivial ?_
    refine xr_ic_ge (tgt := 14) (off := 7) (by decide +kernel) (by decide) (fun hc => ?_) (fun hc => ?_)
    · replace h := h.1 hc
      refine xr_blk (lv1 := [(0, .int x0)]) (st1 := [.int (nI 0)]) (S1 := rt v) (pc1 := 15) [(.iconst 0, .int (nI 0), 0, 0)] [] (by decide +kernel) rfl trivial ?_
      exact xr_zret (by decide +kernel) rfl x_in2_0 ⟨_, _, rfl, rfl, h⟩
    · replace h := h.2 hc
      refine xr_blk (lv1 := [(0, .int x0)]) (st1 := [.int (nI 1)]) (S1 := rt v) (pc1 := 11) [(.iconst 1, .int (nI 1), 0, 0)] [] (by decide +kernel) rfl trivial ?_
      refine xr_goto (tgt := 15) (off := 4) (by decide +kernel) (by decide) ?_
      exact xr_zret (by decide +kernel) rfl x_in2_1 ⟨_, _, rfl, rfl, h⟩
theorem ok_158 : x_mOK 158 := ⟨x_tm7 (List.mem_of_getElem? (i := 104) rfl) rfl, 114, by decide +kernel⟩
/-! X12_street: method 159, ScrawlHouseModel.street(III)Z -/
set_option maxRecDepth 100000 in
theorem w_X12_street_0 {E : Nat × (Nat → Int32)} {d : Nat} {v : xV} {x1 : Int32} {x2 : Int32} {x3 : Int32} {Q : Int32 → xV → Prop} (h : (((gI v 80 21) = (nI 30) → Q (nI 0) (v_I v 80 0 (nI 0))) ∧ (¬ (gI v 80 21) = (nI 30) → KI E d 158 [.int x1] (v_I v 80 0 (nI 0)) (fun y2 v1 => ((y2 = (nI 0) → Q (nI 0) v1) ∧ (¬ y2 = (nI 0) → KI E d 158 [.int x2] v1 (fun y4 v3 => ((y4 = (nI 0) → Q (nI 0) v3) ∧ (¬ y4 = (nI 0) → ((x1 = x2 → Q (nI 0) v3) ∧ (¬ x1 = x2 → KI E d 152 [.int x3, .int (nI 1), .int (nI 99)] v3 (fun y6 v5 => ((¬ y6 = (nI 0) → vp_in (gI v5 80 21) 30 ∧ vp_in (gI v5 80 21) 30 ∧ vp_in (gI v5 80 21) 30 ∧ Q (nI 1) (v_I (v_A (v_A (v_A v5 88 (upd (gA v5 88) ((gI v5 80 21)).toNatClampNeg x1)) 89 (upd (gA v5 89) ((gI v5 80 21)).toNatClampNeg x2)) 90 (upd (gA v5 90) ((gI v5 80 21)).toNatClampNeg x3)) 80 21 ((gI v5 80 21) + (nI 1)))) ∧ (y6 = (nI 0) → Q (nI 0) v5)))))))))))))) : RI E (d + 1) 159 0 [(0, .ref 80), (1, .int x1), (2, .int x2), (3, .int x3)] v Q := by
  unfold RI
  refine xr_blk (lv1 := [(0, .ref 80), (1, .int x1), (2, .int x2), (3, .int x3)]) (st1 := [.int (nI 30), .int (gI v 80 21)]) (S1 := rt (v_I v 80 0 (nI 0))) (pc1 := 11) [(.aload_n 0, .null, 0, 0), (.iconst 0, .int (nI 0), 0, 0), (.putfield 190, .null, 12, 0), (.aload_n 0, .null, 0, 0), (.getfield 222, .null, 12, 21), (.bipush 30, .int (nI 30), 0, 0)] [] (by decide +kernel) rfl trivial ?_
  refine xr_ic_eq (tgt := 43) (off := 32) (by decide +kernel) (by decide) (fun hc => ?_) (fun hc => ?_)
  · replace h := h.1 hc
    refine xr_blk (lv1 := [(0, .ref 80), (1, .int x1), (2, .int x2), (3, .int x3)]) (st1 := [.int (nI 0)]) (S1 := rt (v_I v 80 0 (nI 0))) (pc1 := 44) [(.iconst 0, .int (nI 0), 0, 0)] [] (by decide +kernel) rfl trivial ?_
    exact xr_zret (by decide +kernel) rfl x_in2_0 ⟨_, _, rfl, rfl, h⟩
  · replace h := h.2 hc
    refine xr_blk (lv1 := [(0, .ref 80), (1, .int x1), (2, .int x2), (3, .int x3)]) (st1 := [.int x1]) (S1 := rt (v_I v 80 0 (nI 0))) (pc1 := 15) [(.iload_n 1, .null, 0, 0)] [] (by decide +kernel) rfl trivial ?_
    refine xk_SI (As := [.int x1]) (rest := []) (idx := 225) (i0 := 225) (m1 := 158) (ps := [1642, 1643]) (by decide +kernel) (by decide +kernel) (by decide) rfl (Nat.le_of_ble_eq_true rfl) rfl h (fun y2 v1 h => ?_)
    refine xr_if_eq (tgt := 43) (off := 25) (by decide +kernel) (by decide) (fun hc => ?_) (fun hc => ?_)
    · replace h := h.1 hc
      refine xr_blk (lv1 := [(0, .ref 80), (1, .int x1), (2, .int x2), (3, .int x3)]) (st1 := [.int (nI 0)]) (S1 := rt v1) (pc1 := 44) [(.iconst 0, .int (nI 0), 0, 0)] [] (by decide +kernel) rfl trivial ?_
      exact xr_zret (by decide +kernel) rfl x_in2_0 ⟨_, _, rfl, rfl, h⟩
    · replace h := h.2 hc
      refine xr_blk (lv1 := [(0, .ref 80), (1, .int x1), (2, .int x2), (3, .int x3)]) (st1 := [.int x2]) (S1 := rt v1) (pc1 := 22) [(.iload_n 2, .null, 0, 0)] [] (by decide +kernel) rfl trivial ?_
      refine xk_SI (As := [.int x2]) (rest := []) (idx := 225) (i0 := 225) (m1 := 158) (ps := [1642, 1643]) (by decide +kernel) (by decide +kernel) (by decide) rfl (Nat.le_of_ble_eq_true rfl) rfl h (fun y4 v3 h => ?_)
      refine xr_if_eq (tgt := 43) (off := 18) (by decide +kernel) (by decide) (fun hc => ?_) (fun hc => ?_)
      · replace h := h.1 hc
        refine xr_blk (lv1 := [(0, .ref 80), (1, .int x1), (2, .int x2), (3, .int x3)]) (st1 := [.int (nI 0)]) (S1 := rt v3) (pc1 := 44) [(.iconst 0, .int (nI 0), 0, 0)] [] (by decide +kernel) rfl trivial ?_
        exact xr_zret (by decide +kernel) rfl x_in2_0 ⟨_, _, rfl, rfl, h⟩
      · replace h := h.2 hc
        refine xr_blk (lv1 := [(0, .ref 80), (1, .int x1), (2, .int x2), (3, .int x3)]) (st1 := [.int x2, .int x1]) (S1 := rt v3) (pc1 := 30) [(.iload_n 1, .null, 0, 0), (.iload_n 2, .null, 0, 0)] [] (by decide +kernel) rfl trivial ?_
        refine xr_ic_eq (tgt := 43) (off := 13) (by decide +kernel) (by decide) (fun hc => ?_) (fun hc => ?_)
        · replace h := h.1 hc
          refine xr_blk (lv1 := [(0, .ref 80), (1, .int x1), (2, .int x2), (3, .int x3)]) (st1 := [.int (nI 0)]) (S1 := rt v3) (pc1 := 44) [(.iconst 0, .int (nI 0), 0, 0)] [] (by decide +kernel) rfl trivial ?_
          exact xr_zret (by decide +kernel) rfl x_in2_0 ⟨_, _, rfl, rfl, h⟩
        · replace h := h.2 hc
          refine xr_blk (lv1 := [(0, .ref 80), (1, .int x1), (2, .int x2), (3, .int x3)]) (st1 := [.int (nI 99), .int (nI 1), .int x3]) (S1 := rt v3) (pc1 := 37) [(.iload_n 3, .null, 0, 0), (.iconst 1, .int (nI 1), 0, 0), (.bipush 99, .int (nI 99), 0, 0)] [] (by decide +kernel) rfl trivial ?_
          refine xk_SI (As := [.int x3, .int (nI 1), .int (nI 99)]) (rest := []) (idx := 200) (i0 := 200) (m1 := 152) (ps := [1616, 1617]) (by decide +kernel) (by decide +kernel) (by decide) rfl (Nat.le_of_ble_eq_true rfl) rfl h (fun y6 v5 h => ?_)
          refine xr_if_ne (tgt := 45) (off := 5) (by decide +kernel) (by decide) (fun hc => ?_) (fun hc => ?_)
          · replace h := h.1 hc
            obtain ⟨hb7, h⟩ := h
            obtain ⟨hb8, h⟩ := h
            obtain ⟨hb9, h⟩ := h
            refine xr_blk (lv1 := [(0, .ref 80), (1, .int x1), (2, .int x2), (3, .int x3)]) (st1 := [.int (nI 1)]) (S1 := rt (v_I (v_A (v_A (v_A v5 88 (upd (gA v5 88) ((gI v5 80 21)).toNatClampNeg x1)) 89 (upd (gA v5 89) ((gI v5 80 21)).toNatClampNeg x2)) 90 (upd (gA v5 90) ((gI v5 80 21)).toNatClampNeg x3)) 80 21 ((gI v5 80 21) + (nI 1)))) (pc1 := 86) [(.aload_n 0, .null, 0, 0), (.getfield 35, .null, 12, 12), (.aload_n 0, .null, 0, 0), (.getfield 222, .null, 12, 21), (.iload_n 1, .null, 0, 0), (.iastore, .null, 0, 0), (.aload_n 0, .null, 0, 0), (.getfield 38, .null, 12, 13), (.aload_n 0, .null, 0, 0), (.getfield 222, .null, 12, 21), (.iload_n 2, .null, 0, 0), (.iastore, .null, 0, 0), (.aload_n 0, .null, 0, 0), (.getfield 41, .null, 12, 14), (.aload_n 0, .null, 0, 0), (.getfield 222, .null, 12, 21), (.iload_n 3, .null, 0, 0), (.iastore, .null, 0, 0), (.aload_n 0, .null, 0, 0), (.dup, .null, 0, 0), (.getfield 222, .null, 12, 21), (.iconst 1, .int (nI 1), 0, 0), (.iadd, .null, 0, 0), (.putfield 222, .null, 12, 21), (.iconst 1, .int (nI 1), 0, 0)] [((gI v5 80 21), 30), ((gI v5 80 21), 30), ((gI v5 80 21), 30)] (by decide +kernel) rfl ⟨hb7, hb8, hb9, trivial⟩ ?_
            exact xr_zret (by decide +kernel) rfl x_in2_1 ⟨_, _, rfl, rfl, h⟩
          · replace h := h.2 hc
            refine xr_blk (lv1 := [(0, .ref 80), (1, .int x1), (2, .int x2), (3, .int x3)]) (st1 := [.int (nI 0)]) (S1 := rt v5) (pc1 := 44) [(.iconst 0, .int (nI 0), 0, 0)] [] (by decide +kernel) rfl trivial ?_
            exact xr_zret (by decide +kernel) rfl x_in2_0 ⟨_, _, rfl, rfl, h⟩
theorem ok_159 : x_mOK 159 := ⟨x_tm7 (List.mem_of_getElem? (i := 101) rfl) rfl, 114, by decide +kernel⟩
/-! X12_wall: method 160, ScrawlHouseModel.wall(II)I -/
set_option maxRecDepth 100000 in
theorem w_X12_wall_0 {E : Nat × (Nat → Int32)} {d : Nat} {v : xV} {x1 : Int32} {x2 : Int32} {Q : Int32 → xV → Prop} (h : (((gI v 80 22) = (nI 8) → Q (-1 : Int32) (v_I v 80 0 (nI 0))) ∧ (¬ (gI v 80 22) = (nI 8) → KI E d 158 [.int x1] (v_I v 80 0 (nI 0)) (fun y2 v1 => ((y2 = (nI 0) → Q (-1 : Int32) v1) ∧ (¬ y2 = (nI 0) → KI E d 152 [.int x2, .int (nI 1), .int (nI 4)] v1 (fun y4 v3 => ((¬ y4 = (nI 0) → vp_in (gI v3 80 22) 8 ∧ vp_in (gI v3 80 22) 8 ∧ Q (((gI v3 80 22) + (nI 1)) - (nI 1)) (v_I (v_A (v_A v3 91 (upd (gA v3 91) ((gI v3 80 22)).toNatClampNeg x1)) 92 (upd (gA v3 92) ((gI v3 80 22)).toNatClampNeg x2)) 80 22 ((gI v3 80 22) + (nI 1)))) ∧ (y4 = (nI 0) → Q (-1 : Int32) v3))))))))) : RI E (d + 1) 160 0 [(0, .ref 80), (1, .int x1), (2, .int x2)] v Q := by
  unfold RI
  refine xr_blk (lv1 := [(0, .ref 80), (1, .int x1), (2, .int x2)]) (st1 := [.int (nI 8), .int (gI v 80 22)]) (S1 := rt (v_I v 80 0 (nI 0))) (pc1 := 11) [(.aload_n 0, .null, 0, 0), (.iconst 0, .int (nI 0), 0, 0), (.putfield 190, .null, 12, 0), (.aload_n 0, .null, 0, 0), (.getfield 228, .null, 12, 22), (.bipush 8, .int (nI 8), 0, 0)] [] (by decide +kernel) rfl trivial ?_
  refine xr_ic_eq (tgt := 30) (off := 19) (by decide +kernel) (by decide) (fun hc => ?_) (fun hc => ?_)
  · replace h := h.1 hc
    refine xr_blk (lv1 := [(0, .ref 80), (1, .int x1), (2, .int x2)]) (st1 := [.int (-1)]) (S1 := rt (v_I v 80 0 (nI 0))) (pc1 := 31) [(.iconst (-1), .int (-1), 0, 0)] [] (by decide +kernel) rfl trivial ?_
    exact xr_iret (by decide +kernel) rfl ⟨_, _, rfl, rfl, h⟩
  · replace h := h.2 hc
    refine xr_blk (lv1 := [(0, .ref 80), (1, .int x1), (2, .int x2)]) (st1 := [.int x1]) (S1 := rt (v_I v 80 0 (nI 0))) (pc1 := 15) [(.iload_n 1, .null, 0, 0)] [] (by decide +kernel) rfl trivial ?_
    refine xk_SI (As := [.int x1]) (rest := []) (idx := 225) (i0 := 225) (m1 := 158) (ps := [1642, 1643]) (by decide +kernel) (by decide +kernel) (by decide) rfl (Nat.le_of_ble_eq_true rfl) rfl h (fun y2 v1 h => ?_)
    refine xr_if_eq (tgt := 30) (off := 12) (by decide +kernel) (by decide) (fun hc => ?_) (fun hc => ?_)
    · replace h := h.1 hc
      refine xr_blk (lv1 := [(0, .ref 80), (1, .int x1), (2, .int x2)]) (st1 := [.int (-1)]) (S1 := rt v1) (pc1 := 31) [(.iconst (-1), .int (-1), 0, 0)] [] (by decide +kernel) rfl trivial ?_
      exact xr_iret (by decide +kernel) rfl ⟨_, _, rfl, rfl, h⟩
    · replace h := h.2 hc
      refine xr_blk (lv1 := [(0, .ref 80), (1, .int x1), (2, .int x2)]) (st1 := [.int (nI 4), .int (nI 1), .int x2]) (S1 := rt v1) (pc1 := 24) [(.iload_n 2, .null, 0, 0), (.iconst 1, .int (nI 1), 0, 0), (.iconst 4, .int (nI 4), 0, 0)] [] (by decide +kernel) rfl trivial ?_
      refine xk_SI (As := [.int x2, .int (nI 1), .int (nI 4)]) (rest := []) (idx := 200) (i0 := 200) (m1 := 152) (ps := [1616, 1617]) (by decide +kernel) (by decide +kernel) (by decide) rfl (Nat.le_of_ble_eq_true rfl) rfl h (fun y4 v3 h => ?_)
      refine xr_if_ne (tgt := 32) (off := 5) (by decide +kernel) (by decide) (fun hc => ?_) (fun hc => ?_)
      · replace h := h.1 hc
        obtain ⟨hb5, h⟩ := h
        obtain ⟨hb6, h⟩ := h
        refine xr_blk (lv1 := [(0, .ref 80), (1, .int x1), (2, .int x2)]) (st1 := [.int (((gI v3 80 22) + (nI 1)) - (nI 1))]) (S1 := rt (v_I (v_A (v_A v3 91 (upd (gA v3 91) ((gI v3 80 22)).toNatClampNeg x1)) 92 (upd (gA v3 92) ((gI v3 80 22)).toNatClampNeg x2)) 80 22 ((gI v3 80 22) + (nI 1)))) (pc1 := 68) [(.aload_n 0, .null, 0, 0), (.getfield 44, .null, 12, 15), (.aload_n 0, .null, 0, 0), (.getfield 228, .null, 12, 22), (.iload_n 1, .null, 0, 0), (.iastore, .null, 0, 0), (.aload_n 0, .null, 0, 0), (.getfield 47, .null, 12, 16), (.aload_n 0, .null, 0, 0), (.getfield 228, .null, 12, 22), (.iload_n 2, .null, 0, 0), (.iastore, .null, 0, 0), (.aload_n 0, .null, 0, 0), (.dup, .null, 0, 0), (.getfield 228, .null, 12, 22), (.iconst 1, .int (nI 1), 0, 0), (.iadd, .null, 0, 0), (.putfield 228, .null, 12, 22), (.aload_n 0, .null, 0, 0), (.getfield 228, .null, 12, 22), (.iconst 1, .int (nI 1), 0, 0), (.isub, .null, 0, 0)] [((gI v3 80 22), 8), ((gI v3 80 22), 8)] (by decide +kernel) rfl ⟨hb5, hb6, trivial⟩ ?_
        exact xr_iret (by decide +kernel) rfl ⟨_, _, rfl, rfl, h⟩
      · replace h := h.2 hc
        refine xr_blk (lv1 := [(0, .ref 80), (1, .int x1), (2, .int x2)]) (st1 := [.int (-1)]) (S1 := rt v3) (pc1 := 31) [(.iconst (-1), .int (-1), 0, 0)] [] (by decide +kernel) rfl trivial ?_
        exact xr_iret (by decide +kernel) rfl ⟨_, _, rfl, rfl, h⟩
theorem ok_160 : x_mOK 160 := ⟨x_tm7 (List.mem_of_getElem? (i := 108) rfl) rfl, 114, by decide +kernel⟩
/-! X12_habit: method 161, ScrawlHouseModel.habit(III)I -/
set_option maxRecDepth 100000 in
theorem w_X12_habit_0 {E : Nat × (Nat → Int32)} {d : Nat} {v : xV} {x1 : Int32} {x2 : Int32} {x3 : Int32} {Q : Int32 → xV → Prop} (h : KI E d 152 [.int x1, .int (nI 0), .int (nI 3)] (v_I v 80 0 (nI 0)) (fun y2 v1 => ((y2 = (nI 0) → Q (-1 : Int32) v1) ∧ (¬ y2 = (nI 0) → KI E d 152 [.int x2, .int (nI 0), .int (nI 25)] v1 (fun y4 v3 => ((y4 = (nI 0) → Q (-1 : Int32) v3) ∧ (¬ y4 = (nI 0) → KI E d 152 [.int x3, .int (nI 0), .int (nI 25)] v3 (fun y6 v5 => ((y6 = (nI 0) → Q (-1 : Int32) v5) ∧ (¬ y6 = (nI 0) → ((x2 = x3 → Q (-1 : Int32) v5) ∧ (¬ x2 = x3 → vp_in x1 4 ∧ ((((gA v5 93) (x1).toNatClampNeg) = (nI 12) → Q (-1 : Int32) v5) ∧ (¬ ((gA v5 93) (x1).toNatClampNeg) = (nI 12) → KI E d 162 [.ref 80, .int x1, .int x2, .int x3] v5 (fun y9 v8 => ((y9 = (nI 0) → vp_in x1 4 ∧ vp_in (((nI 12) * x1) + ((gA v8 93) (x1).toNatClampNeg)) 48 ∧ vp_in x1 4 ∧ vp_in (((nI 12) * x1) + ((gA v8 93) (x1).toNatClampNeg)) 48 ∧ vp_in x1 4 ∧ vp_in x1 4 ∧ vp_in x1 4 ∧ Q ((upd (gA v8 93) (x1).toNatClampNeg (((gA v8 93) (x1).toNatClampNeg) + (nI 1))) (x1).toNatClampNeg) (v_I (v_A (v_A (v_A v8 94 (upd (gA v8 94) ((((nI 12) * x1) + ((gA v8 93) (x1).toNatClampNeg))).toNatClampNeg x2)) 95 (upd (gA v8 95) ((((nI 12) * x1) + ((gA v8 93) (x1).toNatClampNeg))).toNatClampNeg x3)) 93 (upd (gA v8 93) (x1).toNatClampNeg (((gA v8 93) (x1).toNatClampNeg) + (nI 1)))) 80 6 ((gI v8 80 6) + (nI 1)))) ∧ (¬ y9 = (nI 0) → Q (-1 : Int32) v8))))))))))))))))) : RI E (d + 1) 161 0 [(0, .ref 80), (1, .int x1), (2, .int x2), (3, .int x3)] v Q := by
  unfold RI
  refine xr_blk (lv1 := [(0, .ref 80), (1, .int x1), (2, .int x2), (3, .int x3)]) (st1 := [.int (nI 3), .int (nI 0), .int x1]) (S1 := rt (v_I v 80 0 (nI 0))) (pc1 := 8) [(.aload_n 0, .null, 0, 0), (.iconst 0, .int (nI 0), 0, 0), (.putfield 190, .null, 12, 0), (.iload_n 1, .null, 0, 0), (.iconst 0, .int (nI 0), 0, 0), (.iconst 3, .int (nI 3), 0, 0)] [] (by decide +kernel) rfl trivial ?_
  refine xk_SI (As := [.int x1, .int (nI 0), .int (nI 3)]) (rest := []) (idx := 200) (i0 := 200) (m1 := 152) (ps := [1616, 1617]) (by decide +kernel) (by decide +kernel) (by decide) rfl (Nat.le_of_ble_eq_true rfl) rfl h (fun y2 v1 h => ?_)
  refine xr_if_eq (tgt := 60) (off := 49) (by decide +kernel) (by decide) (fun hc => ?_) (fun hc => ?_)
  · replace h := h.1 hc
    refine xr_blk (lv1 := [(0, .ref 80), (1, .int x1), (2, .int x2), (3, .int x3)]) (st1 := [.int (-1)]) (S1 := rt v1) (pc1 := 61) [(.iconst (-1), .int (-1), 0, 0)] [] (by decide +kernel) rfl trivial ?_
    exact xr_iret (by decide +kernel) rfl ⟨_, _, rfl, rfl, h⟩
  · replace h := h.2 hc
    refine xr_blk (lv1 := [(0, .ref 80), (1, .int x1), (2, .int x2), (3, .int x3)]) (st1 := [.int (nI 25), .int (nI 0), .int x2]) (S1 := rt v1) (pc1 := 18) [(.iload_n 2, .null, 0, 0), (.iconst 0, .int (nI 0), 0, 0), (.bipush 25, .int (nI 25), 0, 0)] [] (by decide +kernel) rfl trivial ?_
    refine xk_SI (As := [.int x2, .int (nI 0), .int (nI 25)]) (rest := []) (idx := 200) (i0 := 200) (m1 := 152) (ps := [1616, 1617]) (by decide +kernel) (by decide +kernel) (by decide) rfl (Nat.le_of_ble_eq_true rfl) rfl h (fun y4 v3 h => ?_)
    refine xr_if_eq (tgt := 60) (off := 39) (by decide +kernel) (by decide) (fun hc => ?_) (fun hc => ?_)
    · replace h := h.1 hc
      refine xr_blk (lv1 := [(0, .ref 80), (1, .int x1), (2, .int x2), (3, .int x3)]) (st1 := [.int (-1)]) (S1 := rt v3) (pc1 := 61) [(.iconst (-1), .int (-1), 0, 0)] [] (by decide +kernel) rfl trivial ?_
      exact xr_iret (by decide +kernel) rfl ⟨_, _, rfl, rfl, h⟩
    · replace h := h.2 hc
      refine xr_blk (lv1 := [(0, .ref 80), (1, .int x1), (2, .int x2), (3, .int x3)]) (st1 := [.int (nI 25), .int (nI 0), .int x3]) (S1 := rt v3) (pc1 := 28) [(.iload_n 3, .null, 0, 0), (.iconst 0, .int (nI 0), 0, 0), (.bipush 25, .int (nI 25), 0, 0)] [] (by decide +kernel) rfl trivial ?_
      refine xk_SI (As := [.int x3, .int (nI 0), .int (nI 25)]) (rest := []) (idx := 200) (i0 := 200) (m1 := 152) (ps := [1616, 1617]) (by decide +kernel) (by decide +kernel) (by decide) rfl (Nat.le_of_ble_eq_true rfl) rfl h (fun y6 v5 h => ?_)
      refine xr_if_eq (tgt := 60) (off := 29) (by decide +kernel) (by decide) (fun hc => ?_) (fun hc => ?_)
      · replace h := h.1 hc
        refine xr_blk (lv1 := [(0, .ref 80), (1, .int x1), (2, .int x2), (3, .int x3)]) (st1 := [.int (-1)]) (S1 := rt v5) (pc1 := 61) [(.iconst (-1), .int (-1), 0, 0)] [] (by decide +kernel) rfl trivial ?_
        exact xr_iret (by decide +kernel) rfl ⟨_, _, rfl, rfl, h⟩
      · replace h := h.2 hc
        refine xr_blk (lv1 := [(0, .ref 80), (1, .int x1), (2, .int x2), (3, .int x3)]) (st1 := [.int x3, .int x2]) (S1 := rt v5) (pc1 := 36) [(.iload_n 2, .null, 0, 0), (.iload_n 3, .null, 0, 0)] [] (by decide +kernel) rfl trivial ?_
        refine xr_ic_eq (tgt := 60) (off := 24) (by decide +kernel) (by decide) (fun hc => ?_) (fun hc => ?_)
        · replace h := h.1 hc
          refine xr_blk (lv1 := [(0, .ref 80), (1, .int x1), (2, .int x2), (3, .int x3)]) (st1 := [.int (-1)]) (S1 := rt v5) (pc1 := 61) [(.iconst (-1), .int (-1), 0, 0)] [] (by decide +kernel) rfl trivial ?_
          exact xr_iret (by decide +kernel) rfl ⟨_, _, rfl, rfl, h⟩
        · replace h := h.2 hc
          obtain ⟨hb7, h⟩ := h
          refine xr_blk (lv1 := [(0, .ref 80), (1, .int x1), (2, .int x2), (3, .int x3)]) (st1 := [.int (nI 12), .int ((gA v5 93) (x1).toNatClampNeg)]) (S1 := rt v5) (pc1 := 47) [(.aload_n 0, .null, 0, 0), (.getfield 50, .null, 12, 17), (.iload_n 1, .null, 0, 0), (.iaload, .null, 0, 0), (.bipush 12, .int (nI 12), 0, 0)] [(x1, 4)] (by decide +kernel) rfl ⟨hb7, trivial⟩ ?_
          refine xr_ic_eq (tgt := 60) (off := 13) (by decide +kernel) (by decide) (fun hc => ?_) (fun hc => ?_)
          · replace h := h.1 hc
            refine xr_blk (lv1 := [(0, .ref 80), (1, .int x1), (2, .int x2), (3, .int x3)]) (st1 := [.int (-1)]) (S1 := rt v5) (pc1 := 61) [(.iconst (-1), .int (-1), 0, 0)] [] (by decide +kernel) rfl trivial ?_
            exact xr_iret (by decide +kernel) rfl ⟨_, _, rfl, rfl, h⟩
          · replace h := h.2 hc
            refine xr_blk (lv1 := [(0, .ref 80), (1, .int x1), (2, .int x2), (3, .int x3)]) (st1 := [.int x3, .int x2, .int x1, .ref 80]) (S1 := rt v5) (pc1 := 54) [(.aload_n 0, .null, 0, 0), (.iload_n 1, .null, 0, 0), (.iload_n 2, .null, 0, 0), (.iload_n 3, .null, 0, 0)] [] (by decide +kernel) rfl trivial ?_
            refine xk_VI (As := [.int x1, .int x2, .int x3]) (bb := 80) (rest := []) (idx := 231) (i0 := 231) (m1 := 162) (ps := [1653, 1655, 60]) (by decide +kernel) (by decide +kernel) (by decide) rfl ((gK_s (by decide)).trans (by decide +kernel)) (by decide) (Nat.le_of_ble_eq_true rfl) rfl h (fun y9 v8 h => ?_)
            refine xr_if_eq (tgt := 62) (off := 5) (by decide +kernel) (by decide) (fun hc => ?_) (fun hc => ?_)
            · replace h := h.1 hc
              obtain ⟨hb10, h⟩ := h
              obtain ⟨hb11, h⟩ := h
              obtain ⟨hb12, h⟩ := h
              obtain ⟨hb13, h⟩ := h
              obtain ⟨hb14, h⟩ := h
              obtain ⟨hb15, h⟩ := h
              obtain ⟨hb16, h⟩ := h
              refine xr_blk (lv1 := [(0, .ref 80), (1, .int x1), (2, .int x2), (3, .int x3)]) (st1 := [.int ((upd (gA v8 93) (x1).toNatClampNeg (((gA v8 93) (x1).toNatClampNeg) + (nI 1))) (x1).toNatClampNeg)]) (S1 := rt (v_I (v_A (v_A (v_A v8 94 (upd (gA v8 94) ((((nI 12) * x1) + ((gA v8 93) (x1).toNatClampNeg))).toNatClampNeg x2)) 95 (upd (gA v8 95) ((((nI 12) * x1) + ((gA v8 93) (x1).toNatClampNeg))).toNatClampNeg x3)) 93 (upd (gA v8 93) (x1).toNatClampNeg (((gA v8 93) (x1).toNatClampNeg) + (nI 1)))) 80 6 ((gI v8 80 6) + (nI 1)))) (pc1 := 122) [(.aload_n 0, .null, 0, 0), (.getfield 53, .null, 12, 18), (.bipush 12, .int (nI 12), 0, 0), (.iload_n 1, .null, 0, 0), (.imul, .null, 0, 0), (.aload_n 0, .null, 0, 0), (.getfield 50, .null, 12, 17), (.iload_n 1, .null, 0, 0), (.iaload, .null, 0, 0), (.iadd, .null, 0, 0), (.iload_n 2, .null, 0, 0), (.iastore, .null, 0, 0), (.aload_n 0, .null, 0, 0), (.getfield 56, .null, 12, 19), (.bipush 12, .int (nI 12), 0, 0), (.iload_n 1, .null, 0, 0), (.imul, .null, 0, 0), (.aload_n 0, .null, 0, 0), (.getfield 50, .null, 12, 17), (.iload_n 1, .null, 0, 0), (.iaload, .null, 0, 0), (.iadd, .null, 0, 0), (.iload_n 3, .null, 0, 0), (.iastore, .null, 0, 0), (.aload_n 0, .null, 0, 0), (.getfield 50, .null, 12, 17), (.iload_n 1, .null, 0, 0), (.dup2, .null, 0, 0), (.iaload, .null, 0, 0), (.iconst 1, .int (nI 1), 0, 0), (.iadd, .null, 0, 0), (.iastore, .null, 0, 0), (.aload_n 0, .null, 0, 0), (.dup, .null, 0, 0), (.getfield 16, .null, 12, 6), (.iconst 1, .int (nI 1), 0, 0), (.iadd, .null, 0, 0), (.putfield 16, .null, 12, 6), (.aload_n 0, .null, 0, 0), (.getfield 50, .null, 12, 17), (.iload_n 1, .null, 0, 0), (.iaload, .null, 0, 0)] [(x1, 4), ((((nI 12) * x1) + ((gA v8 93) (x1).toNatClampNeg)), 48), (x1, 4), ((((nI 12) * x1) + ((gA v8 93) (x1).toNatClampNeg)), 48), (x1, 4), (x1, 4), (x1, 4)] (by decide +kernel) rfl ⟨hb10, hb11, hb12, hb13, hb14, hb15, hb16, trivial⟩ ?_
              exact xr_iret (by decide +kernel) rfl ⟨_, _, rfl, rfl, h⟩
            · replace h := h.2 hc
              refine xr_blk (lv1 := [(0, .ref 80), (1, .int x1), (2, .int x2), (3, .int x3)]) (st1 := [.int (-1)]) (S1 := rt v8) (pc1 := 61) [(.iconst (-1), .int (-1), 0, 0)] [] (by decide +kernel) rfl trivial ?_
              exact xr_iret (by decide +kernel) rfl ⟨_, _, rfl, rfl, h⟩
theorem ok_161 : x_mOK 161 := ⟨x_tm7 (List.mem_of_getElem? (i := 112) rfl) rfl, 114, by decide +kernel⟩
/-! X12_isHabit: method 162, ScrawlHouseModel.isHabit(III)Z -/
set_option maxRecDepth 100000 in
theorem w_X12_isHabit_0 {E : Nat × (Nat → Int32)} {d : Nat} {v : xV} {x1 : Int32} {x2 : Int32} {x3 : Int32} {Q : Int32 → xV → Prop} (h : RI E d 162 3 [(0, .ref 80), (1, .int x1), (2, .int x2), (3, .int x3), (4, .int (nI 0))] v Q) : RI E d 162 0 [(0, .ref 80), (1, .int x1), (2, .int x2), (3, .int x3)] v Q := by
  unfold RI
  refine xr_blk (lv1 := [(4, .int (nI 0)), (0, .ref 80), (1, .int x1), (2, .int x2), (3, .int x3)]) (st1 := []) (S1 := rt v) (pc1 := 3) [(.iconst 0, .int (nI 0), 0, 0), (.istore 4, .null, 0, 0)] [] (by decide +kernel) rfl trivial ?_
  exact x_R.sub [1, 2, 3, 4, 0] rfl h
set_option maxRecDepth 100000 in
theorem w_X12_isHabit_3 {E : Nat × (Nat → Int32)} {d : Nat} {v : xV} {x1 : Int32} {x2 : Int32} {x3 : Int32} {x4 : Int32} {Q : Int32 → xV → Prop} (h : vp_in x1 4 ∧ ((((gA v 93) (x1).toNatClampNeg) ≤ x4 → Q (nI 0) v) ∧ (¬ ((gA v 93) (x1).toNatClampNeg) ≤ x4 → vp_in (((nI 12) * x1) + x4) 48 ∧ ((¬ ((gA v 94) ((((nI 12) * x1) + x4)).toNatClampNeg) = x2 → RI E d 162 3 [(0, .ref 80), (1, .int x1), (2, .int x2), (3, .int x3), (4, .int (x4 + (nI 1)))] v Q) ∧ (((gA v 94) ((((nI 12) * x1) + x4)).toNatClampNeg) = x2 → vp_in (((nI 12) * x1) + x4) 48 ∧ ((¬ ((gA v 95) ((((nI 12) * x1) + x4)).toNatClampNeg) = x3 → RI E d 162 3 [(0, .ref 80), (1, .int x1), (2, .int x2), (3, .int x3), (4, .int (x4 + (nI 1)))] v Q) ∧ (((gA v 95) ((((nI 12) * x1) + x4)).toNatClampNeg) = x3 → Q (nI 1) v))))))) : RI E d 162 3 [(0, .ref 80), (1, .int x1), (2, .int x2), (3, .int x3), (4, .int x4)] v Q := by
  unfold RI
  obtain ⟨hb1, h⟩ := h
  refine xr_blk (lv1 := [(0, .ref 80), (1, .int x1), (2, .int x2), (3, .int x3), (4, .int x4)]) (st1 := [.int ((gA v 93) (x1).toNatClampNeg), .int x4]) (S1 := rt v) (pc1 := 11) [(.iload 4, .null, 0, 0), (.aload_n 0, .null, 0, 0), (.getfield 50, .null, 12, 17), (.iload_n 1, .null, 0, 0), (.iaload, .null, 0, 0)] [(x1, 4)] (by decide +kernel) rfl ⟨hb1, trivial⟩ ?_
  refine xr_ic_ge (tgt := 54) (off := 43) (by decide +kernel) (by decide) (fun hc => ?_) (fun hc => ?_)
  · replace h := h.1 hc
    refine xr_blk (lv1 := [(0, .ref 80), (1, .int x1), (2, .int x2), (3, .int x3), (4, .int x4)]) (st1 := [.int (nI 0)]) (S1 := rt v) (pc1 := 55) [(.iconst 0, .int (nI 0), 0, 0)] [] (by decide +kernel) rfl trivial ?_
    exact xr_zret (by decide +kernel) rfl x_in2_0 ⟨_, _, rfl, rfl, h⟩
  · replace h := h.2 hc
    obtain ⟨hb2, h⟩ := h
    refine xr_blk (lv1 := [(0, .ref 80), (1, .int x1), (2, .int x2), (3, .int x3), (4, .int x4)]) (st1 := [.int x2, .int ((gA v 94) ((((nI 12) * x1) + x4)).toNatClampNeg)]) (S1 := rt v) (pc1 := 27) [(.aload_n 0, .null, 0, 0), (.getfield 53, .null, 12, 18), (.bipush 12, .int (nI 12), 0, 0), (.iload_n 1, .null, 0, 0), (.imul, .null, 0, 0), (.iload 4, .null, 0, 0), (.iadd, .null, 0, 0), (.iaload, .null, 0, 0), (.iload_n 2, .null, 0, 0)] [((((nI 12) * x1) + x4), 48)] (by decide +kernel) rfl ⟨hb2, trivial⟩ ?_
    refine xr_ic_ne (tgt := 48) (off := 21) (by decide +kernel) (by decide) (fun hc => ?_) (fun hc => ?_)
    · replace h := h.1 hc
      refine xr_blk (lv1 := [(4, .int (x4 + (nI 1))), (0, .ref 80), (1, .int x1), (2, .int x2), (3, .int x3)]) (st1 := []) (S1 := rt v) (pc1 := 51) [(.iinc 4 1, .int (nI 1), 0, 0)] [] (by decide +kernel) rfl trivial ?_
      refine xr_goto (tgt := 3) (off := -48) (by decide +kernel) (by decide) ?_
      exact x_R.sub [1, 2, 3, 4, 0] rfl h
    · replace h := h.2 hc
      obtain ⟨hb3, h⟩ := h
      refine xr_blk (lv1 := [(0, .ref 80), (1, .int x1), (2, .int x2), (3, .int x3), (4, .int x4)]) (st1 := [.int x3, .int ((gA v 95) ((((nI 12) * x1) + x4)).toNatClampNeg)]) (S1 := rt v) (pc1 := 43) [(.aload_n 0, .null, 0, 0), (.getfield 56, .null, 12, 19), (.bipush 12, .int (nI 12), 0, 0), (.iload_n 1, .null, 0, 0), (.imul, .null, 0, 0), (.iload 4, .null, 0, 0), (.iadd, .null, 0, 0), (.iaload, .null, 0, 0), (.iload_n 3, .null, 0, 0)] [((((nI 12) * x1) + x4), 48)] (by decide +kernel) rfl ⟨hb3, trivial⟩ ?_
      refine xr_ic_ne (tgt := 48) (off := 5) (by decide +kernel) (by decide) (fun hc => ?_) (fun hc => ?_)
      · replace h := h.1 hc
        refine xr_blk (lv1 := [(4, .int (x4 + (nI 1))), (0, .ref 80), (1, .int x1), (2, .int x2), (3, .int x3)]) (st1 := []) (S1 := rt v) (pc1 := 51) [(.iinc 4 1, .int (nI 1), 0, 0)] [] (by decide +kernel) rfl trivial ?_
        refine xr_goto (tgt := 3) (off := -48) (by decide +kernel) (by decide) ?_
        exact x_R.sub [1, 2, 3, 4, 0] rfl h
      · replace h := h.2 hc
        refine xr_blk (lv1 := [(0, .ref 80), (1, .int x1), (2, .int x2), (3, .int x3), (4, .int x4)]) (st1 := [.int (nI 1)]) (S1 := rt v) (pc1 := 47) [(.iconst 1, .int (nI 1), 0, 0)] [] (by decide +kernel) rfl trivial ?_
        exact xr_zret (by decide +kernel) rfl x_in2_1 ⟨_, _, rfl, rfl, h⟩
theorem ok_162 : x_mOK 162 := ⟨x_tm7 (List.mem_of_getElem? (i := 116) rfl) rfl, 114, by decide +kernel⟩
/-! X12_go: method 163, ScrawlHouseModel.go()V -/
set_option maxRecDepth 100000 in
theorem w_X12_go_0 {E : Nat × (Nat → Int32)} {d : Nat} {v : xV} {Q : xV → Prop} (h : (((gI v 80 23) ≤ (gI v 80 24) → RV E (d + 1) 163 52 [(0, .ref 80)] v Q) ∧ (¬ (gI v 80 23) ≤ (gI v 80 24) → vp_in (gI v 80 24) 240 ∧ ((((gA v 81) ((gI v 80 24)).toNatClampNeg) = (nI 32) → RV E (d + 1) 163 39 [(0, .ref 80)] v Q) ∧ (¬ ((gA v 81) ((gI v 80 24)).toNatClampNeg) = (nI 32) → vp_in (gI v 80 24) 240 ∧ ((¬ ((gA v 81) ((gI v 80 24)).toNatClampNeg) = (nI 10) → RV E (d + 1) 163 52 [(0, .ref 80)] v Q) ∧ (((gA v 81) ((gI v 80 24)).toNatClampNeg) = (nI 10) → RV E (d + 1) 163 39 [(0, .ref 80)] v Q))))))) : RV E (d + 1) 163 0 [(0, .ref 80)] v Q := by
  unfold RV
  refine xr_blk (lv1 := [(0, .ref 80)]) (st1 := [.int (gI v 80 23), .int (gI v 80 24)]) (S1 := rt v) (pc1 := 8) [(.aload_n 0, .null, 0, 0), (.getfield 234, .null, 12, 24), (.aload_n 0, .null, 0, 0), (.getfield 237, .null, 12, 23)] [] (by decide +kernel) rfl trivial ?_
  refine xr_ic_ge (tgt := 52) (off := 44) (by decide +kernel) (by decide) (fun hc => ?_) (fun hc => ?_)
  · replace h := h.1 hc
    exact x_R.sub [0] rfl h
  · replace h := h.2 hc
    obtain ⟨hb1, h⟩ := h
    refine xr_blk (lv1 := [(0, .ref 80)]) (st1 := [.int (nI 32), .int ((gA v 81) ((gI v 80 24)).toNatClampNeg)]) (S1 := rt v) (pc1 := 22) [(.aload_n 0, .null, 0, 0), (.getfield 7, .null, 12, 1), (.aload_n 0, .null, 0, 0), (.getfield 234, .null, 12, 24), (.iaload, .null, 0, 0), (.bipush 32, .int (nI 32), 0, 0)] [((gI v 80 24), 240)] (by decide +kernel) rfl ⟨hb1, trivial⟩ ?_
    refine xr_ic_eq (tgt := 39) (off := 17) (by decide +kernel) (by decide) (fun hc => ?_) (fun hc => ?_)
    · replace h := h.1 hc
      exact x_R.sub [0] rfl h
    · replace h := h.2 hc
      obtain ⟨hb2, h⟩ := h
      refine xr_blk (lv1 := [(0, .ref 80)]) (st1 := [.int (nI 10), .int ((gA v 81) ((gI v 80 24)).toNatClampNeg)]) (S1 := rt v) (pc1 := 36) [(.aload_n 0, .null, 0, 0), (.getfield 7, .null, 12, 1), (.aload_n 0, .null, 0, 0), (.getfield 234, .null, 12, 24), (.iaload, .null, 0, 0), (.bipush 10, .int (nI 10), 0, 0)] [((gI v 80 24), 240)] (by decide +kernel) rfl ⟨hb2, trivial⟩ ?_
      refine xr_ic_ne (tgt := 52) (off := 16) (by decide +kernel) (by decide) (fun hc => ?_) (fun hc => ?_)
      · replace h := h.1 hc
        exact x_R.sub [0] rfl h
      · replace h := h.2 hc
        exact x_R.sub [0] rfl h
set_option maxRecDepth 100000 in
theorem w_X12_go_39 {E : Nat × (Nat → Int32)} {d : Nat} {v : xV} {Q : xV → Prop} (h : RV E (d + 1) 163 0 [(0, .ref 80)] (v_I v 80 24 ((gI v 80 24) + (nI 1))) Q) : RV E (d + 1) 163 39 [(0, .ref 80)] v Q := by
  unfold RV
  refine xr_blk (lv1 := [(0, .ref 80)]) (st1 := []) (S1 := rt (v_I v 80 24 ((gI v 80 24) + (nI 1)))) (pc1 := 49) [(.aload_n 0, .null, 0, 0), (.dup, .null, 0, 0), (.getfield 234, .null, 12, 24), (.iconst 1, .int (nI 1), 0, 0), (.iadd, .null, 0, 0), (.putfield 234, .null, 12, 24)] [] (by decide +kernel) rfl trivial ?_
  refine xr_goto (tgt := 0) (off := -49) (by decide +kernel) (by decide) ?_
  exact x_R.sub [0] rfl h
set_option maxRecDepth 100000 in
theorem w_X12_go_52 {E : Nat × (Nat → Int32)} {d : Nat} {v : xV} {Q : xV → Prop} (h : (((gI v 80 23) ≤ (nI 200) → RV E (d + 1) 163 93 [(0, .ref 80)] (v_I v 80 25 (gI v 80 24)) Q) ∧ (¬ (gI v 80 23) ≤ (nI 200) → (((gI v 80 24) < (nI 200) → RV E (d + 1) 163 93 [(0, .ref 80)] (v_I v 80 25 (gI v 80 24)) Q) ∧ (¬ (gI v 80 24) < (nI 200) → Q (v_I (v_I (v_I v 80 25 (gI v 80 24)) 80 25 (nI 200)) 80 26 (nI 1))))))) : RV E (d + 1) 163 52 [(0, .ref 80)] v Q := by
  unfold RV
  refine xr_blk (lv1 := [(0, .ref 80)]) (st1 := [.int (nI 200), .int (gI v 80 23)]) (S1 := rt (v_I v 80 25 (gI v 80 24))) (pc1 := 67) [(.aload_n 0, .null, 0, 0), (.aload_n 0, .null, 0, 0), (.getfield 234, .null, 12, 24), (.putfield 240, .null, 12, 25), (.aload_n 0, .null, 0, 0), (.getfield 237, .null, 12, 23), (.sipush 200, .int (nI 200), 0, 0)] [] (by decide +kernel) rfl trivial ?_
  refine xr_ic_le (tgt := 93) (off := 26) (by decide +kernel) (by decide) (fun hc => ?_) (fun hc => ?_)
  · replace h := h.1 hc
    exact x_R.sub [0] rfl h
  · replace h := h.2 hc
    refine xr_blk (lv1 := [(0, .ref 80)]) (st1 := [.int (nI 200), .int (gI v 80 24)]) (S1 := rt (v_I v 80 25 (gI v 80 24))) (pc1 := 77) [(.aload_n 0, .null, 0, 0), (.getfield 240, .null, 12, 25), (.sipush 200, .int (nI 200), 0, 0)] [] (by decide +kernel) rfl trivial ?_
    refine xr_ic_lt (tgt := 93) (off := 16) (by decide +kernel) (by decide) (fun hc => ?_) (fun hc => ?_)
    · replace h := h.1 hc
      exact x_R.sub [0] rfl h
    · replace h := h.2 hc
      refine xr_blk (lv1 := [(0, .ref 80)]) (st1 := []) (S1 := rt (v_I (v_I (v_I v 80 25 (gI v 80 24)) 80 25 (nI 200)) 80 26 (nI 1))) (pc1 := 92) [(.aload_n 0, .null, 0, 0), (.sipush 200, .int (nI 200), 0, 0), (.putfield 240, .null, 12, 25), (.aload_n 0, .null, 0, 0), (.iconst 1, .int (nI 1), 0, 0), (.putfield 243, .null, 12, 26)] [] (by decide +kernel) rfl trivial ?_
      exact xr_ret0 (by decide +kernel) rfl ⟨_, rfl, rfl, h⟩
set_option maxRecDepth 100000 in
theorem w_X12_go_93 {E : Nat × (Nat → Int32)} {d : Nat} {v : xV} {Q : xV → Prop} (h : (((gI v 80 24) < (gI v 80 23) → vp_in (gI v 80 24) 240 ∧ ∀ y2 : Int32, y2 = ((gA v 81) ((gI v 80 24)).toNatClampNeg) → KI E d 154 [.int y2] v (fun y4 v3 => ((¬ y4 = (nI 0) → RV E (d + 1) 163 168 [(0, .ref 80)] (v_L v3 80 32 (0 : Int64)) Q) ∧ (y4 = (nI 0) → ((¬ y2 = (nI 63) → ((¬ y2 = (nI 59) → Q (v_I (v_I v3 80 26 (nI 1)) 80 24 ((gI v3 80 24) + (nI 1)))) ∧ (y2 = (nI 59) → Q (v_I (v_I v3 80 26 (nI 4)) 80 24 ((gI v3 80 24) + (nI 1)))))) ∧ (y2 = (nI 63) → Q (v_I (v_I v3 80 26 (nI 3)) 80 24 ((gI v3 80 24) + (nI 1))))))))) ∧ (¬ (gI v 80 24) < (gI v 80 23) → Q (v_I v 80 26 (nI 0))))) : RV E (d + 1) 163 93 [(0, .ref 80)] v Q := by
  unfold RV
  refine xr_blk (lv1 := [(0, .ref 80)]) (st1 := [.int (gI v 80 23), .int (gI v 80 24)]) (S1 := rt v) (pc1 := 101) [(.aload_n 0, .null, 0, 0), (.getfield 234, .null, 12, 24), (.aload_n 0, .null, 0, 0), (.getfield 237, .null, 12, 23)] [] (by decide +kernel) rfl trivial ?_
  refine xr_ic_lt (tgt := 110) (off := 9) (by decide +kernel) (by decide) (fun hc => ?_) (fun hc => ?_)
  · replace h := h.1 hc
    obtain ⟨hb1, h⟩ := h
    refine xr_blk (lv1 := [(0, .ref 80)]) (st1 := [.int ((gA v 81) ((gI v 80 24)).toNatClampNeg)]) (S1 := rt v) (pc1 := 119) [(.aload_n 0, .null, 0, 0), (.getfield 7, .null, 12, 1), (.aload_n 0, .null, 0, 0), (.getfield 234, .null, 12, 24), (.iaload, .null, 0, 0)] [((gI v 80 24), 240)] (by decide +kernel) rfl ⟨hb1, trivial⟩ ?_
    refine xr_topi (fun y2 ey2 => ?_)
    replace h := h y2 ey2
    refine xr_blk (lv1 := [(1, .int y2), (0, .ref 80)]) (st1 := [.int y2]) (S1 := rt v) (pc1 := 121) [(.istore_n 1, .null, 0, 0), (.iload_n 1, .null, 0, 0)] [] (by decide +kernel) rfl trivial ?_
    refine xk_SI (As := [.int y2]) (rest := []) (idx := 214) (i0 := 214) (m1 := 154) (ps := [1631, 1632]) (by decide +kernel) (by decide +kernel) (by decide) rfl (Nat.le_of_ble_eq_true rfl) rfl h (fun y4 v3 h => ?_)
    refine xr_if_ne (tgt := 163) (off := 39) (by decide +kernel) (by decide) (fun hc => ?_) (fun hc => ?_)
    · replace h := h.1 hc
      refine xr_blk (lv1 := [(1, .int y2), (0, .ref 80)]) (st1 := []) (S1 := rt (v_L v3 80 32 (0 : Int64))) (pc1 := 168) [(.aload_n 0, .null, 0, 0), (.lconst 0, .long 0, 0, 0), (.putfield 246, .null, 12, 32)] [] (by decide +kernel) rfl trivial ?_
      exact x_R.sub [1] rfl h
    · replace h := h.2 hc
      refine xr_blk (lv1 := [(1, .int y2), (0, .ref 80)]) (st1 := [.int (nI 63), .int y2, .ref 80]) (S1 := rt v3) (pc1 := 131) [(.aload_n 0, .null, 0, 0), (.iload_n 1, .null, 0, 0), (.bipush 63, .int (nI 63), 0, 0)] [] (by decide +kernel) rfl trivial ?_
      refine xr_ic_ne (tgt := 138) (off := 7) (by decide +kernel) (by decide) (fun hc => ?_) (fun hc => ?_)
      · replace h := h.1 hc
        refine xr_blk (lv1 := [(1, .int y2), (0, .ref 80)]) (st1 := [.int (nI 59), .int y2, .ref 80]) (S1 := rt v3) (pc1 := 141) [(.iload_n 1, .null, 0, 0), (.bipush 59, .int (nI 59), 0, 0)] [] (by decide +kernel) rfl trivial ?_
        refine xr_ic_ne (tgt := 148) (off := 7) (by decide +kernel) (by decide) (fun hc => ?_) (fun hc => ?_)
        · replace h := h.1 hc
          refine xr_blk (lv1 := [(1, .int y2), (0, .ref 80)]) (st1 := []) (S1 := rt (v_I (v_I v3 80 26 (nI 1)) 80 24 ((gI v3 80 24) + (nI 1)))) (pc1 := 162) [(.iconst 1, .int (nI 1), 0, 0), (.putfield 243, .null, 12, 26), (.aload_n 0, .null, 0, 0), (.dup, .null, 0, 0), (.getfield 234, .null, 12, 24), (.iconst 1, .int (nI 1), 0, 0), (.iadd, .null, 0, 0), (.putfield 234, .null, 12, 24)] [] (by decide +kernel) rfl trivial ?_
          exact xr_ret0 (by decide +kernel) rfl ⟨_, rfl, rfl, h⟩
        · replace h := h.2 hc
          refine xr_blk (lv1 := [(1, .int y2), (0, .ref 80)]) (st1 := [.int (nI 4), .ref 80]) (S1 := rt v3) (pc1 := 145) [(.iconst 4, .int (nI 4), 0, 0)] [] (by decide +kernel) rfl trivial ?_
          refine xr_goto (tgt := 149) (off := 4) (by decide +kernel) (by decide) ?_
          refine xr_blk (lv1 := [(1, .int y2), (0, .ref 80)]) (st1 := []) (S1 := rt (v_I (v_I v3 80 26 (nI 4)) 80 24 ((gI v3 80 24) + (nI 1)))) (pc1 := 162) [(.putfield 243, .null, 12, 26), (.aload_n 0, .null, 0, 0), (.dup, .null, 0, 0), (.getfield 234, .null, 12, 24), (.iconst 1, .int (nI 1), 0, 0), (.iadd, .null, 0, 0), (.putfield 234, .null, 12, 24)] [] (by decide +kernel) rfl trivial ?_
          exact xr_ret0 (by decide +kernel) rfl ⟨_, rfl, rfl, h⟩
      · replace h := h.2 hc
        refine xr_blk (lv1 := [(1, .int y2), (0, .ref 80)]) (st1 := [.int (nI 3), .ref 80]) (S1 := rt v3) (pc1 := 135) [(.iconst 3, .int (nI 3), 0, 0)] [] (by decide +kernel) rfl trivial ?_
        refine xr_goto (tgt := 149) (off := 14) (by decide +kernel) (by decide) ?_
        refine xr_blk (lv1 := [(1, .int y2), (0, .ref 80)]) (st1 := []) (S1 := rt (v_I (v_I v3 80 26 (nI 3)) 80 24 ((gI v3 80 24) + (nI 1)))) (pc1 := 162) [(.putfield 243, .null, 12, 26), (.aload_n 0, .null, 0, 0), (.dup, .null, 0, 0), (.getfield 234, .null, 12, 24), (.iconst 1, .int (nI 1), 0, 0), (.iadd, .null, 0, 0), (.putfield 234, .null, 12, 24)] [] (by decide +kernel) rfl trivial ?_
        exact xr_ret0 (by decide +kernel) rfl ⟨_, rfl, rfl, h⟩
  · replace h := h.2 hc
    refine xr_blk (lv1 := [(0, .ref 80)]) (st1 := []) (S1 := rt (v_I v 80 26 (nI 0))) (pc1 := 109) [(.aload_n 0, .null, 0, 0), (.iconst 0, .int (nI 0), 0, 0), (.putfield 243, .null, 12, 26)] [] (by decide +kernel) rfl trivial ?_
    exact xr_ret0 (by decide +kernel) rfl ⟨_, rfl, rfl, h⟩
set_option maxRecDepth 100000 in
theorem w_X12_go_168 {E : Nat × (Nat → Int32)} {d : Nat} {v : xV} {Q : xV → Prop} (h : (((gI v 80 23) ≤ (gI v 80 24) → RV E (d + 1) 163 254 [(0, .ref 80)] v Q) ∧ (¬ (gI v 80 23) ≤ (gI v 80 24) → vp_in (gI v 80 24) 240 ∧ KI E d 154 [.int ((gA v 81) ((gI v 80 24)).toNatClampNeg)] v (fun y3 v2 => ((y3 = (nI 0) → RV E (d + 1) 163 254 [(0, .ref 80)] v2 Q) ∧ (¬ y3 = (nI 0) → (((nI 7) ≤ ((gI v2 80 24) - (gI v2 80 25)) → RV E (d + 1) 163 168 [(0, .ref 80)] (v_I (v_L v2 80 32 (-1 : Int64)) 80 24 ((gI v2 80 24) + (nI 1))) Q) ∧ (¬ (nI 7) ≤ ((gI v2 80 24) - (gI v2 80 25)) → vp_in (gI v2 80 24) 240 ∧ RV E (d + 1) 163 168 [(0, .ref 80)] (v_I (v_L v2 80 32 ((((27 : Int64) * (gL v2 80 32)) + (((gA v2 81) ((gI v2 80 24)).toNatClampNeg)).toInt64) - (96 : Int64))) 80 24 ((gI v2 80 24) + (nI 1))) Q)))))))) : RV E (d + 1) 163 168 [(0, .ref 80)] v Q := by
  unfold RV
  refine xr_blk (lv1 := [(0, .ref 80)]) (st1 := [.int (gI v 80 23), .int (gI v 80 24)]) (S1 := rt v) (pc1 := 176) [(.aload_n 0, .null, 0, 0), (.getfield 234, .null, 12, 24), (.aload_n 0, .null, 0, 0), (.getfield 237, .null, 12, 23)] [] (by decide +kernel) rfl trivial ?_
  refine xr_ic_ge (tgt := 254) (off := 78) (by decide +kernel) (by decide) (fun hc => ?_) (fun hc => ?_)
  · replace h := h.1 hc
    exact x_R.sub [0] rfl h
  · replace h := h.2 hc
    obtain ⟨hb1, h⟩ := h
    refine xr_blk (lv1 := [(0, .ref 80)]) (st1 := [.int ((gA v 81) ((gI v 80 24)).toNatClampNeg)]) (S1 := rt v) (pc1 := 188) [(.aload_n 0, .null, 0, 0), (.getfield 7, .null, 12, 1), (.aload_n 0, .null, 0, 0), (.getfield 234, .null, 12, 24), (.iaload, .null, 0, 0)] [((gI v 80 24), 240)] (by decide +kernel) rfl ⟨hb1, trivial⟩ ?_
    refine xk_SI (As := [.int ((gA v 81) ((gI v 80 24)).toNatClampNeg)]) (rest := []) (idx := 214) (i0 := 214) (m1 := 154) (ps := [1631, 1632]) (by decide +kernel) (by decide +kernel) (by decide) rfl (Nat.le_of_ble_eq_true rfl) rfl h (fun y3 v2 h => ?_)
    refine xr_if_eq (tgt := 254) (off := 63) (by decide +kernel) (by decide) (fun hc => ?_) (fun hc => ?_)
    · replace h := h.1 hc
      exact x_R.sub [0] rfl h
    · replace h := h.2 hc
      refine xr_blk (lv1 := [(0, .ref 80)]) (st1 := [.int (nI 7), .int ((gI v2 80 24) - (gI v2 80 25)), .ref 80]) (S1 := rt v2) (pc1 := 206) [(.aload_n 0, .null, 0, 0), (.aload_n 0, .null, 0, 0), (.getfield 234, .null, 12, 24), (.aload_n 0, .null, 0, 0), (.getfield 240, .null, 12, 25), (.isub, .null, 0, 0), (.bipush 7, .int (nI 7), 0, 0)] [] (by decide +kernel) rfl trivial ?_
      refine xr_ic_ge (tgt := 235) (off := 29) (by decide +kernel) (by decide) (fun hc => ?_) (fun hc => ?_)
      · replace h := h.1 hc
        refine xr_blk (lv1 := [(0, .ref 80)]) (st1 := []) (S1 := rt (v_I (v_L v2 80 32 (-1 : Int64)) 80 24 ((gI v2 80 24) + (nI 1)))) (pc1 := 251) [(.ldc2_w 254, .long (-1), 0, 0), (.putfield 246, .null, 12, 32), (.aload_n 0, .null, 0, 0), (.dup, .null, 0, 0), (.getfield 234, .null, 12, 24), (.iconst 1, .int (nI 1), 0, 0), (.iadd, .null, 0, 0), (.putfield 234, .null, 12, 24)] [] (by decide +kernel) rfl trivial ?_
        refine xr_goto (tgt := 168) (off := -83) (by decide +kernel) (by decide) ?_
        exact x_R.sub [0] rfl h
      · replace h := h.2 hc
        obtain ⟨hb4, h⟩ := h
        refine xr_blk (lv1 := [(0, .ref 80)]) (st1 := [.long ((((27 : Int64) * (gL v2 80 32)) + (((gA v2 81) ((gI v2 80 24)).toNatClampNeg)).toInt64) - (96 : Int64)), .ref 80]) (S1 := rt v2) (pc1 := 232) [(.ldc2_w 250, .long 27, 0, 0), (.aload_n 0, .null, 0, 0), (.getfield 246, .null, 12, 32), (.lmul, .null, 0, 0), (.aload_n 0, .null, 0, 0), (.getfield 7, .null, 12, 1), (.aload_n 0, .null, 0, 0), (.getfield 234, .null, 12, 24), (.iaload, .null, 0, 0), (.i2l, .null, 0, 0), (.ladd, .null, 0, 0), (.ldc2_w 252, .long 96, 0, 0), (.lsub, .null, 0, 0)] [((gI v2 80 24), 240)] (by decide +kernel) rfl ⟨hb4, trivial⟩ ?_
        refine xr_goto (tgt := 238) (off := 6) (by decide +kernel) (by decide) ?_
        refine xr_blk (lv1 := [(0, .ref 80)]) (st1 := []) (S1 := rt (v_I (v_L v2 80 32 ((((27 : Int64) * (gL v2 80 32)) + (((gA v2 81) ((gI v2 80 24)).toNatClampNeg)).toInt64) - (96 : Int64))) 80 24 ((gI v2 80 24) + (nI 1)))) (pc1 := 251) [(.putfield 246, .null, 12, 32), (.aload_n 0, .null, 0, 0), (.dup, .null, 0, 0), (.getfield 234, .null, 12, 24), (.iconst 1, .int (nI 1), 0, 0), (.iadd, .null, 0, 0), (.putfield 234, .null, 12, 24)] [] (by decide +kernel) rfl trivial ?_
        refine xr_goto (tgt := 168) (off := -83) (by decide +kernel) (by decide) ?_
        exact x_R.sub [0] rfl h
set_option maxRecDepth 100000 in
theorem w_X12_go_254 {E : Nat × (Nat → Int32)} {d : Nat} {v : xV} {Q : xV → Prop} (h : Q (v_I v 80 26 (nI 2))) : RV E (d + 1) 163 254 [(0, .ref 80)] v Q := by
  unfold RV
  refine xr_blk (lv1 := [(0, .ref 80)]) (st1 := []) (S1 := rt (v_I v 80 26 (nI 2))) (pc1 := 259) [(.aload_n 0, .null, 0, 0), (.iconst 2, .int (nI 2), 0, 0), (.putfield 243, .null, 12, 26)] [] (by decide +kernel) rfl trivial ?_
  exact xr_ret0 (by decide +kernel) rfl ⟨_, rfl, rfl, h⟩
theorem ok_163 : x_mOK 163 := ⟨x_tm7 (List.mem_of_getElem? (i := 124) rfl) rfl, 114, by decide +kernel⟩
/-! X12_spelt: method 164, ScrawlHouseModel.spelt(IIIII)J -/
set_option maxRecDepth 100000 in
theorem w_X12_spelt_0 {E : Nat × (Nat → Int32)} {d : Nat} {v : xV} {x0 : Int32} {x1 : Int32} {x2 : Int32} {x3 : Int32} {x4 : Int32} {Q : Int64 → xV → Prop} (h : ∀ y1 : Int64, y1 = ((((27 : Int64) * ((((27 : Int64) * ((((27 : Int64) * ((x0).toInt64 - (96 : Int64))) + (x1).toInt64) - (96 : Int64))) + (x2).toInt64) - (96 : Int64))) + (x3).toInt64) - (96 : Int64)) → ((x4 ≤ (nI 0) → Q y1 v) ∧ (¬ x4 ≤ (nI 0) → Q ((((27 : Int64) * y1) + (x4).toInt64) - (96 : Int64)) v))) : RJ E d 164 0 [(0, .int x0), (1, .int x1), (2, .int x2), (3, .int x3), (4, .int x4)] v Q := by
  unfold RJ
  refine xr_blk (lv1 := [(0, .int x0), (1, .int x1), (2, .int x2), (3, .int x3), (4, .int x4)]) (st1 := [.long ((((27 : Int64) * ((((27 : Int64) * ((((27 : Int64) * ((x0).toInt64 - (96 : Int64))) + (x1).toInt64) - (96 : Int64))) + (x2).toInt64) - (96 : Int64))) + (x3).toInt64) - (96 : Int64))]) (S1 := rt v) (pc1 := 39) [(.ldc2_w 250, .long 27, 0, 0), (.ldc2_w 250, .long 27, 0, 0), (.ldc2_w 250, .long 27, 0, 0), (.iload_n 0, .null, 0, 0), (.i2l, .null, 0, 0), (.ldc2_w 252, .long 96, 0, 0), (.lsub, .null, 0, 0), (.lmul, .null, 0, 0), (.iload_n 1, .null, 0, 0), (.i2l, .null, 0, 0), (.ladd, .null, 0, 0), (.ldc2_w 252, .long 96, 0, 0), (.lsub, .null, 0, 0), (.lmul, .null, 0, 0), (.iload_n 2, .null, 0, 0), (.i2l, .null, 0, 0), (.ladd, .null, 0, 0), (.ldc2_w 252, .long 96, 0, 0), (.lsub, .null, 0, 0), (.lmul, .null, 0, 0), (.iload_n 3, .null, 0, 0), (.i2l, .null, 0, 0), (.ladd, .null, 0, 0), (.ldc2_w 252, .long 96, 0, 0), (.lsub, .null, 0, 0)] [] (by decide +kernel) rfl trivial ?_
  refine xr_topl (fun y1 ey1 => ?_)
  replace h := h y1 ey1
  refine xr_blk (lv1 := [(5, .long y1), (0, .int x0), (1, .int x1), (2, .int x2), (3, .int x3), (4, .int x4)]) (st1 := [.int x4]) (S1 := rt v) (pc1 := 43) [(.lstore 5, .null, 0, 0), (.iload 4, .null, 0, 0)] [] (by decide +kernel) rfl trivial ?_
  refine xr_if_le (tgt := 63) (off := 20) (by decide +kernel) (by decide) (fun hc => ?_) (fun hc => ?_)
  · replace h := h.1 hc
    refine xr_blk (lv1 := [(5, .long y1), (0, .int x0), (1, .int x1), (2, .int x2), (3, .int x3), (4, .int x4)]) (st1 := [.long y1]) (S1 := rt v) (pc1 := 65) [(.lload 5, .null, 0, 0)] [] (by decide +kernel) rfl trivial ?_
    exact xr_lret (by decide +kernel) rfl ⟨_, _, rfl, rfl, h⟩
  · replace h := h.2 hc
    refine xr_blk (lv1 := [(5, .long y1), (0, .int x0), (1, .int x1), (2, .int x2), (3, .int x3), (4, .int x4)]) (st1 := [.long ((((27 : Int64) * y1) + (x4).toInt64) - (96 : Int64))]) (S1 := rt v) (pc1 := 60) [(.ldc2_w 250, .long 27, 0, 0), (.lload 5, .null, 0, 0), (.lmul, .null, 0, 0), (.iload 4, .null, 0, 0), (.i2l, .null, 0, 0), (.ladd, .null, 0, 0), (.ldc2_w 252, .long 96, 0, 0), (.lsub, .null, 0, 0)] [] (by decide +kernel) rfl trivial ?_
    refine xr_goto (tgt := 65) (off := 5) (by decide +kernel) (by decide) ?_
    exact xr_lret (by decide +kernel) rfl ⟨_, _, rfl, rfl, h⟩
theorem ok_164 : x_mOK 164 := ⟨x_tm7 (List.mem_of_getElem? (i := 138) rfl) rfl, 114, by decide +kernel⟩
/-! X12_sortAtHand: method 165, ScrawlHouseModel.sortAtHand()I -/
set_option maxRecDepth 100000 in
theorem w_X12_sortAtHand_0 {E : Nat × (Nat → Int32)} {d : Nat} {v : xV} {Q : Int32 → xV → Prop} (h : (((gI v 80 26) = (nI 2) → KJ E d 164 [.int (nI 110), .int (nI 97), .int (nI 109), .int (nI 101), .int (nI 0)] v (fun y2 v1 => ((¬ (lg_cmp (gL v 80 32) y2) = (nI 0) → KJ E d 164 [.int (nI 116), .int (nI 114), .int (nI 97), .int (nI 100), .int (nI 101)] v1 (fun y4 v3 => ((¬ (lg_cmp (gL v1 80 32) y4) = (nI 0) → KJ E d 164 [.int (nI 111), .int (nI 102), .int (nI 102), .int (nI 105), .int (nI 99)] v3 (fun y6 v5 => ((¬ (lg_cmp (gL v3 80 32) (((27 : Int64) * y6) + (5 : Int64))) = (nI 0) → KJ E d 164 [.int (nI 116), .int (nI 104), .int (nI 105), .int (nI 110), .int (nI 103)] v5 (fun y8 v7 => ((¬ (lg_cmp (gL v5 80 32) y8) = (nI 0) → KJ E d 164 [.int (nI 111), .int (nI 116), .int (nI 104), .int (nI 101), .int (nI 114)] v7 (fun y10 v9 => ((¬ (lg_cmp (gL v7 80 32) y10) = (nI 0) → Q (-1 : Int32) v9) ∧ ((lg_cmp (gL v7 80 32) y10) = (nI 0) → Q (nI 4) v9)))) ∧ ((lg_cmp (gL v5 80 32) y8) = (nI 0) → Q (nI 3) v7)))) ∧ ((lg_cmp (gL v3 80 32) (((27 : Int64) * y6) + (5 : Int64))) = (nI 0) → Q (nI 2) v5)))) ∧ ((lg_cmp (gL v1 80 32) y4) = (nI 0) → Q (nI 1) v3)))) ∧ ((lg_cmp (gL v 80 32) y2) = (nI 0) → Q (nI 0) v1)))) ∧ (¬ (gI v 80 26) = (nI 2) → Q (-1 : Int32) v))) : RI E (d + 1) 165 0 [(0, .ref 80)] v Q := by
  unfold RI
  refine xr_blk (lv1 := [(0, .ref 80)]) (st1 := [.int (nI 2), .int (gI v 80 26)]) (S1 := rt v) (pc1 := 5) [(.aload_n 0, .null, 0, 0), (.getfield 243, .null, 12, 26), (.iconst 2, .int (nI 2), 0, 0)] [] (by decide +kernel) rfl trivial ?_
  refine xr_ic_eq (tgt := 10) (off := 5) (by decide +kernel) (by decide) (fun hc => ?_) (fun hc => ?_)
  · replace h := h.1 hc
    refine xr_blk (lv1 := [(0, .ref 80)]) (st1 := [.int (nI 0), .int (nI 101), .int (nI 109), .int (nI 97), .int (nI 110), .long (gL v 80 32)]) (S1 := rt v) (pc1 := 23) [(.aload_n 0, .null, 0, 0), (.getfield 246, .null, 12, 32), (.bipush 110, .int (nI 110), 0, 0), (.bipush 97, .int (nI 97), 0, 0), (.bipush 109, .int (nI 109), 0, 0), (.bipush 101, .int (nI 101), 0, 0), (.iconst 0, .int (nI 0), 0, 0)] [] (by decide +kernel) rfl trivial ?_
    refine xk_SJ (As := [.int (nI 110), .int (nI 97), .int (nI 109), .int (nI 101), .int (nI 0)]) (rest := [.long (gL v 80 32)]) (idx := 256) (i0 := 256) (m1 := 164) (ps := [1676, 1677]) (by decide +kernel) (by decide +kernel) (by decide) rfl (Nat.le_of_ble_eq_true rfl) rfl h (fun y2 v1 h => ?_)
    refine xr_blk (lv1 := [(0, .ref 80)]) (st1 := [.int (lg_cmp (gL v 80 32) y2)]) (S1 := rt v1) (pc1 := 27) [(.lcmp, .null, 0, 0)] [] (by decide +kernel) rfl trivial ?_
    refine xr_if_ne (tgt := 32) (off := 5) (by decide +kernel) (by decide) (fun hc => ?_) (fun hc => ?_)
    · replace h := h.1 hc
      refine xr_blk (lv1 := [(0, .ref 80)]) (st1 := [.int (nI 101), .int (nI 100), .int (nI 97), .int (nI 114), .int (nI 116), .long (gL v1 80 32)]) (S1 := rt v1) (pc1 := 46) [(.aload_n 0, .null, 0, 0), (.getfield 246, .null, 12, 32), (.bipush 116, .int (nI 116), 0, 0), (.bipush 114, .int (nI 114), 0, 0), (.bipush 97, .int (nI 97), 0, 0), (.bipush 100, .int (nI 100), 0, 0), (.bipush 101, .int (nI 101), 0, 0)] [] (by decide +kernel) rfl trivial ?_
      refine xk_SJ (As := [.int (nI 116), .int (nI 114), .int (nI 97), .int (nI 100), .int (nI 101)]) (rest := [.long (gL v1 80 32)]) (idx := 256) (i0 := 256) (m1 := 164) (ps := [1676, 1677]) (by decide +kernel) (by decide +kernel) (by decide) rfl (Nat.le_of_ble_eq_true rfl) rfl h (fun y4 v3 h => ?_)
      refine xr_blk (lv1 := [(0, .ref 80)]) (st1 := [.int (lg_cmp (gL v1 80 32) y4)]) (S1 := rt v3) (pc1 := 50) [(.lcmp, .null, 0, 0)] [] (by decide +kernel) rfl trivial ?_
      refine xr_if_ne (tgt := 55) (off := 5) (by decide +kernel) (by decide) (fun hc => ?_) (fun hc => ?_)
      · replace h := h.1 hc
        refine xr_blk (lv1 := [(0, .ref 80)]) (st1 := [.int (nI 99), .int (nI 105), .int (nI 102), .int (nI 102), .int (nI 111), .long (27 : Int64), .long (gL v3 80 32)]) (S1 := rt v3) (pc1 := 72) [(.aload_n 0, .null, 0, 0), (.getfield 246, .null, 12, 32), (.ldc2_w 250, .long 27, 0, 0), (.bipush 111, .int (nI 111), 0, 0), (.bipush 102, .int (nI 102), 0, 0), (.bipush 102, .int (nI 102), 0, 0), (.bipush 105, .int (nI 105), 0, 0), (.bipush 99, .int (nI 99), 0, 0)] [] (by decide +kernel) rfl trivial ?_
        refine xk_SJ (As := [.int (nI 111), .int (nI 102), .int (nI 102), .int (nI 105), .int (nI 99)]) (rest := [.long (27 : Int64), .long (gL v3 80 32)]) (idx := 256) (i0 := 256) (m1 := 164) (ps := [1676, 1677]) (by decide +kernel) (by decide +kernel) (by decide) rfl (Nat.le_of_ble_eq_true rfl) rfl h (fun y6 v5 h => ?_)
        refine xr_blk (lv1 := [(0, .ref 80)]) (st1 := [.int (lg_cmp (gL v3 80 32) (((27 : Int64) * y6) + (5 : Int64)))]) (S1 := rt v5) (pc1 := 81) [(.lmul, .null, 0, 0), (.ldc2_w 260, .long 5, 0, 0), (.ladd, .null, 0, 0), (.lcmp, .null, 0, 0)] [] (by decide +kernel) rfl trivial ?_
        refine xr_if_ne (tgt := 86) (off := 5) (by decide +kernel) (by decide) (fun hc => ?_) (fun hc => ?_)
        · replace h := h.1 hc
          refine xr_blk (lv1 := [(0, .ref 80)]) (st1 := [.int (nI 103), .int (nI 110), .int (nI 105), .int (nI 104), .int (nI 116), .long (gL v5 80 32)]) (S1 := rt v5) (pc1 := 100) [(.aload_n 0, .null, 0, 0), (.getfield 246, .null, 12, 32), (.bipush 116, .int (nI 116), 0, 0), (.bipush 104, .int (nI 104), 0, 0), (.bipush 105, .int (nI 105), 0, 0), (.bipush 110, .int (nI 110), 0, 0), (.bipush 103, .int (nI 103), 0, 0)] [] (by decide +kernel) rfl trivial ?_
          refine xk_SJ (As := [.int (nI 116), .int (nI 104), .int (nI 105), .int (nI 110), .int (nI 103)]) (rest := [.long (gL v5 80 32)]) (idx := 256) (i0 := 256) (m1 := 164) (ps := [1676, 1677]) (by decide +kernel) (by decide +kernel) (by decide) rfl (Nat.le_of_ble_eq_true rfl) rfl h (fun y8 v7 h => ?_)
          refine xr_blk (lv1 := [(0, .ref 80)]) (st1 := [.int (lg_cmp (gL v5 80 32) y8)]) (S1 := rt v7) (pc1 := 104) [(.lcmp, .null, 0, 0)] [] (by decide +kernel) rfl trivial ?_
          refine xr_if_ne (tgt := 109) (off := 5) (by decide +kernel) (by decide) (fun hc => ?_) (fun hc => ?_)
          · replace h := h.1 hc
            refine xr_blk (lv1 := [(0, .ref 80)]) (st1 := [.int (nI 114), .int (nI 101), .int (nI 104), .int (nI 116), .int (nI 111), .long (gL v7 80 32)]) (S1 := rt v7) (pc1 := 123) [(.aload_n 0, .null, 0, 0), (.getfield 246, .null, 12, 32), (.bipush 111, .int (nI 111), 0, 0), (.bipush 116, .int (nI 116), 0, 0), (.bipush 104, .int (nI 104), 0, 0), (.bipush 101, .int (nI 101), 0, 0), (.bipush 114, .int (nI 114), 0, 0)] [] (by decide +kernel) rfl trivial ?_
            refine xk_SJ (As := [.int (nI 111), .int (nI 116), .int (nI 104), .int (nI 101), .int (nI 114)]) (rest := [.long (gL v7 80 32)]) (idx := 256) (i0 := 256) (m1 := 164) (ps := [1676, 1677]) (by decide +kernel) (by decide +kernel) (by decide) rfl (Nat.le_of_ble_eq_true rfl) rfl h (fun y10 v9 h => ?_)
            refine xr_blk (lv1 := [(0, .ref 80)]) (st1 := [.int (lg_cmp (gL v7 80 32) y10)]) (S1 := rt v9) (pc1 := 127) [(.lcmp, .null, 0, 0)] [] (by decide +kernel) rfl trivial ?_
            refine xr_if_ne (tgt := 134) (off := 7) (by decide +kernel) (by decide) (fun hc => ?_) (fun hc => ?_)
            · replace h := h.1 hc
              refine xr_blk (lv1 := [(0, .ref 80)]) (st1 := [.int (-1)]) (S1 := rt v9) (pc1 := 135) [(.iconst (-1), .int (-1), 0, 0)] [] (by decide +kernel) rfl trivial ?_
              exact xr_iret (by decide +kernel) rfl ⟨_, _, rfl, rfl, h⟩
            · replace h := h.2 hc
              refine xr_blk (lv1 := [(0, .ref 80)]) (st1 := [.int (nI 4)]) (S1 := rt v9) (pc1 := 131) [(.iconst 4, .int (nI 4), 0, 0)] [] (by decide +kernel) rfl trivial ?_
              refine xr_goto (tgt := 135) (off := 4) (by decide +kernel) (by decide) ?_
              exact xr_iret (by decide +kernel) rfl ⟨_, _, rfl, rfl, h⟩
          · replace h := h.2 hc
            refine xr_blk (lv1 := [(0, .ref 80)]) (st1 := [.int (nI 3)]) (S1 := rt v7) (pc1 := 108) [(.iconst 3, .int (nI 3), 0, 0)] [] (by decide +kernel) rfl trivial ?_
            exact xr_iret (by decide +kernel) rfl ⟨_, _, rfl, rfl, h⟩
        · replace h := h.2 hc
          refine xr_blk (lv1 := [(0, .ref 80)]) (st1 := [.int (nI 2)]) (S1 := rt v5) (pc1 := 85) [(.iconst 2, .int (nI 2), 0, 0)] [] (by decide +kernel) rfl trivial ?_
          exact xr_iret (by decide +kernel) rfl ⟨_, _, rfl, rfl, h⟩
      · replace h := h.2 hc
        refine xr_blk (lv1 := [(0, .ref 80)]) (st1 := [.int (nI 1)]) (S1 := rt v3) (pc1 := 54) [(.iconst 1, .int (nI 1), 0, 0)] [] (by decide +kernel) rfl trivial ?_
        exact xr_iret (by decide +kernel) rfl ⟨_, _, rfl, rfl, h⟩
    · replace h := h.2 hc
      refine xr_blk (lv1 := [(0, .ref 80)]) (st1 := [.int (nI 0)]) (S1 := rt v1) (pc1 := 31) [(.iconst 0, .int (nI 0), 0, 0)] [] (by decide +kernel) rfl trivial ?_
      exact xr_iret (by decide +kernel) rfl ⟨_, _, rfl, rfl, h⟩
  · replace h := h.2 hc
    refine xr_blk (lv1 := [(0, .ref 80)]) (st1 := [.int (-1)]) (S1 := rt v) (pc1 := 9) [(.iconst (-1), .int (-1), 0, 0)] [] (by decide +kernel) rfl trivial ?_
    exact xr_iret (by decide +kernel) rfl ⟨_, _, rfl, rfl, h⟩
theorem ok_165 : x_mOK 165 := ⟨x_tm7 (List.mem_of_getElem? (i := 135) rfl) rfl, 114, by decide +kernel⟩
/-! X12_bad: method 166, ScrawlHouseModel.bad(I)Z -/
set_option maxRecDepth 100000 in
theorem w_X12_bad_0 {E : Nat × (Nat → Int32)} {d : Nat} {v : xV} {x1 : Int32} {Q : Int32 → xV → Prop} (h : ((¬ (gI v 80 26) = (nI 1) → Q (nI 0) (v_I (v_I v 80 27 x1) 80 28 (gI v 80 25))) ∧ ((gI v 80 26) = (nI 1) → Q (nI 0) (v_I (v_I v 80 27 (nI 1)) 80 28 (gI v 80 25))))) : RI E d 166 0 [(0, .ref 80), (1, .int x1)] v Q := by
  unfold RI
  refine xr_blk (lv1 := [(0, .ref 80), (1, .int x1)]) (st1 := [.int (nI 1), .int (gI v 80 26), .ref 80]) (S1 := rt v) (pc1 := 6) [(.aload_n 0, .null, 0, 0), (.aload_n 0, .null, 0, 0), (.getfield 243, .null, 12, 26), (.iconst 1, .int (nI 1), 0, 0)] [] (by decide +kernel) rfl trivial ?_
  refine xr_ic_ne (tgt := 13) (off := 7) (by decide +kernel) (by decide) (fun hc => ?_) (fun hc => ?_)
  · replace h := h.1 hc
    refine xr_blk (lv1 := [(0, .ref 80), (1, .int x1)]) (st1 := [.int (nI 0)]) (S1 := rt (v_I (v_I v 80 27 x1) 80 28 (gI v 80 25))) (pc1 := 26) [(.iload_n 1, .null, 0, 0), (.putfield 262, .null, 12, 27), (.aload_n 0, .null, 0, 0), (.aload_n 0, .null, 0, 0), (.getfield 240, .null, 12, 25), (.putfield 265, .null, 12, 28), (.iconst 0, .int (nI 0), 0, 0)] [] (by decide +kernel) rfl trivial ?_
    exact xr_zret (by decide +kernel) rfl x_in2_0 ⟨_, _, rfl, rfl, h⟩
  · replace h := h.2 hc
    refine xr_blk (lv1 := [(0, .ref 80), (1, .int x1)]) (st1 := [.int (nI 1), .ref 80]) (S1 := rt v) (pc1 := 10) [(.iconst 1, .int (nI 1), 0, 0)] [] (by decide +kernel) rfl trivial ?_
    refine xr_goto (tgt := 14) (off := 4) (by decide +kernel) (by decide) ?_
    refine xr_blk (lv1 := [(0, .ref 80), (1, .int x1)]) (st1 := [.int (nI 0)]) (S1 := rt (v_I (v_I v 80 27 (nI 1)) 80 28 (gI v 80 25))) (pc1 := 26) [(.putfield 262, .null, 12, 27), (.aload_n 0, .null, 0, 0), (.aload_n 0, .null, 0, 0), (.getfield 240, .null, 12, 25), (.putfield 265, .null, 12, 28), (.iconst 0, .int (nI 0), 0, 0)] [] (by decide +kernel) rfl trivial ?_
    exact xr_zret (by decide +kernel) rfl x_in2_0 ⟨_, _, rfl, rfl, h⟩
theorem ok_166 : x_mOK 166 := ⟨x_tm7 (List.mem_of_getElem? (i := 143) rfl) rfl, 114, by decide +kernel⟩
/-! X12_addRow: method 167, ScrawlHouseModel.addRow(II)V -/
set_option maxRecDepth 100000 in
theorem w_X12_addRow_0 {E : Nat × (Nat → Int32)} {d : Nat} {v : xV} {x1 : Int32} {x2 : Int32} {Q : xV → Prop} (h : ∀ y1 : Int32, y1 = ((nI 256) + (gI v 80 31)) → RV E d 167 15 [(0, .ref 80), (1, .int x1), (2, .int x2), (3, .int y1), (4, .int (nI 0)), (5, .int (nI 0))] v Q) : RV E d 167 0 [(0, .ref 80), (1, .int x1), (2, .int x2)] v Q := by
  unfold RV
  refine xr_blk (lv1 := [(0, .ref 80), (1, .int x1), (2, .int x2)]) (st1 := [.int ((nI 256) + (gI v 80 31))]) (S1 := rt v) (pc1 := 8) [(.sipush 256, .int (nI 256), 0, 0), (.aload_n 0, .null, 0, 0), (.getfield 268, .null, 12, 31), (.iadd, .null, 0, 0)] [] (by decide +kernel) rfl trivial ?_
  refine xr_topi (fun y1 ey1 => ?_)
  replace h := h y1 ey1
  refine xr_blk (lv1 := [(5, .int (nI 0)), (4, .int (nI 0)), (3, .int y1), (0, .ref 80), (1, .int x1), (2, .int x2)]) (st1 := []) (S1 := rt v) (pc1 := 15) [(.istore_n 3, .null, 0, 0), (.iconst 0, .int (nI 0), 0, 0), (.istore 4, .null, 0, 0), (.iconst 0, .int (nI 0), 0, 0), (.istore 5, .null, 0, 0)] [] (by decide +kernel) rfl trivial ?_
  exact x_R.sub [3, 4, 5, 2, 1, 0] rfl h
set_option maxRecDepth 100000 in
theorem w_X12_addRow_15 {E : Nat × (Nat → Int32)} {d : Nat} {v : xV} {x1 : Int32} {x2 : Int32} {x3 : Int32} {x4 : Int32} {x5 : Int32} {Q : xV → Prop} (h : ((x2 ≤ x5 → vp_in x3 512 ∧ RV E d 167 74 [(0, .ref 80), (3, .int x3), (4, .int x4), (5, .int (nI 256))] (v_A v 96 (upd (gA v 96) (x3).toNatClampNeg x4)) Q) ∧ (¬ x2 ≤ x5 → ((¬ ((x1 >>> (x5 &&& 31)) &&& (nI 1)) = (nI 0) → vp_in x5 6 ∧ vp_in (((nI 6) * x3) + x4) 3072 ∧ RV E d 167 15 [(0, .ref 80), (1, .int x1), (2, .int x2), (3, .int x3), (4, .int (x4 + (nI 1))), (5, .int (x5 + (nI 1)))] (v_A v 97 (upd (gA v 97) ((((nI 6) * x3) + x4)).toNatClampNeg ((gA v 98) (x5).toNatClampNeg))) Q) ∧ (((x1 >>> (x5 &&& 31)) &&& (nI 1)) = (nI 0) → RV E d 167 15 [(0, .ref 80), (1, .int x1), (2, .int x2), (3, .int x3), (4, .int x4), (5, .int (x5 + (nI 1)))] v Q))))) : RV E d 167 15 [(0, .ref 80), (1, .int x1), (2, .int x2), (3, .int x3), (4, .int x4), (5, .int x5)] v Q := by
  unfold RV
  refine xr_blk (lv1 := [(0, .ref 80), (1, .int x1), (2, .int x2), (3, .int x3), (4, .int x4), (5, .int x5)]) (st1 := [.int x2, .int x5]) (S1 := rt v) (pc1 := 18) [(.iload 5, .null, 0, 0), (.iload_n 2, .null, 0, 0)] [] (by decide +kernel) rfl trivial ?_
  refine xr_ic_ge (tgt := 61) (off := 43) (by decide +kernel) (by decide) (fun hc => ?_) (fun hc => ?_)
  · replace h := h.1 hc
    obtain ⟨hb1, h⟩ := h
    refine xr_blk (lv1 := [(5, .int (nI 256)), (0, .ref 80), (1, .int x1), (2, .int x2), (3, .int x3), (4, .int x4)]) (st1 := []) (S1 := rt (v_A v 96 (upd (gA v 96) (x3).toNatClampNeg x4))) (pc1 := 74) [(.aload_n 0, .null, 0, 0), (.getfield 59, .null, 12, 33), (.iload_n 3, .null, 0, 0), (.iload 4, .null, 0, 0), (.iastore, .null, 0, 0), (.sipush 256, .int (nI 256), 0, 0), (.istore 5, .null, 0, 0)] [(x3, 512)] (by decide +kernel) rfl ⟨hb1, trivial⟩ ?_
    exact x_R.sub [1, 4, 5, 0] rfl h
  · replace h := h.2 hc
    refine xr_blk (lv1 := [(0, .ref 80), (1, .int x1), (2, .int x2), (3, .int x3), (4, .int x4), (5, .int x5)]) (st1 := [.int ((x1 >>> (x5 &&& 31)) &&& (nI 1))]) (S1 := rt v) (pc1 := 27) [(.iload_n 1, .null, 0, 0), (.iload 5, .null, 0, 0), (.ishr, .null, 0, 0), (.iconst 1, .int (nI 1), 0, 0), (.iand, .null, 0, 0)] [] (by decide +kernel) rfl trivial ?_
    refine xr_if_ne (tgt := 33) (off := 6) (by decide +kernel) (by decide) (fun hc => ?_) (fun hc => ?_)
    · replace h := h.1 hc
      obtain ⟨hb2, h⟩ := h
      obtain ⟨hb3, h⟩ := h
      refine xr_blk (lv1 := [(5, .int (x5 + (nI 1))), (4, .int (x4 + (nI 1))), (0, .ref 80), (1, .int x1), (2, .int x2), (3, .int x3)]) (st1 := []) (S1 := rt (v_A v 97 (upd (gA v 97) ((((nI 6) * x3) + x4)).toNatClampNeg ((gA v 98) (x5).toNatClampNeg)))) (pc1 := 58) [(.aload_n 0, .null, 0, 0), (.getfield 62, .null, 12, 34), (.bipush 6, .int (nI 6), 0, 0), (.iload_n 3, .null, 0, 0), (.imul, .null, 0, 0), (.iload 4, .null, 0, 0), (.iadd, .null, 0, 0), (.aload_n 0, .null, 0, 0), (.getfield 65, .null, 12, 35), (.iload 5, .null, 0, 0), (.iaload, .null, 0, 0), (.iastore, .null, 0, 0), (.iinc 4 1, .int (nI 1), 0, 0), (.iinc 5 1, .int (nI 1), 0, 0)] [(x5, 6), ((((nI 6) * x3) + x4), 3072)] (by decide +kernel) rfl ⟨hb2, hb3, trivial⟩ ?_
      refine xr_goto (tgt := 15) (off := -43) (by decide +kernel) (by decide) ?_
      exact x_R.sub [2, 3, 4, 5, 1, 0] rfl h
    · replace h := h.2 hc
      refine xr_goto (tgt := 55) (off := 25) (by decide +kernel) (by decide) ?_
      refine xr_blk (lv1 := [(5, .int (x5 + (nI 1))), (0, .ref 80), (1, .int x1), (2, .int x2), (3, .int x3), (4, .int x4)]) (st1 := []) (S1 := rt v) (pc1 := 58) [(.iinc 5 1, .int (nI 1), 0, 0)] [] (by decide +kernel) rfl trivial ?_
      refine xr_goto (tgt := 15) (off := -43) (by decide +kernel) (by decide) ?_
      exact x_R.sub [1, 2, 3, 4, 5, 0] rfl h
set_option maxRecDepth 100000 in
theorem w_X12_addRow_74 {E : Nat × (Nat → Int32)} {d : Nat} {v : xV} {x3 : Int32} {x4 : Int32} {x5 : Int32} {Q : xV → Prop} (h : ((x3 ≤ x5 → Q (v_I v 80 31 ((gI v 80 31) + (nI 1)))) ∧ (¬ x3 ≤ x5 → vp_in x5 512 ∧ ((¬ ((gA v 96) (x5).toNatClampNeg) = x4 → RV E d 167 102 [(0, .ref 80), (3, .int x3), (4, .int x4), (5, .int x5), (6, .int (nI 0)), (7, .int (nI 0))] v Q) ∧ (((gA v 96) (x5).toNatClampNeg) = x4 → RV E d 167 102 [(0, .ref 80), (3, .int x3), (4, .int x4), (5, .int x5), (6, .int (nI 1)), (7, .int (nI 0))] v Q))))) : RV E d 167 74 [(0, .ref 80), (3, .int x3), (4, .int x4), (5, .int x5)] v Q := by
  unfold RV
  refine xr_blk (lv1 := [(0, .ref 80), (3, .int x3), (4, .int x4), (5, .int x5)]) (st1 := [.int x3, .int x5]) (S1 := rt v) (pc1 := 77) [(.iload 5, .null, 0, 0), (.iload_n 3, .null, 0, 0)] [] (by decide +kernel) rfl trivial ?_
  refine xr_ic_ge (tgt := 167) (off := 90) (by decide +kernel) (by decide) (fun hc => ?_) (fun hc => ?_)
  · replace h := h.1 hc
    refine xr_blk (lv1 := [(0, .ref 80), (3, .int x3), (4, .int x4), (5, .int x5)]) (st1 := []) (S1 := rt (v_I v 80 31 ((gI v 80 31) + (nI 1)))) (pc1 := 177) [(.aload_n 0, .null, 0, 0), (.dup, .null, 0, 0), (.getfield 268, .null, 12, 31), (.iconst 1, .int (nI 1), 0, 0), (.iadd, .null, 0, 0), (.putfield 268, .null, 12, 31)] [] (by decide +kernel) rfl trivial ?_
    exact xr_ret0 (by decide +kernel) rfl ⟨_, rfl, rfl, h⟩
  · replace h := h.2 hc
    obtain ⟨hb1, h⟩ := h
    refine xr_blk (lv1 := [(0, .ref 80), (3, .int x3), (4, .int x4), (5, .int x5)]) (st1 := [.int x4, .int ((gA v 96) (x5).toNatClampNeg)]) (S1 := rt v) (pc1 := 89) [(.aload_n 0, .null, 0, 0), (.getfield 59, .null, 12, 33), (.iload 5, .null, 0, 0), (.iaload, .null, 0, 0), (.iload 4, .null, 0, 0)] [(x5, 512)] (by decide +kernel) rfl ⟨hb1, trivial⟩ ?_
    refine xr_ic_ne (tgt := 96) (off := 7) (by decide +kernel) (by decide) (fun hc => ?_) (fun hc => ?_)
    · replace h := h.1 hc
      refine xr_blk (lv1 := [(7, .int (nI 0)), (6, .int (nI 0)), (0, .ref 80), (3, .int x3), (4, .int x4), (5, .int x5)]) (st1 := []) (S1 := rt v) (pc1 := 102) [(.iconst 0, .int (nI 0), 0, 0), (.istore 6, .null, 0, 0), (.iconst 0, .int (nI 0), 0, 0), (.istore 7, .null, 0, 0)] [] (by decide +kernel) rfl trivial ?_
      exact x_R.sub [2, 3, 4, 5, 1, 0] rfl h
    · replace h := h.2 hc
      refine xr_blk (lv1 := [(0, .ref 80), (3, .int x3), (4, .int x4), (5, .int x5)]) (st1 := [.int (nI 1)]) (S1 := rt v) (pc1 := 93) [(.iconst 1, .int (nI 1), 0, 0)] [] (by decide +kernel) rfl trivial ?_
      refine xr_goto (tgt := 97) (off := 4) (by decide +kernel) (by decide) ?_
      refine xr_blk (lv1 := [(7, .int (nI 0)), (6, .int (nI 1)), (0, .ref 80), (3, .int x3), (4, .int x4), (5, .int x5)]) (st1 := []) (S1 := rt v) (pc1 := 102) [(.istore 6, .null, 0, 0), (.iconst 0, .int (nI 0), 0, 0), (.istore 7, .null, 0, 0)] [] (by decide +kernel) rfl trivial ?_
      exact x_R.sub [2, 3, 4, 5, 1, 0] rfl h
set_option maxRecDepth 100000 in
theorem w_X12_addRow_102 {E : Nat × (Nat → Int32)} {d : Nat} {v : xV} {x3 : Int32} {x4 : Int32} {x5 : Int32} {x6 : Int32} {x7 : Int32} {Q : xV → Prop} (h : ((x4 ≤ x7 → RV E d 167 155 [(0, .ref 80), (3, .int x3), (4, .int x4), (5, .int x5), (6, .int x6)] v Q) ∧ (¬ x4 ≤ x7 → ((x6 = (nI 0) → RV E d 167 155 [(0, .ref 80), (3, .int x3), (4, .int x4), (5, .int x5), (6, .int x6)] v Q) ∧ (¬ x6 = (nI 0) → vp_in (((nI 6) * x5) + x7) 3072 ∧ vp_in (((nI 6) * x3) + x7) 3072 ∧ ((¬ ((gA v 97) ((((nI 6) * x5) + x7)).toNatClampNeg) = ((gA v 97) ((((nI 6) * x3) + x7)).toNatClampNeg) → RV E d 167 102 [(0, .ref 80), (3, .int x3), (4, .int x4), (5, .int x5), (6, .int (nI 0)), (7, .int (x7 + (nI 1)))] v Q) ∧ (((gA v 97) ((((nI 6) * x5) + x7)).toNatClampNeg) = ((gA v 97) ((((nI 6) * x3) + x7)).toNatClampNeg) → RV E d 167 102 [(0, .ref 80), (3, .int x3), (4, .int x4), (5, .int x5), (6, .int (nI 1)), (7, .int (x7 + (nI 1)))] v Q))))))) : RV E d 167 102 [(0, .ref 80), (3, .int x3), (4, .int x4), (5, .int x5), (6, .int x6), (7, .int x7)] v Q := by
  unfold RV
  refine xr_blk (lv1 := [(0, .ref 80), (3, .int x3), (4, .int x4), (5, .int x5), (6, .int x6), (7, .int x7)]) (st1 := [.int x4, .int x7]) (S1 := rt v) (pc1 := 106) [(.iload 7, .null, 0, 0), (.iload 4, .null, 0, 0)] [] (by decide +kernel) rfl trivial ?_
  refine xr_ic_ge (tgt := 155) (off := 49) (by decide +kernel) (by decide) (fun hc => ?_) (fun hc => ?_)
  · replace h := h.1 hc
    exact x_R.sub [0, 1, 2, 3, 4] rfl h
  · replace h := h.2 hc
    refine xr_blk (lv1 := [(0, .ref 80), (3, .int x3), (4, .int x4), (5, .int x5), (6, .int x6), (7, .int x7)]) (st1 := [.int x6]) (S1 := rt v) (pc1 := 111) [(.iload 6, .null, 0, 0)] [] (by decide +kernel) rfl trivial ?_
    refine xr_if_eq (tgt := 155) (off := 44) (by decide +kernel) (by decide) (fun hc => ?_) (fun hc => ?_)
    · replace h := h.1 hc
      exact x_R.sub [0, 1, 2, 3, 4] rfl h
    · replace h := h.2 hc
      obtain ⟨hb1, h⟩ := h
      obtain ⟨hb2, h⟩ := h
      refine xr_blk (lv1 := [(0, .ref 80), (3, .int x3), (4, .int x4), (5, .int x5), (6, .int x6), (7, .int x7)]) (st1 := [.int ((gA v 97) ((((nI 6) * x3) + x7)).toNatClampNeg), .int ((gA v 97) ((((nI 6) * x5) + x7)).toNatClampNeg)]) (S1 := rt v) (pc1 := 139) [(.aload_n 0, .null, 0, 0), (.getfield 62, .null, 12, 34), (.bipush 6, .int (nI 6), 0, 0), (.iload 5, .null, 0, 0), (.imul, .null, 0, 0), (.iload 7, .null, 0, 0), (.iadd, .null, 0, 0), (.iaload, .null, 0, 0), (.aload_n 0, .null, 0, 0), (.getfield 62, .null, 12, 34), (.bipush 6, .int (nI 6), 0, 0), (.iload_n 3, .null, 0, 0), (.imul, .null, 0, 0), (.iload 7, .null, 0, 0), (.iadd, .null, 0, 0), (.iaload, .null, 0, 0)] [((((nI 6) * x5) + x7), 3072), ((((nI 6) * x3) + x7), 3072)] (by decide +kernel) rfl ⟨hb1, hb2, trivial⟩ ?_
      refine xr_ic_ne (tgt := 146) (off := 7) (by decide +kernel) (by decide) (fun hc => ?_) (fun hc => ?_)
      · replace h := h.1 hc
        refine xr_blk (lv1 := [(7, .int (x7 + (nI 1))), (6, .int (nI 0)), (0, .ref 80), (3, .int x3), (4, .int x4), (5, .int x5)]) (st1 := []) (S1 := rt v) (pc1 := 152) [(.iconst 0, .int (nI 0), 0, 0), (.istore 6, .null, 0, 0), (.iinc 7 1, .int (nI 1), 0, 0)] [] (by decide +kernel) rfl trivial ?_
        refine xr_goto (tgt := 102) (off := -50) (by decide +kernel) (by decide) ?_
        exact x_R.sub [2, 3, 4, 5, 1, 0] rfl h
      · replace h := h.2 hc
        refine xr_blk (lv1 := [(0, .ref 80), (3, .int x3), (4, .int x4), (5, .int x5), (6, .int x6), (7, .int x7)]) (st1 := [.int (nI 1)]) (S1 := rt v) (pc1 := 143) [(.iconst 1, .int (nI 1), 0, 0)] [] (by decide +kernel) rfl trivial ?_
        refine xr_goto (tgt := 147) (off := 4) (by decide +kernel) (by decide) ?_
        refine xr_blk (lv1 := [(7, .int (x7 + (nI 1))), (6, .int (nI 1)), (0, .ref 80), (3, .int x3), (4, .int x4), (5, .int x5)]) (st1 := []) (S1 := rt v) (pc1 := 152) [(.istore 6, .null, 0, 0), (.iinc 7 1, .int (nI 1), 0, 0)] [] (by decide +kernel) rfl trivial ?_
        refine xr_goto (tgt := 102) (off := -50) (by decide +kernel) (by decide) ?_
        exact x_R.sub [2, 3, 4, 5, 1, 0] rfl h
set_option maxRecDepth 100000 in
theorem w_X12_addRow_155 {E : Nat × (Nat → Int32)} {d : Nat} {v : xV} {x3 : Int32} {x4 : Int32} {x5 : Int32} {x6 : Int32} {Q : xV → Prop} (h : ((x6 = (nI 0) → RV E d 167 74 [(0, .ref 80), (3, .int x3), (4, .int x4), (5, .int (x5 + (nI 1)))] v Q) ∧ (¬ x6 = (nI 0) → Q v))) : RV E d 167 155 [(0, .ref 80), (3, .int x3), (4, .int x4), (5, .int x5), (6, .int x6)] v Q := by
  unfold RV
  refine xr_blk (lv1 := [(0, .ref 80), (3, .int x3), (4, .int x4), (5, .int x5), (6, .int x6)]) (st1 := [.int x6]) (S1 := rt v) (pc1 := 157) [(.iload 6, .null, 0, 0)] [] (by decide +kernel) rfl trivial ?_
  refine xr_if_eq (tgt := 161) (off := 4) (by decide +kernel) (by decide) (fun hc => ?_) (fun hc => ?_)
  · replace h := h.1 hc
    refine xr_blk (lv1 := [(5, .int (x5 + (nI 1))), (0, .ref 80), (3, .int x3), (4, .int x4), (6, .int x6)]) (st1 := []) (S1 := rt v) (pc1 := 164) [(.iinc 5 1, .int (nI 1), 0, 0)] [] (by decide +kernel) rfl trivial ?_
    refine xr_goto (tgt := 74) (off := -90) (by decide +kernel) (by decide) ?_
    exact x_R.sub [1, 2, 3, 0] rfl h
  · replace h := h.2 hc
    exact xr_ret0 (by decide +kernel) rfl ⟨_, rfl, rfl, h⟩
theorem ok_167 : x_mOK 167 := ⟨x_tm7 (List.mem_of_getElem? (i := 147) rfl) rfl, 114, by decide +kernel⟩
/-! X12_readPattern: method 168, ScrawlHouseModel.readPattern()Z -/
set_option maxRecDepth 100000 in
theorem w_X12_readPattern_0 {E : Nat × (Nat → Int32)} {d : Nat} {v : xV} {Q : Int32 → xV → Prop} (h : KI E d 165 [.ref 80] v (fun y2 v1 => ((¬ y2 = (-1 : Int32) → ((¬ (gI v1 80 29) = (nI 8) → RI E (d + 1) 168 33 [(0, .ref 80), (1, .int (nI 0)), (2, .int (nI 0))] v1 Q) ∧ ((gI v1 80 29) = (nI 8) → KI E d 166 [.ref 80, .int (nI 2)] v1 (fun y4 v3 => vp_in y4 2 ∧ Q y4 v3)))) ∧ (y2 = (-1 : Int32) → KI E d 166 [.ref 80, .int (nI 1)] v1 (fun y6 v5 => vp_in y6 2 ∧ Q y6 v5))))) : RI E (d + 1) 168 0 [(0, .ref 80)] v Q := by
  unfold RI
  refine xr_blk (lv1 := [(2, .int (nI 0)), (1, .int (nI 0)), (0, .ref 80)]) (st1 := [.ref 80]) (S1 := rt v) (pc1 := 5) [(.iconst 0, .int (nI 0), 0, 0), (.istore_n 1, .null, 0, 0), (.iconst 0, .int (nI 0), 0, 0), (.istore_n 2, .null, 0, 0), (.aload_n 0, .null, 0, 0)] [] (by decide +kernel) rfl trivial ?_
  refine xk_VI (As := []) (bb := 80) (rest := []) (idx := 271) (i0 := 271) (m1 := 165) (ps := [1672, 1674, 63]) (by decide +kernel) (by decide +kernel) (by decide) rfl ((gK_s (by decide)).trans (by decide +kernel)) (by decide) (Nat.le_of_ble_eq_true rfl) rfl h (fun y2 v1 h => ?_)
  refine xr_blk (lv1 := [(2, .int (nI 0)), (1, .int (nI 0)), (0, .ref 80)]) (st1 := [.int (-1), .int y2]) (S1 := rt v1) (pc1 := 9) [(.iconst (-1), .int (-1), 0, 0)] [] (by decide +kernel) rfl trivial ?_
  refine xr_ic_ne (tgt := 18) (off := 9) (by decide +kernel) (by decide) (fun hc => ?_) (fun hc => ?_)
  · replace h := h.1 hc
    refine xr_blk (lv1 := [(2, .int (nI 0)), (1, .int (nI 0)), (0, .ref 80)]) (st1 := [.int (nI 8), .int (gI v1 80 29)]) (S1 := rt v1) (pc1 := 24) [(.aload_n 0, .null, 0, 0), (.getfield 277, .null, 12, 29), (.bipush 8, .int (nI 8), 0, 0)] [] (by decide +kernel) rfl trivial ?_
    refine xr_ic_ne (tgt := 33) (off := 9) (by decide +kernel) (by decide) (fun hc => ?_) (fun hc => ?_)
    · replace h := h.1 hc
      exact x_R.sub [2, 1, 0] rfl h
    · replace h := h.2 hc
      refine xr_blk (lv1 := [(2, .int (nI 0)), (1, .int (nI 0)), (0, .ref 80)]) (st1 := [.int (nI 2), .ref 80]) (S1 := rt v1) (pc1 := 29) [(.aload_n 0, .null, 0, 0), (.iconst 2, .int (nI 2), 0, 0)] [] (by decide +kernel) rfl trivial ?_
      refine xk_VI (As := [.int (nI 2)]) (bb := 80) (rest := []) (idx := 274) (i0 := 274) (m1 := 166) (ps := [1680, 1682, 64]) (by decide +kernel) (by decide +kernel) (by decide) rfl ((gK_s (by decide)).trans (by decide +kernel)) (by decide) (Nat.le_of_ble_eq_true rfl) rfl h (fun y4 v3 h => ?_)
      obtain ⟨hz, h⟩ := h
      exact xr_zret (by decide +kernel) rfl hz ⟨_, _, rfl, rfl, h⟩
  · replace h := h.2 hc
    refine xr_blk (lv1 := [(2, .int (nI 0)), (1, .int (nI 0)), (0, .ref 80)]) (st1 := [.int (nI 1), .ref 80]) (S1 := rt v1) (pc1 := 14) [(.aload_n 0, .null, 0, 0), (.iconst 1, .int (nI 1), 0, 0)] [] (by decide +kernel) rfl trivial ?_
    refine xk_VI (As := [.int (nI 1)]) (bb := 80) (rest := []) (idx := 274) (i0 := 274) (m1 := 166) (ps := [1680, 1682, 64]) (by decide +kernel) (by decide +kernel) (by decide) rfl ((gK_s (by decide)).trans (by decide +kernel)) (by decide) (Nat.le_of_ble_eq_true rfl) rfl h (fun y6 v5 h => ?_)
    obtain ⟨hz, h⟩ := h
    exact xr_zret (by decide +kernel) rfl hz ⟨_, _, rfl, rfl, h⟩
set_option maxRecDepth 100000 in
theorem w_X12_readPattern_33 {E : Nat × (Nat → Int32)} {d : Nat} {v : xV} {x1 : Int32} {x2 : Int32} {Q : Int32 → xV → Prop} (h : (((gI v 80 26) = (nI 4) → ((¬ x2 = (nI 0) → RI E (d + 1) 168 140 [(0, .ref 80), (1, .int x1), (2, .int x2), (3, .int (nI 1))] v Q) ∧ (x2 = (nI 0) → KI E d 166 [.ref 80, .int (nI 3)] v (fun y2 v1 => vp_in y2 2 ∧ Q y2 v1)))) ∧ (¬ (gI v 80 26) = (nI 4) → KI E d 165 [.ref 80] v (fun y4 v3 => ((¬ y4 = (-1 : Int32) → ((¬ x1 = (nI 6) → KI E d 165 [.ref 80] v3 (fun y6 v5 => vp_in x1 6 ∧ KV E d 163 [.ref 80] (v_A v5 98 (upd (gA v5 98) (x1).toNatClampNeg y6)) (fun v8 => ((¬ (gI v8 80 26) = (nI 3) → vp_in x1 6 ∧ vp_in x1 6 ∧ ((¬ ((upd (gA v8 99) (x1).toNatClampNeg (nI 0)) (x1).toNatClampNeg) = (nI 0) → KV E d 163 [.ref 80] (v_A v8 99 (upd (gA v8 99) (x1).toNatClampNeg (nI 0))) (fun v11 => RI E (d + 1) 168 33 [(0, .ref 80), (1, .int (x1 + (nI 1))), (2, .int x2)] v11 Q)) ∧ (((upd (gA v8 99) (x1).toNatClampNeg (nI 0)) (x1).toNatClampNeg) = (nI 0) → ∀ y12 : Int32, y12 = (x2 ||| ((nI 1) <<< (x1 &&& 31))) → RI E (d + 1) 168 33 [(0, .ref 80), (1, .int (x1 + (nI 1))), (2, .int y12)] (v_A v8 99 (upd (gA v8 99) (x1).toNatClampNeg (nI 0))) Q))) ∧ ((gI v8 80 26) = (nI 3) → vp_in x1 6 ∧ vp_in x1 6 ∧ ((¬ ((upd (gA v8 99) (x1).toNatClampNeg (nI 1)) (x1).toNatClampNeg) = (nI 0) → KV E d 163 [.ref 80] (v_A v8 99 (upd (gA v8 99) (x1).toNatClampNeg (nI 1))) (fun v15 => RI E (d + 1) 168 33 [(0, .ref 80), (1, .int (x1 + (nI 1))), (2, .int x2)] v15 Q)) ∧ (((upd (gA v8 99) (x1).toNatClampNeg (nI 1)) (x1).toNatClampNeg) = (nI 0) → ∀ y16 : Int32, y16 = (x2 ||| ((nI 1) <<< (x1 &&& 31))) → RI E (d + 1) 168 33 [(0, .ref 80), (1, .int (x1 + (nI 1))), (2, .int y16)] (v_A v8 99 (upd (gA v8 99) (x1).toNatClampNeg (nI 1))) Q))))))) ∧ (x1 = (nI 6) → KI E d 166 [.ref 80, .int (nI 2)] v3 (fun y18 v17 => vp_in y18 2 ∧ Q y18 v17)))) ∧ (y4 = (-1 : Int32) → KI E d 166 [.ref 80, .int (nI 1)] v3 (fun y20 v19 => vp_in y20 2 ∧ Q y20 v19))))))) : RI E (d + 1) 168 33 [(0, .ref 80), (1, .int x1), (2, .int x2)] v Q := by
  unfold RI
  refine xr_blk (lv1 := [(0, .ref 80), (1, .int x1), (2, .int x2)]) (st1 := [.int (nI 4), .int (gI v 80 26)]) (S1 := rt v) (pc1 := 38) [(.aload_n 0, .null, 0, 0), (.getfield 243, .null, 12, 26), (.iconst 4, .int (nI 4), 0, 0)] [] (by decide +kernel) rfl trivial ?_
  refine xr_ic_eq (tgt := 128) (off := 90) (by decide +kernel) (by decide) (fun hc => ?_) (fun hc => ?_)
  · replace h := h.1 hc
    refine xr_blk (lv1 := [(0, .ref 80), (1, .int x1), (2, .int x2)]) (st1 := [.int x2]) (S1 := rt v) (pc1 := 129) [(.iload_n 2, .null, 0, 0)] [] (by decide +kernel) rfl trivial ?_
    refine xr_if_ne (tgt := 138) (off := 9) (by decide +kernel) (by decide) (fun hc => ?_) (fun hc => ?_)
    · replace h := h.1 hc
      refine xr_blk (lv1 := [(3, .int (nI 1)), (0, .ref 80), (1, .int x1), (2, .int x2)]) (st1 := []) (S1 := rt v) (pc1 := 140) [(.iconst 1, .int (nI 1), 0, 0), (.istore_n 3, .null, 0, 0)] [] (by decide +kernel) rfl trivial ?_
      exact x_R.sub [1, 2, 3, 0] rfl h
    · replace h := h.2 hc
      refine xr_blk (lv1 := [(0, .ref 80), (1, .int x1), (2, .int x2)]) (st1 := [.int (nI 3), .ref 80]) (S1 := rt v) (pc1 := 134) [(.aload_n 0, .null, 0, 0), (.iconst 3, .int (nI 3), 0, 0)] [] (by decide +kernel) rfl trivial ?_
      refine xk_VI (As := [.int (nI 3)]) (bb := 80) (rest := []) (idx := 274) (i0 := 274) (m1 := 166) (ps := [1680, 1682, 64]) (by decide +kernel) (by decide +kernel) (by decide) rfl ((gK_s (by decide)).trans (by decide +kernel)) (by decide) (Nat.le_of_ble_eq_true rfl) rfl h (fun y2 v1 h => ?_)
      obtain ⟨hz, h⟩ := h
      exact xr_zret (by decide +kernel) rfl hz ⟨_, _, rfl, rfl, h⟩
  · replace h := h.2 hc
    refine xr_blk (lv1 := [(0, .ref 80), (1, .int x1), (2, .int x2)]) (st1 := [.ref 80]) (S1 := rt v) (pc1 := 42) [(.aload_n 0, .null, 0, 0)] [] (by decide +kernel) rfl trivial ?_
    refine xk_VI (As := []) (bb := 80) (rest := []) (idx := 271) (i0 := 271) (m1 := 165) (ps := [1672, 1674, 63]) (by decide +kernel) (by decide +kernel) (by decide) rfl ((gK_s (by decide)).trans (by decide +kernel)) (by decide) (Nat.le_of_ble_eq_true rfl) rfl h (fun y4 v3 h => ?_)
    refine xr_blk (lv1 := [(0, .ref 80), (1, .int x1), (2, .int x2)]) (st1 := [.int (-1), .int y4]) (S1 := rt v3) (pc1 := 46) [(.iconst (-1), .int (-1), 0, 0)] [] (by decide +kernel) rfl trivial ?_
    refine xr_ic_ne (tgt := 55) (off := 9) (by decide +kernel) (by decide) (fun hc => ?_) (fun hc => ?_)
    · replace h := h.1 hc
      refine xr_blk (lv1 := [(0, .ref 80), (1, .int x1), (2, .int x2)]) (st1 := [.int (nI 6), .int x1]) (S1 := rt v3) (pc1 := 58) [(.iload_n 1, .null, 0, 0), (.bipush 6, .int (nI 6), 0, 0)] [] (by decide +kernel) rfl trivial ?_
      refine xr_ic_ne (tgt := 67) (off := 9) (by decide +kernel) (by decide) (fun hc => ?_) (fun hc => ?_)
      · replace h := h.1 hc
        refine xr_blk (lv1 := [(0, .ref 80), (1, .int x1), (2, .int x2)]) (st1 := [.ref 80, .int x1, .ref 98]) (S1 := rt v3) (pc1 := 73) [(.aload_n 0, .null, 0, 0), (.getfield 65, .null, 12, 35), (.iload_n 1, .null, 0, 0), (.aload_n 0, .null, 0, 0)] [] (by decide +kernel) rfl trivial ?_
        refine xk_VI (As := []) (bb := 80) (rest := [.int x1, .ref 98]) (idx := 271) (i0 := 271) (m1 := 165) (ps := [1672, 1674, 63]) (by decide +kernel) (by decide +kernel) (by decide) rfl ((gK_s (by decide)).trans (by decide +kernel)) (by decide) (Nat.le_of_ble_eq_true rfl) rfl h (fun y6 v5 h => ?_)
        obtain ⟨hb7, h⟩ := h
        refine xr_blk (lv1 := [(0, .ref 80), (1, .int x1), (2, .int x2)]) (st1 := [.ref 80]) (S1 := rt (v_A v5 98 (upd (gA v5 98) (x1).toNatClampNeg y6))) (pc1 := 78) [(.iastore, .null, 0, 0), (.aload_n 0, .null, 0, 0)] [(x1, 6)] (by decide +kernel) rfl ⟨hb7, trivial⟩ ?_
        refine xk_VV (As := []) (bb := 80) (rest := []) (idx := 280) (i0 := 280) (m1 := 163) (ps := [1661, 1663, 61]) (by decide +kernel) (by decide +kernel) (by decide) rfl ((gK_s (by decide)).trans (by decide +kernel)) (by decide) (Nat.le_of_ble_eq_true rfl) rfl h (fun v8 h => ?_)
        refine xr_blk (lv1 := [(0, .ref 80), (1, .int x1), (2, .int x2)]) (st1 := [.int (nI 3), .int (gI v8 80 26), .int x1, .ref 99]) (S1 := rt v8) (pc1 := 91) [(.aload_n 0, .null, 0, 0), (.getfield 68, .null, 12, 36), (.iload_n 1, .null, 0, 0), (.aload_n 0, .null, 0, 0), (.getfield 243, .null, 12, 26), (.iconst 3, .int (nI 3), 0, 0)] [] (by decide +kernel) rfl trivial ?_
        refine xr_ic_ne (tgt := 98) (off := 7) (by decide +kernel) (by decide) (fun hc => ?_) (fun hc => ?_)
        · replace h := h.1 hc
          obtain ⟨hb9, h⟩ := h
          obtain ⟨hb10, h⟩ := h
          refine xr_blk (lv1 := [(0, .ref 80), (1, .int x1), (2, .int x2)]) (st1 := [.int ((upd (gA v8 99) (x1).toNatClampNeg (nI 0)) (x1).toNatClampNeg)]) (S1 := rt (v_A v8 99 (upd (gA v8 99) (x1).toNatClampNeg (nI 0)))) (pc1 := 106) [(.iconst 0, .int (nI 0), 0, 0), (.bastore, .null, 0, 0), (.aload_n 0, .null, 0, 0), (.getfield 68, .null, 12, 36), (.iload_n 1, .null, 0, 0), (.baload, .null, 0, 0)] [(x1, 6), ((nI 0), 2), (x1, 6)] (by decide +kernel) rfl ⟨hb9, x_inl (by decide), hb10, trivial⟩ ?_
          refine xr_if_ne (tgt := 118) (off := 12) (by decide +kernel) (by decide) (fun hc => ?_) (fun hc => ?_)
          · replace h := h.1 hc
            refine xr_blk (lv1 := [(0, .ref 80), (1, .int x1), (2, .int x2)]) (st1 := [.ref 80]) (S1 := rt (v_A v8 99 (upd (gA v8 99) (x1).toNatClampNeg (nI 0)))) (pc1 := 119) [(.aload_n 0, .null, 0, 0)] [] (by decide +kernel) rfl trivial ?_
            refine xk_VV (As := []) (bb := 80) (rest := []) (idx := 280) (i0 := 280) (m1 := 163) (ps := [1661, 1663, 61]) (by decide +kernel) (by decide +kernel) (by decide) rfl ((gK_s (by decide)).trans (by decide +kernel)) (by decide) (Nat.le_of_ble_eq_true rfl) rfl h (fun v11 h => ?_)
            refine xr_blk (lv1 := [(1, .int (x1 + (nI 1))), (0, .ref 80), (2, .int x2)]) (st1 := []) (S1 := rt v11) (pc1 := 125) [(.iinc 1 1, .int (nI 1), 0, 0)] [] (by decide +kernel) rfl trivial ?_
            refine xr_goto (tgt := 33) (off := -92) (by decide +kernel) (by decide) ?_
            exact x_R.sub [1, 0, 2] rfl h
          · replace h := h.2 hc
            refine xr_blk (lv1 := [(0, .ref 80), (1, .int x1), (2, .int x2)]) (st1 := [.int (x2 ||| ((nI 1) <<< (x1 &&& 31)))]) (S1 := rt (v_A v8 99 (upd (gA v8 99) (x1).toNatClampNeg (nI 0)))) (pc1 := 114) [(.iload_n 2, .null, 0, 0), (.iconst 1, .int (nI 1), 0, 0), (.iload_n 1, .null, 0, 0), (.ishl, .null, 0, 0), (.ior, .null, 0, 0)] [] (by decide +kernel) rfl trivial ?_
            refine xr_topi (fun y12 ey12 => ?_)
            replace h := h y12 ey12
            refine xr_blk (lv1 := [(2, .int y12), (0, .ref 80), (1, .int x1)]) (st1 := []) (S1 := rt (v_A v8 99 (upd (gA v8 99) (x1).toNatClampNeg (nI 0)))) (pc1 := 115) [(.istore_n 2, .null, 0, 0)] [] (by decide +kernel) rfl trivial ?_
            refine xr_goto (tgt := 122) (off := 7) (by decide +kernel) (by decide) ?_
            refine xr_blk (lv1 := [(1, .int (x1 + (nI 1))), (2, .int y12), (0, .ref 80)]) (st1 := []) (S1 := rt (v_A v8 99 (upd (gA v8 99) (x1).toNatClampNeg (nI 0)))) (pc1 := 125) [(.iinc 1 1, .int (nI 1), 0, 0)] [] (by decide +kernel) rfl trivial ?_
            refine xr_goto (tgt := 33) (off := -92) (by decide +kernel) (by decide) ?_
            exact x_R.sub [2, 0, 1] rfl h
        · replace h := h.2 hc
          refine xr_blk (lv1 := [(0, .ref 80), (1, .int x1), (2, .int x2)]) (st1 := [.int (nI 1), .int x1, .ref 99]) (S1 := rt v8) (pc1 := 95) [(.iconst 1, .int (nI 1), 0, 0)] [] (by decide +kernel) rfl trivial ?_
          refine xr_goto (tgt := 99) (off := 4) (by decide +kernel) (by decide) ?_
          obtain ⟨hb13, h⟩ := h
          obtain ⟨hb14, h⟩ := h
          refine xr_blk (lv1 := [(0, .ref 80), (1, .int x1), (2, .int x2)]) (st1 := [.int ((upd (gA v8 99) (x1).toNatClampNeg (nI 1)) (x1).toNatClampNeg)]) (S1 := rt (v_A v8 99 (upd (gA v8 99) (x1).toNatClampNeg (nI 1)))) (pc1 := 106) [(.bastore, .null, 0, 0), (.aload_n 0, .null, 0, 0), (.getfield 68, .null, 12, 36), (.iload_n 1, .null, 0, 0), (.baload, .null, 0, 0)] [(x1, 6), ((nI 1), 2), (x1, 6)] (by decide +kernel) rfl ⟨hb13, x_inl (by decide), hb14, trivial⟩ ?_
          refine xr_if_ne (tgt := 118) (off := 12) (by decide +kernel) (by decide) (fun hc => ?_) (fun hc => ?_)
          · replace h := h.1 hc
            refine xr_blk (lv1 := [(0, .ref 80), (1, .int x1), (2, .int x2)]) (st1 := [.ref 80]) (S1 := rt (v_A v8 99 (upd (gA v8 99) (x1).toNatClampNeg (nI 1)))) (pc1 := 119) [(.aload_n 0, .null, 0, 0)] [] (by decide +kernel) rfl trivial ?_
            refine xk_VV (As := []) (bb := 80) (rest := []) (idx := 280) (i0 := 280) (m1 := 163) (ps := [1661, 1663, 61]) (by decide +kernel) (by decide +kernel) (by decide) rfl ((gK_s (by decide)).trans (by decide +kernel)) (by decide) (Nat.le_of_ble_eq_true rfl) rfl h (fun v15 h => ?_)
            refine xr_blk (lv1 := [(1, .int (x1 + (nI 1))), (0, .ref 80), (2, .int x2)]) (st1 := []) (S1 := rt v15) (pc1 := 125) [(.iinc 1 1, .int (nI 1), 0, 0)] [] (by decide +kernel) rfl trivial ?_
            refine xr_goto (tgt := 33) (off := -92) (by decide +kernel) (by decide) ?_
            exact x_R.sub [1, 0, 2] rfl h
          · replace h := h.2 hc
            refine xr_blk (lv1 := [(0, .ref 80), (1, .int x1), (2, .int x2)]) (st1 := [.int (x2 ||| ((nI 1) <<< (x1 &&& 31)))]) (S1 := rt (v_A v8 99 (upd (gA v8 99) (x1).toNatClampNeg (nI 1)))) (pc1 := 114) [(.iload_n 2, .null, 0, 0), (.iconst 1, .int (nI 1), 0, 0), (.iload_n 1, .null, 0, 0), (.ishl, .null, 0, 0), (.ior, .null, 0, 0)] [] (by decide +kernel) rfl trivial ?_
            refine xr_topi (fun y16 ey16 => ?_)
            replace h := h y16 ey16
            refine xr_blk (lv1 := [(2, .int y16), (0, .ref 80), (1, .int x1)]) (st1 := []) (S1 := rt (v_A v8 99 (upd (gA v8 99) (x1).toNatClampNeg (nI 1)))) (pc1 := 115) [(.istore_n 2, .null, 0, 0)] [] (by decide +kernel) rfl trivial ?_
            refine xr_goto (tgt := 122) (off := 7) (by decide +kernel) (by decide) ?_
            refine xr_blk (lv1 := [(1, .int (x1 + (nI 1))), (2, .int y16), (0, .ref 80)]) (st1 := []) (S1 := rt (v_A v8 99 (upd (gA v8 99) (x1).toNatClampNeg (nI 1)))) (pc1 := 125) [(.iinc 1 1, .int (nI 1), 0, 0)] [] (by decide +kernel) rfl trivial ?_
            refine xr_goto (tgt := 33) (off := -92) (by decide +kernel) (by decide) ?_
            exact x_R.sub [2, 0, 1] rfl h
      · replace h := h.2 hc
        refine xr_blk (lv1 := [(0, .ref 80), (1, .int x1), (2, .int x2)]) (st1 := [.int (nI 2), .ref 80]) (S1 := rt v3) (pc1 := 63) [(.aload_n 0, .null, 0, 0), (.iconst 2, .int (nI 2), 0, 0)] [] (by decide +kernel) rfl trivial ?_
        refine xk_VI (As := [.int (nI 2)]) (bb := 80) (rest := []) (idx := 274) (i0 := 274) (m1 := 166) (ps := [1680, 1682, 64]) (by decide +kernel) (by decide +kernel) (by decide) rfl ((gK_s (by decide)).trans (by decide +kernel)) (by decide) (Nat.le_of_ble_eq_true rfl) rfl h (fun y18 v17 h => ?_)
        obtain ⟨hz, h⟩ := h
        exact xr_zret (by decide +kernel) rfl hz ⟨_, _, rfl, rfl, h⟩
    · replace h := h.2 hc
      refine xr_blk (lv1 := [(0, .ref 80), (1, .int x1), (2, .int x2)]) (st1 := [.int (nI 1), .ref 80]) (S1 := rt v3) (pc1 := 51) [(.aload_n 0, .null, 0, 0), (.iconst 1, .int (nI 1), 0, 0)] [] (by decide +kernel) rfl trivial ?_
      refine xk_VI (As := [.int (nI 1)]) (bb := 80) (rest := []) (idx := 274) (i0 := 274) (m1 := 166) (ps := [1680, 1682, 64]) (by decide +kernel) (by decide +kernel) (by decide) rfl ((gK_s (by decide)).trans (by decide +kernel)) (by decide) (Nat.le_of_ble_eq_true rfl) rfl h (fun y20 v19 h => ?_)
      obtain ⟨hz, h⟩ := h
      exact xr_zret (by decide +kernel) rfl hz ⟨_, _, rfl, rfl, h⟩
set_option maxRecDepth 100000 in
theorem w_X12_readPattern_140 {E : Nat × (Nat → Int32)} {d : Nat} {v : xV} {x1 : Int32} {x2 : Int32} {x3 : Int32} {Q : Int32 → xV → Prop} (h : ((((nI 1) <<< (x1 &&& 31)) ≤ x3 → Q (nI 1) (v_I v 80 29 ((gI v 80 29) + (nI 1)))) ∧ (¬ ((nI 1) <<< (x1 &&& 31)) ≤ x3 → ((¬ (x3 &&& x2) = x2 → RI E (d + 1) 168 140 [(0, .ref 80), (1, .int x1), (2, .int x2), (3, .int (x3 + (nI 1)))] v Q) ∧ ((x3 &&& x2) = x2 → KV E d 167 [.ref 80, .int x3, .int x1] v (fun v1 => RI E (d + 1) 168 140 [(0, .ref 80), (1, .int x1), (2, .int x2), (3, .int (x3 + (nI 1)))] v1 Q)))))) : RI E (d + 1) 168 140 [(0, .ref 80), (1, .int x1), (2, .int x2), (3, .int x3)] v Q := by
  unfold RI
  refine xr_blk (lv1 := [(0, .ref 80), (1, .int x1), (2, .int x2), (3, .int x3)]) (st1 := [.int ((nI 1) <<< (x1 &&& 31)), .int x3]) (S1 := rt v) (pc1 := 144) [(.iload_n 3, .null, 0, 0), (.iconst 1, .int (nI 1), 0, 0), (.iload_n 1, .null, 0, 0), (.ishl, .null, 0, 0)] [] (by decide +kernel) rfl trivial ?_
  refine xr_ic_ge (tgt := 166) (off := 22) (by decide +kernel) (by decide) (fun hc => ?_) (fun hc => ?_)
  · replace h := h.1 hc
    refine xr_blk (lv1 := [(0, .ref 80), (1, .int x1), (2, .int x2), (3, .int x3)]) (st1 := [.int (nI 1)]) (S1 := rt (v_I v 80 29 ((gI v 80 29) + (nI 1)))) (pc1 := 177) [(.aload_n 0, .null, 0, 0), (.dup, .null, 0, 0), (.getfield 277, .null, 12, 29), (.iconst 1, .int (nI 1), 0, 0), (.iadd, .null, 0, 0), (.putfield 277, .null, 12, 29), (.iconst 1, .int (nI 1), 0, 0)] [] (by decide +kernel) rfl trivial ?_
    exact xr_zret (by decide +kernel) rfl x_in2_1 ⟨_, _, rfl, rfl, h⟩
  · replace h := h.2 hc
    refine xr_blk (lv1 := [(0, .ref 80), (1, .int x1), (2, .int x2), (3, .int x3)]) (st1 := [.int x2, .int (x3 &&& x2)]) (S1 := rt v) (pc1 := 151) [(.iload_n 3, .null, 0, 0), (.iload_n 2, .null, 0, 0), (.iand, .null, 0, 0), (.iload_n 2, .null, 0, 0)] [] (by decide +kernel) rfl trivial ?_
    refine xr_ic_ne (tgt := 160) (off := 9) (by decide +kernel) (by decide) (fun hc => ?_) (fun hc => ?_)
    · replace h := h.1 hc
      refine xr_blk (lv1 := [(3, .int (x3 + (nI 1))), (0, .ref 80), (1, .int x1), (2, .int x2)]) (st1 := []) (S1 := rt v) (pc1 := 163) [(.iinc 3 1, .int (nI 1), 0, 0)] [] (by decide +kernel) rfl trivial ?_
      refine xr_goto (tgt := 140) (off := -23) (by decide +kernel) (by decide) ?_
      exact x_R.sub [1, 2, 3, 0] rfl h
    · replace h := h.2 hc
      refine xr_blk (lv1 := [(0, .ref 80), (1, .int x1), (2, .int x2), (3, .int x3)]) (st1 := [.int x1, .int x3, .ref 80]) (S1 := rt v) (pc1 := 157) [(.aload_n 0, .null, 0, 0), (.iload_n 3, .null, 0, 0), (.iload_n 1, .null, 0, 0)] [] (by decide +kernel) rfl trivial ?_
      refine xk_VV (As := [.int x3, .int x1]) (bb := 80) (rest := []) (idx := 283) (i0 := 283) (m1 := 167) (ps := [1684, 1686, 65]) (by decide +kernel) (by decide +kernel) (by decide) rfl ((gK_s (by decide)).trans (by decide +kernel)) (by decide) (Nat.le_of_ble_eq_true rfl) rfl h (fun v1 h => ?_)
      refine xr_blk (lv1 := [(3, .int (x3 + (nI 1))), (0, .ref 80), (1, .int x1), (2, .int x2)]) (st1 := []) (S1 := rt v1) (pc1 := 163) [(.iinc 3 1, .int (nI 1), 0, 0)] [] (by decide +kernel) rfl trivial ?_
      refine xr_goto (tgt := 140) (off := -23) (by decide +kernel) (by decide) ?_
      exact x_R.sub [1, 2, 3, 0] rfl h
theorem ok_168 : x_mOK 168 := ⟨x_tm7 (List.mem_of_getElem? (i := 131) rfl) rfl, 114, by decide +kernel⟩
/-! X12_patterns: method 169, ScrawlHouseModel.patterns()I -/
set_option maxRecDepth 100000 in
theorem w_X12_patterns_0 {E : Nat × (Nat → Int32)} {d : Nat} {v : xV} {Q : Int32 → xV → Prop} (h : KI E d 151 [.ref 80] (v_I v 80 0 (nI 0)) (fun y2 v1 => KV E d 163 [.ref 80] (v_I (v_I (v_I (v_I (v_I v1 80 23 y2) 80 27 (nI 0)) 80 29 (nI 0)) 80 31 (nI 0)) 80 24 (nI 0)) (fun v3 => RI E (d + 1) 169 37 [(0, .ref 80)] v3 Q))) : RI E (d + 1) 169 0 [(0, .ref 80)] v Q := by
  unfold RI
  refine xr_blk (lv1 := [(0, .ref 80)]) (st1 := [.ref 80, .ref 80]) (S1 := rt (v_I v 80 0 (nI 0))) (pc1 := 7) [(.aload_n 0, .null, 0, 0), (.iconst 0, .int (nI 0), 0, 0), (.putfield 190, .null, 12, 0), (.aload_n 0, .null, 0, 0), (.aload_n 0, .null, 0, 0)] [] (by decide +kernel) rfl trivial ?_
  refine xk_VI (As := []) (bb := 80) (rest := [.ref 80]) (idx := 210) (i0 := 210) (m1 := 151) (ps := [1627, 1629, 58]) (by decide +kernel) (by decide +kernel) (by decide) rfl ((gK_s (by decide)).trans (by decide +kernel)) (by decide) (Nat.le_of_ble_eq_true rfl) rfl h (fun y2 v1 h => ?_)
  refine xr_blk (lv1 := [(0, .ref 80)]) (st1 := [.ref 80]) (S1 := rt (v_I (v_I (v_I (v_I (v_I v1 80 23 y2) 80 27 (nI 0)) 80 29 (nI 0)) 80 31 (nI 0)) 80 24 (nI 0))) (pc1 := 34) [(.putfield 237, .null, 12, 23), (.aload_n 0, .null, 0, 0), (.iconst 0, .int (nI 0), 0, 0), (.putfield 262, .null, 12, 27), (.aload_n 0, .null, 0, 0), (.iconst 0, .int (nI 0), 0, 0), (.putfield 277, .null, 12, 29), (.aload_n 0, .null, 0, 0), (.iconst 0, .int (nI 0), 0, 0), (.putfield 268, .null, 12, 31), (.aload_n 0, .null, 0, 0), (.iconst 0, .int (nI 0), 0, 0), (.putfield 234, .null, 12, 24), (.aload_n 0, .null, 0, 0)] [] (by decide +kernel) rfl trivial ?_
  refine xk_VV (As := []) (bb := 80) (rest := []) (idx := 280) (i0 := 280) (m1 := 163) (ps := [1661, 1663, 61]) (by decide +kernel) (by decide +kernel) (by decide) rfl ((gK_s (by decide)).trans (by decide +kernel)) (by decide) (Nat.le_of_ble_eq_true rfl) rfl h (fun v3 h => ?_)
  exact x_R.sub [0] rfl h
set_option maxRecDepth 100000 in
theorem w_X12_patterns_37 {E : Nat × (Nat → Int32)} {d : Nat} {v : xV} {Q : Int32 → xV → Prop} (h : (((gI v 80 26) = (nI 0) → RI E (d + 1) 169 75 [(0, .ref 80), (1, .int (nI 0))] (v_I v 80 30 (gI v 80 31)) Q) ∧ (¬ (gI v 80 26) = (nI 0) → KI E d 168 [.ref 80] v (fun y2 v1 => ((¬ y2 = (nI 0) → KV E d 163 [.ref 80] v1 (fun v3 => RI E (d + 1) 169 37 [(0, .ref 80)] v3 Q)) ∧ (y2 = (nI 0) → Q ((-1 : Int32) - (gI v1 80 28)) v1)))))) : RI E (d + 1) 169 37 [(0, .ref 80)] v Q := by
  unfold RI
  refine xr_blk (lv1 := [(0, .ref 80)]) (st1 := [.int (gI v 80 26)]) (S1 := rt v) (pc1 := 41) [(.aload_n 0, .null, 0, 0), (.getfield 243, .null, 12, 26)] [] (by decide +kernel) rfl trivial ?_
  refine xr_if_eq (tgt := 65) (off := 24) (by decide +kernel) (by decide) (fun hc => ?_) (fun hc => ?_)
  · replace h := h.1 hc
    refine xr_blk (lv1 := [(1, .int (nI 0)), (0, .ref 80)]) (st1 := []) (S1 := rt (v_I v 80 30 (gI v 80 31))) (pc1 := 75) [(.aload_n 0, .null, 0, 0), (.aload_n 0, .null, 0, 0), (.getfield 268, .null, 12, 31), (.putfield 291, .null, 12, 30), (.iconst 0, .int (nI 0), 0, 0), (.istore_n 1, .null, 0, 0)] [] (by decide +kernel) rfl trivial ?_
    exact x_R.sub [1, 0] rfl h
  · replace h := h.2 hc
    refine xr_blk (lv1 := [(0, .ref 80)]) (st1 := [.ref 80]) (S1 := rt v) (pc1 := 45) [(.aload_n 0, .null, 0, 0)] [] (by decide +kernel) rfl trivial ?_
    refine xk_VI (As := []) (bb := 80) (rest := []) (idx := 287) (i0 := 287) (m1 := 168) (ps := [1668, 1670, 62]) (by decide +kernel) (by decide +kernel) (by decide) rfl ((gK_s (by decide)).trans (by decide +kernel)) (by decide) (Nat.le_of_ble_eq_true rfl) rfl h (fun y2 v1 h => ?_)
    refine xr_if_ne (tgt := 58) (off := 10) (by decide +kernel) (by decide) (fun hc => ?_) (fun hc => ?_)
    · replace h := h.1 hc
      refine xr_blk (lv1 := [(0, .ref 80)]) (st1 := [.ref 80]) (S1 := rt v1) (pc1 := 59) [(.aload_n 0, .null, 0, 0)] [] (by decide +kernel) rfl trivial ?_
      refine xk_VV (As := []) (bb := 80) (rest := []) (idx := 280) (i0 := 280) (m1 := 163) (ps := [1661, 1663, 61]) (by decide +kernel) (by decide +kernel) (by decide) rfl ((gK_s (by decide)).trans (by decide +kernel)) (by decide) (Nat.le_of_ble_eq_true rfl) rfl h (fun v3 h => ?_)
      refine xr_goto (tgt := 37) (off := -25) (by decide +kernel) (by decide) ?_
      exact x_R.sub [0] rfl h
    · replace h := h.2 hc
      refine xr_blk (lv1 := [(0, .ref 80)]) (st1 := [.int ((-1 : Int32) - (gI v1 80 28))]) (S1 := rt v1) (pc1 := 57) [(.iconst (-1), .int (-1), 0, 0), (.aload_n 0, .null, 0, 0), (.getfield 265, .null, 12, 28), (.isub, .null, 0, 0)] [] (by decide +kernel) rfl trivial ?_
      exact xr_iret (by decide +kernel) rfl ⟨_, _, rfl, rfl, h⟩
set_option maxRecDepth 100000 in
theorem w_X12_patterns_75 {E : Nat × (Nat → Int32)} {d : Nat} {v : xV} {x1 : Int32} {Q : Int32 → xV → Prop} (h : (((gI v 80 30) ≤ x1 → Q (gI v 80 29) (v_I (v_I v 80 37 (gI v 80 29)) 80 6 ((gI v 80 6) + (nI 1)))) ∧ (¬ (gI v 80 30) ≤ x1 → vp_in ((nI 256) + x1) 512 ∧ vp_in x1 512 ∧ RI E (d + 1) 169 101 [(0, .ref 80), (1, .int x1), (2, .int (nI 0))] (v_A v 96 (upd (gA v 96) (x1).toNatClampNeg ((gA v 96) (((nI 256) + x1)).toNatClampNeg))) Q))) : RI E (d + 1) 169 75 [(0, .ref 80), (1, .int x1)] v Q := by
  unfold RI
  refine xr_blk (lv1 := [(0, .ref 80), (1, .int x1)]) (st1 := [.int (gI v 80 30), .int x1]) (S1 := rt v) (pc1 := 80) [(.iload_n 1, .null, 0, 0), (.aload_n 0, .null, 0, 0), (.getfield 291, .null, 12, 30)] [] (by decide +kernel) rfl trivial ?_
  refine xr_ic_ge (tgt := 145) (off := 65) (by decide +kernel) (by decide) (fun hc => ?_) (fun hc => ?_)
  · replace h := h.1 hc
    refine xr_blk (lv1 := [(0, .ref 80), (1, .int x1)]) (st1 := [.int (gI v 80 29)]) (S1 := rt (v_I (v_I v 80 37 (gI v 80 29)) 80 6 ((gI v 80 6) + (nI 1)))) (pc1 := 167) [(.aload_n 0, .null, 0, 0), (.aload_n 0, .null, 0, 0), (.getfield 277, .null, 12, 29), (.putfield 294, .null, 12, 37), (.aload_n 0, .null, 0, 0), (.dup, .null, 0, 0), (.getfield 16, .null, 12, 6), (.iconst 1, .int (nI 1), 0, 0), (.iadd, .null, 0, 0), (.putfield 16, .null, 12, 6), (.aload_n 0, .null, 0, 0), (.getfield 277, .null, 12, 29)] [] (by decide +kernel) rfl trivial ?_
    exact xr_iret (by decide +kernel) rfl ⟨_, _, rfl, rfl, h⟩
  · replace h := h.2 hc
    obtain ⟨hb1, h⟩ := h
    obtain ⟨hb2, h⟩ := h
    refine xr_blk (lv1 := [(2, .int (nI 0)), (0, .ref 80), (1, .int x1)]) (st1 := []) (S1 := rt (v_A v 96 (upd (gA v 96) (x1).toNatClampNeg ((gA v 96) (((nI 256) + x1)).toNatClampNeg)))) (pc1 := 101) [(.aload_n 0, .null, 0, 0), (.getfield 59, .null, 12, 33), (.iload_n 1, .null, 0, 0), (.aload_n 0, .null, 0, 0), (.getfield 59, .null, 12, 33), (.sipush 256, .int (nI 256), 0, 0), (.iload_n 1, .null, 0, 0), (.iadd, .null, 0, 0), (.iaload, .null, 0, 0), (.iastore, .null, 0, 0), (.iconst 0, .int (nI 0), 0, 0), (.istore_n 2, .null, 0, 0)] [(((nI 256) + x1), 512), (x1, 512)] (by decide +kernel) rfl ⟨hb1, hb2, trivial⟩ ?_
    exact x_R.sub [1, 2, 0] rfl h
set_option maxRecDepth 100000 in
theorem w_X12_patterns_101 {E : Nat × (Nat → Int32)} {d : Nat} {v : xV} {x1 : Int32} {x2 : Int32} {Q : Int32 → xV → Prop} (h : (((nI 6) ≤ x2 → RI E (d + 1) 169 75 [(0, .ref 80), (1, .int (x1 + (nI 1)))] v Q) ∧ (¬ (nI 6) ≤ x2 → vp_in (((nI 6) * ((nI 256) + x1)) + x2) 3072 ∧ vp_in (((nI 6) * x1) + x2) 3072 ∧ RI E (d + 1) 169 101 [(0, .ref 80), (1, .int x1), (2, .int (x2 + (nI 1)))] (v_A v 97 (upd (gA v 97) ((((nI 6) * x1) + x2)).toNatClampNeg ((gA v 97) ((((nI 6) * ((nI 256) + x1)) + x2)).toNatClampNeg))) Q))) : RI E (d + 1) 169 101 [(0, .ref 80), (1, .int x1), (2, .int x2)] v Q := by
  unfold RI
  refine xr_blk (lv1 := [(0, .ref 80), (1, .int x1), (2, .int x2)]) (st1 := [.int (nI 6), .int x2]) (S1 := rt v) (pc1 := 104) [(.iload_n 2, .null, 0, 0), (.bipush 6, .int (nI 6), 0, 0)] [] (by decide +kernel) rfl trivial ?_
  refine xr_ic_ge (tgt := 139) (off := 35) (by decide +kernel) (by decide) (fun hc => ?_) (fun hc => ?_)
  · replace h := h.1 hc
    refine xr_blk (lv1 := [(1, .int (x1 + (nI 1))), (0, .ref 80), (2, .int x2)]) (st1 := []) (S1 := rt v) (pc1 := 142) [(.iinc 1 1, .int (nI 1), 0, 0)] [] (by decide +kernel) rfl trivial ?_
    refine xr_goto (tgt := 75) (off := -67) (by decide +kernel) (by decide) ?_
    exact x_R.sub [1, 0] rfl h
  · replace h := h.2 hc
    obtain ⟨hb1, h⟩ := h
    obtain ⟨hb2, h⟩ := h
    refine xr_blk (lv1 := [(2, .int (x2 + (nI 1))), (0, .ref 80), (1, .int x1)]) (st1 := []) (S1 := rt (v_A v 97 (upd (gA v 97) ((((nI 6) * x1) + x2)).toNatClampNeg ((gA v 97) ((((nI 6) * ((nI 256) + x1)) + x2)).toNatClampNeg)))) (pc1 := 136) [(.aload_n 0, .null, 0, 0), (.getfield 62, .null, 12, 34), (.bipush 6, .int (nI 6), 0, 0), (.iload_n 1, .null, 0, 0), (.imul, .null, 0, 0), (.iload_n 2, .null, 0, 0), (.iadd, .null, 0, 0), (.aload_n 0, .null, 0, 0), (.getfield 62, .null, 12, 34), (.bipush 6, .int (nI 6), 0, 0), (.sipush 256, .int (nI 256), 0, 0), (.iload_n 1, .null, 0, 0), (.iadd, .null, 0, 0), (.imul, .null, 0, 0), (.iload_n 2, .null, 0, 0), (.iadd, .null, 0, 0), (.iaload, .null, 0, 0), (.iastore, .null, 0, 0), (.iinc 2 1, .int (nI 1), 0, 0)] [((((nI 6) * ((nI 256) + x1)) + x2), 3072), ((((nI 6) * x1) + x2), 3072)] (by decide +kernel) rfl ⟨hb1, hb2, trivial⟩ ?_
    refine xr_goto (tgt := 101) (off := -35) (by decide +kernel) (by decide) ?_
    exact x_R.sub [1, 2, 0] rfl h
theorem ok_169 : x_mOK 169 := ⟨x_tm7 (List.mem_of_getElem? (i := 120) rfl) rfl, 114, by decide +kernel⟩
/-! X12_fault: method 170, ScrawlHouseModel.fault()I -/
set_option maxRecDepth 100000 in
theorem w_X12_fault_0 {E : Nat × (Nat → Int32)} {d : Nat} {v : xV} {Q : Int32 → xV → Prop} (h : Q (gI v 80 27) (v_I v 80 0 (nI 0))) : RI E d 170 0 [(0, .ref 80)] v Q := by
  unfold RI
  refine xr_blk (lv1 := [(0, .ref 80)]) (st1 := [.int (gI v 80 27)]) (S1 := rt (v_I v 80 0 (nI 0))) (pc1 := 9) [(.aload_n 0, .null, 0, 0), (.iconst 0, .int (nI 0), 0, 0), (.putfield 190, .null, 12, 0), (.aload_n 0, .null, 0, 0), (.getfield 262, .null, 12, 27)] [] (by decide +kernel) rfl trivial ?_
  exact xr_iret (by decide +kernel) rfl ⟨_, _, rfl, rfl, h⟩
theorem ok_170 : x_mOK 170 := ⟨x_tm7 (List.mem_of_getElem? (i := 151) rfl) rfl, 114, by decide +kernel⟩
/-! X12_scrawl: method 171, ScrawlHouseModel.scrawl(III)I -/
set_option maxRecDepth 100000 in
theorem w_X12_scrawl_0 {E : Nat × (Nat → Int32)} {d : Nat} {v : xV} {x1 : Int32} {x2 : Int32} {x3 : Int32} {Q : Int32 → xV → Prop} (h : (((gI v 80 50) = (nI 20) → Q (-1 : Int32) (v_I v 80 0 (nI 0))) ∧ (¬ (gI v 80 50) = (nI 20) → KI E d 152 [.int x1, .int (nI 0), .int ((gI v 80 22) - (nI 1))] (v_I v 80 0 (nI 0)) (fun y2 v1 => ((y2 = (nI 0) → Q (-1 : Int32) v1) ∧ (¬ y2 = (nI 0) → vp_in x1 8 ∧ KI E d 152 [.int x2, .int (nI 0), .int (((gA v1 92) (x1).toNatClampNeg) - (nI 1))] v1 (fun y5 v4 => ((y5 = (nI 0) → Q (-1 : Int32) v4) ∧ (¬ y5 = (nI 0) → KI E d 152 [.int x3, .int (nI 1), .int (nI 24)] v4 (fun y7 v6 => ((¬ y7 = (nI 0) → vp_in (gI v6 80 50) 20 ∧ vp_in (gI v6 80 50) 20 ∧ vp_in (gI v6 80 50) 20 ∧ vp_in (gI v6 80 50) 20 ∧ Q (((gI v6 80 50) + (nI 1)) - (nI 1)) (v_I (v_I (v_A (v_A (v_A (v_A v6 100 (upd (gA v6 100) ((gI v6 80 50)).toNatClampNeg x1)) 101 (upd (gA v6 101) ((gI v6 80 50)).toNatClampNeg x2)) 102 (upd (gA v6 102) ((gI v6 80 50)).toNatClampNeg x3)) 103 (upd (gA v6 103) ((gI v6 80 50)).toNatClampNeg (gI v6 80 5))) 80 50 ((gI v6 80 50) + (nI 1))) 80 6 ((gI v6 80 6) + (nI 1)))) ∧ (y7 = (nI 0) → Q (-1 : Int32) v6)))))))))))) : RI E (d + 1) 171 0 [(0, .ref 80), (1, .int x1), (2, .int x2), (3, .int x3)] v Q := by
  unfold RI
  refine xr_blk (lv1 := [(0, .ref 80), (1, .int x1), (2, .int x2), (3, .int x3)]) (st1 := [.int (nI 20), .int (gI v 80 50)]) (S1 := rt (v_I v 80 0 (nI 0))) (pc1 := 11) [(.aload_n 0, .null, 0, 0), (.iconst 0, .int (nI 0), 0, 0), (.putfield 190, .null, 12, 0), (.aload_n 0, .null, 0, 0), (.getfield 297, .null, 12, 50), (.bipush 20, .int (nI 20), 0, 0)] [] (by decide +kernel) rfl trivial ?_
  refine xr_ic_eq (tgt := 54) (off := 43) (by decide +kernel) (by decide) (fun hc => ?_) (fun hc => ?_)
  · replace h := h.1 hc
    refine xr_blk (lv1 := [(0, .ref 80), (1, .int x1), (2, .int x2), (3, .int x3)]) (st1 := [.int (-1)]) (S1 := rt (v_I v 80 0 (nI 0))) (pc1 := 55) [(.iconst (-1), .int (-1), 0, 0)] [] (by decide +kernel) rfl trivial ?_
    exact xr_iret (by decide +kernel) rfl ⟨_, _, rfl, rfl, h⟩
  · replace h := h.2 hc
    refine xr_blk (lv1 := [(0, .ref 80), (1, .int x1), (2, .int x2), (3, .int x3)]) (st1 := [.int ((gI v 80 22) - (nI 1)), .int (nI 0), .int x1]) (S1 := rt (v_I v 80 0 (nI 0))) (pc1 := 22) [(.iload_n 1, .null, 0, 0), (.iconst 0, .int (nI 0), 0, 0), (.aload_n 0, .null, 0, 0), (.getfield 228, .null, 12, 22), (.iconst 1, .int (nI 1), 0, 0), (.isub, .null, 0, 0)] [] (by decide +kernel) rfl trivial ?_
    refine xk_SI (As := [.int x1, .int (nI 0), .int ((gI v 80 22) - (nI 1))]) (rest := []) (idx := 200) (i0 := 200) (m1 := 152) (ps := [1616, 1617]) (by decide +kernel) (by decide +kernel) (by decide) rfl (Nat.le_of_ble_eq_true rfl) rfl h (fun y2 v1 h => ?_)
    refine xr_if_eq (tgt := 54) (off := 29) (by decide +kernel) (by decide) (fun hc => ?_) (fun hc => ?_)
    · replace h := h.1 hc
      refine xr_blk (lv1 := [(0, .ref 80), (1, .int x1), (2, .int x2), (3, .int x3)]) (st1 := [.int (-1)]) (S1 := rt v1) (pc1 := 55) [(.iconst (-1), .int (-1), 0, 0)] [] (by decide +kernel) rfl trivial ?_
      exact xr_iret (by decide +kernel) rfl ⟨_, _, rfl, rfl, h⟩
    · replace h := h.2 hc
      obtain ⟨hb3, h⟩ := h
      refine xr_blk (lv1 := [(0, .ref 80), (1, .int x1), (2, .int x2), (3, .int x3)]) (st1 := [.int (((gA v1 92) (x1).toNatClampNeg) - (nI 1)), .int (nI 0), .int x2]) (S1 := rt v1) (pc1 := 38) [(.iload_n 2, .null, 0, 0), (.iconst 0, .int (nI 0), 0, 0), (.aload_n 0, .null, 0, 0), (.getfield 47, .null, 12, 16), (.iload_n 1, .null, 0, 0), (.iaload, .null, 0, 0), (.iconst 1, .int (nI 1), 0, 0), (.isub, .null, 0, 0)] [(x1, 8)] (by decide +kernel) rfl ⟨hb3, trivial⟩ ?_
      refine xk_SI (As := [.int x2, .int (nI 0), .int (((gA v1 92) (x1).toNatClampNeg) - (nI 1))]) (rest := []) (idx := 200) (i0 := 200) (m1 := 152) (ps := [1616, 1617]) (by decide +kernel) (by decide +kernel) (by decide) rfl (Nat.le_of_ble_eq_true rfl) rfl h (fun y5 v4 h => ?_)
      refine xr_if_eq (tgt := 54) (off := 13) (by decide +kernel) (by decide) (fun hc => ?_) (fun hc => ?_)
      · replace h := h.1 hc
        refine xr_blk (lv1 := [(0, .ref 80), (1, .int x1), (2, .int x2), (3, .int x3)]) (st1 := [.int (-1)]) (S1 := rt v4) (pc1 := 55) [(.iconst (-1), .int (-1), 0, 0)] [] (by decide +kernel) rfl trivial ?_
        exact xr_iret (by decide +kernel) rfl ⟨_, _, rfl, rfl, h⟩
      · replace h := h.2 hc
        refine xr_blk (lv1 := [(0, .ref 80), (1, .int x1), (2, .int x2), (3, .int x3)]) (st1 := [.int (nI 24), .int (nI 1), .int x3]) (S1 := rt v4) (pc1 := 48) [(.iload_n 3, .null, 0, 0), (.iconst 1, .int (nI 1), 0, 0), (.bipush 24, .int (nI 24), 0, 0)] [] (by decide +kernel) rfl trivial ?_
        refine xk_SI (As := [.int x3, .int (nI 1), .int (nI 24)]) (rest := []) (idx := 200) (i0 := 200) (m1 := 152) (ps := [1616, 1617]) (by decide +kernel) (by decide +kernel) (by decide) rfl (Nat.le_of_ble_eq_true rfl) rfl h (fun y7 v6 h => ?_)
        refine xr_if_ne (tgt := 56) (off := 5) (by decide +kernel) (by decide) (fun hc => ?_) (fun hc => ?_)
        · replace h := h.1 hc
          obtain ⟨hb8, h⟩ := h
          obtain ⟨hb9, h⟩ := h
          obtain ⟨hb10, h⟩ := h
          obtain ⟨hb11, h⟩ := h
          refine xr_blk (lv1 := [(0, .ref 80), (1, .int x1), (2, .int x2), (3, .int x3)]) (st1 := [.int (((gI v6 80 50) + (nI 1)) - (nI 1))]) (S1 := rt (v_I (v_I (v_A (v_A (v_A (v_A v6 100 (upd (gA v6 100) ((gI v6 80 50)).toNatClampNeg x1)) 101 (upd (gA v6 101) ((gI v6 80 50)).toNatClampNeg x2)) 102 (upd (gA v6 102) ((gI v6 80 50)).toNatClampNeg x3)) 103 (upd (gA v6 103) ((gI v6 80 50)).toNatClampNeg (gI v6 80 5))) 80 50 ((gI v6 80 50) + (nI 1))) 80 6 ((gI v6 80 6) + (nI 1)))) (pc1 := 125) [(.aload_n 0, .null, 0, 0), (.getfield 72, .null, 12, 38), (.aload_n 0, .null, 0, 0), (.getfield 297, .null, 12, 50), (.iload_n 1, .null, 0, 0), (.iastore, .null, 0, 0), (.aload_n 0, .null, 0, 0), (.getfield 75, .null, 12, 39), (.aload_n 0, .null, 0, 0), (.getfield 297, .null, 12, 50), (.iload_n 2, .null, 0, 0), (.iastore, .null, 0, 0), (.aload_n 0, .null, 0, 0), (.getfield 78, .null, 12, 40), (.aload_n 0, .null, 0, 0), (.getfield 297, .null, 12, 50), (.iload_n 3, .null, 0, 0), (.iastore, .null, 0, 0), (.aload_n 0, .null, 0, 0), (.getfield 81, .null, 12, 41), (.aload_n 0, .null, 0, 0), (.getfield 297, .null, 12, 50), (.aload_n 0, .null, 0, 0), (.getfield 204, .null, 12, 5), (.iastore, .null, 0, 0), (.aload_n 0, .null, 0, 0), (.dup, .null, 0, 0), (.getfield 297, .null, 12, 50), (.iconst 1, .int (nI 1), 0, 0), (.iadd, .null, 0, 0), (.putfield 297, .null, 12, 50), (.aload_n 0, .null, 0, 0), (.dup, .null, 0, 0), (.getfield 16, .null, 12, 6), (.iconst 1, .int (nI 1), 0, 0), (.iadd, .null, 0, 0), (.putfield 16, .null, 12, 6), (.aload_n 0, .null, 0, 0), (.getfield 297, .null, 12, 50), (.iconst 1, .int (nI 1), 0, 0), (.isub, .null, 0, 0)] [((gI v6 80 50), 20), ((gI v6 80 50), 20), ((gI v6 80 50), 20), ((gI v6 80 50), 20)] (by decide +kernel) rfl ⟨hb8, hb9, hb10, hb11, trivial⟩ ?_
          exact xr_iret (by decide +kernel) rfl ⟨_, _, rfl, rfl, h⟩
        · replace h := h.2 hc
          refine xr_blk (lv1 := [(0, .ref 80), (1, .int x1), (2, .int x2), (3, .int x3)]) (st1 := [.int (-1)]) (S1 := rt v6) (pc1 := 55) [(.iconst (-1), .int (-1), 0, 0)] [] (by decide +kernel) rfl trivial ?_
          exact xr_iret (by decide +kernel) rfl ⟨_, _, rfl, rfl, h⟩
theorem ok_171 : x_mOK 171 := ⟨x_tm7 (List.mem_of_getElem? (i := 155) rfl) rfl, 114, by decide +kernel⟩
/-! X12_isScrawl: method 172, ScrawlHouseModel.isScrawl(I)Z -/
set_option maxRecDepth 100000 in
theorem w_X12_isScrawl_0 {E : Nat × (Nat → Int32)} {d : Nat} {v : xV} {x1 : Int32} {Q : Int32 → xV → Prop} (h : ((x1 < (nI 0) → Q (nI 0) v) ∧ (¬ x1 < (nI 0) → (((gI v 80 50) ≤ x1 → Q (nI 0) v) ∧ (¬ (gI v 80 50) ≤ x1 → Q (nI 1) v))))) : RI E d 172 0 [(0, .ref 80), (1, .int x1)] v Q := by
  unfold RI
  refine xr_blk (lv1 := [(0, .ref 80), (1, .int x1)]) (st1 := [.int x1]) (S1 := rt v) (pc1 := 1) [(.iload_n 1, .null, 0, 0)] [] (by decide +kernel) rfl trivial ?_
  refine xr_if_lt (tgt := 16) (off := 15) (by decide +kernel) (by decide) (fun hc => ?_) (fun hc => ?_)
  · replace h := h.1 hc
    refine xr_blk (lv1 := [(0, .ref 80), (1, .int x1)]) (st1 := [.int (nI 0)]) (S1 := rt v) (pc1 := 17) [(.iconst 0, .int (nI 0), 0, 0)] [] (by decide +kernel) rfl trivial ?_
    exact xr_zret (by decide +kernel) rfl x_in2_0 ⟨_, _, rfl, rfl, h⟩
  · replace h := h.2 hc
    refine xr_blk (lv1 := [(0, .ref 80), (1, .int x1)]) (st1 := [.int (gI v 80 50), .int x1]) (S1 := rt v) (pc1 := 9) [(.iload_n 1, .null, 0, 0), (.aload_n 0, .null, 0, 0), (.getfield 297, .null, 12, 50)] [] (by decide +kernel) rfl trivial ?_
    refine xr_ic_ge (tgt := 16) (off := 7) (by decide +kernel) (by decide) (fun hc => ?_) (fun hc => ?_)
    · replace h := h.1 hc
      refine xr_blk (lv1 := [(0, .ref 80), (1, .int x1)]) (st1 := [.int (nI 0)]) (S1 := rt v) (pc1 := 17) [(.iconst 0, .int (nI 0), 0, 0)] [] (by decide +kernel) rfl trivial ?_
      exact xr_zret (by decide +kernel) rfl x_in2_0 ⟨_, _, rfl, rfl, h⟩
    · replace h := h.2 hc
      refine xr_blk (lv1 := [(0, .ref 80), (1, .int x1)]) (st1 := [.int (nI 1)]) (S1 := rt v) (pc1 := 13) [(.iconst 1, .int (nI 1), 0, 0)] [] (by decide +kernel) rfl trivial ?_
      refine xr_goto (tgt := 17) (off := 4) (by decide +kernel) (by decide) ?_
      exact xr_zret (by decide +kernel) rfl x_in2_1 ⟨_, _, rfl, rfl, h⟩
theorem ok_172 : x_mOK 172 := ⟨x_tm7 (List.mem_of_getElem? (i := 163) rfl) rfl, 114, by decide +kernel⟩
/-! X12_isKnown: method 173, ScrawlHouseModel.isKnown(II)Z -/
set_option maxRecDepth 100000 in
theorem w_X12_isKnown_0 {E : Nat × (Nat → Int32)} {d : Nat} {v : xV} {x1 : Int32} {x2 : Int32} {Q : Int32 → xV → Prop} (h : KI E d 172 [.ref 80, .int x1] v (fun y2 v1 => ((y2 = (nI 0) → Q (nI 0) v1) ∧ (¬ y2 = (nI 0) → vp_in x1 20 ∧ ((x2 < ((gA v1 103) (x1).toNatClampNeg) → Q (nI 0) v1) ∧ (¬ x2 < ((gA v1 103) (x1).toNatClampNeg) → Q (nI 1) v1)))))) : RI E (d + 1) 173 0 [(0, .ref 80), (1, .int x1), (2, .int x2)] v Q := by
  unfold RI
  refine xr_blk (lv1 := [(0, .ref 80), (1, .int x1), (2, .int x2)]) (st1 := [.int x1, .ref 80]) (S1 := rt v) (pc1 := 2) [(.aload_n 0, .null, 0, 0), (.iload_n 1, .null, 0, 0)] [] (by decide +kernel) rfl trivial ?_
  refine xk_VI (As := [.int x1]) (bb := 80) (rest := []) (idx := 300) (i0 := 300) (m1 := 172) (ps := [1700, 1702, 66]) (by decide +kernel) (by decide +kernel) (by decide) rfl ((gK_s (by decide)).trans (by decide +kernel)) (by decide) (Nat.le_of_ble_eq_true rfl) rfl h (fun y2 v1 h => ?_)
  refine xr_if_eq (tgt := 22) (off := 17) (by decide +kernel) (by decide) (fun hc => ?_) (fun hc => ?_)
  · replace h := h.1 hc
    refine xr_blk (lv1 := [(0, .ref 80), (1, .int x1), (2, .int x2)]) (st1 := [.int (nI 0)]) (S1 := rt v1) (pc1 := 23) [(.iconst 0, .int (nI 0), 0, 0)] [] (by decide +kernel) rfl trivial ?_
    exact xr_zret (by decide +kernel) rfl x_in2_0 ⟨_, _, rfl, rfl, h⟩
  · replace h := h.2 hc
    obtain ⟨hb3, h⟩ := h
    refine xr_blk (lv1 := [(0, .ref 80), (1, .int x1), (2, .int x2)]) (st1 := [.int x2, .int ((gA v1 103) (x1).toNatClampNeg)]) (S1 := rt v1) (pc1 := 15) [(.aload_n 0, .null, 0, 0), (.getfield 81, .null, 12, 41), (.iload_n 1, .null, 0, 0), (.iaload, .null, 0, 0), (.iload_n 2, .null, 0, 0)] [(x1, 20)] (by decide +kernel) rfl ⟨hb3, trivial⟩ ?_
    refine xr_ic_gt (tgt := 22) (off := 7) (by decide +kernel) (by decide) (fun hc => ?_) (fun hc => ?_)
    · replace h := h.1 hc
      refine xr_blk (lv1 := [(0, .ref 80), (1, .int x1), (2, .int x2)]) (st1 := [.int (nI 0)]) (S1 := rt v1) (pc1 := 23) [(.iconst 0, .int (nI 0), 0, 0)] [] (by decide +kernel) rfl trivial ?_
      exact xr_zret (by decide +kernel) rfl x_in2_0 ⟨_, _, rfl, rfl, h⟩
    · replace h := h.2 hc
      refine xr_blk (lv1 := [(0, .ref 80), (1, .int x1), (2, .int x2)]) (st1 := [.int (nI 1)]) (S1 := rt v1) (pc1 := 19) [(.iconst 1, .int (nI 1), 0, 0)] [] (by decide +kernel) rfl trivial ?_
      refine xr_goto (tgt := 23) (off := 4) (by decide +kernel) (by decide) ?_
      exact xr_zret (by decide +kernel) rfl x_in2_1 ⟨_, _, rfl, rfl, h⟩
theorem ok_173 : x_mOK 173 := ⟨x_tm7 (List.mem_of_getElem? (i := 175) rfl) rfl, 114, by decide +kernel⟩

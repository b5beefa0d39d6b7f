/-! X12_isBy: method 186, ScrawlHouseModel.isBy(IIIII)Z -/
set_option maxRecDepth 100000 in
theorem w_X12_isBy_0 {E : Nat × (Nat → Int32)} {d : Nat} {v : xV} {x1 : Int32} {x2 : Int32} {x3 : Int32} {x4 : Int32} {x5 : Int32} {Q : Int32 → xV → Prop} (h : vp_in x1 512 ∧ ((((gA v 96) (x1).toNatClampNeg) ≤ x3 → Q (nI 0) v) ∧ (¬ ((gA v 96) (x1).toNatClampNeg) ≤ x3 → vp_in (((nI 6) * x1) + x3) 3072 ∧ vp_in x2 80 ∧ ((¬ ((gA v 97) ((((nI 6) * x1) + x3)).toNatClampNeg) = ((gA v 87) (x2).toNatClampNeg) → Q (nI 0) v) ∧ (((gA v 97) ((((nI 6) * x1) + x3)).toNatClampNeg) = ((gA v 87) (x2).toNatClampNeg) → vp_in (((nI 24) * x2) + x4) 1920 ∧ (((nI 100000000) ≤ ((gA v 113) ((((nI 24) * x2) + x4)).toNatClampNeg) → Q (nI 0) v) ∧ (¬ (nI 100000000) ≤ ((gA v 113) ((((nI 24) * x2) + x4)).toNatClampNeg) → vp_in (((nI 24) * x2) + x4) 1920 ∧ vp_in x2 80 ∧ KI E d 181 [.int x1, .int (x3 + (nI 1)), .int (x4 + ((gA v 86) (x2).toNatClampNeg))] v (fun y8 v7 => vp_in y8 44800 ∧ ((¬ (((gA v 113) ((((nI 24) * x2) + x4)).toNatClampNeg) + ((gA v7 114) (y8).toNatClampNeg)) = x5 → Q (nI 0) v7) ∧ ((((gA v 113) ((((nI 24) * x2) + x4)).toNatClampNeg) + ((gA v7 114) (y8).toNatClampNeg)) = x5 → Q (nI 1) v7)))))))))) : RI E (d + 1) 186 0 [(0, .ref 80), (1, .int x1), (2, .int x2), (3, .int x3), (4, .int x4), (5, .int x5)] v Q := by
  unfold RI
  obtain ⟨hb1, h⟩ := h
  refine xr_blk (lv1 := [(0, .ref 80), (1, .int x1), (2, .int x2), (3, .int x3), (4, .int x4), (5, .int x5)]) (st1 := [.int ((gA v 96) (x1).toNatClampNeg), .int x3]) (S1 := rt v) (pc1 := 7) [(.iload_n 3, .null, 0, 0), (.aload_n 0, .null, 0, 0), (.getfield 59, .null, 12, 33), (.iload_n 1, .null, 0, 0), (.iaload, .null, 0, 0)] [(x1, 512)] (by decide +kernel) rfl ⟨hb1, trivial⟩ ?_
  refine xr_ic_ge (tgt := 91) (off := 84) (by decide +kernel) (by decide) (fun hc => ?_) (fun hc => ?_)
  · replace h := h.1 hc
    refine xr_blk (lv1 := [(0, .ref 80), (1, .int x1), (2, .int x2), (3, .int x3), (4, .int x4), (5, .int x5)]) (st1 := [.int (nI 0)]) (S1 := rt v) (pc1 := 92) [(.iconst 0, .int (nI 0), 0, 0)] [] (by decide +kernel) rfl trivial ?_
    exact xr_zret (by decide +kernel) rfl x_in2_0 ⟨_, _, rfl, rfl, h⟩
  · replace h := h.2 hc
    obtain ⟨hb2, h⟩ := h
    obtain ⟨hb3, h⟩ := h
    refine xr_blk (lv1 := [(0, .ref 80), (1, .int x1), (2, .int x2), (3, .int x3), (4, .int x4), (5, .int x5)]) (st1 := [.int ((gA v 87) (x2).toNatClampNeg), .int ((gA v 97) ((((nI 6) * x1) + x3)).toNatClampNeg)]) (S1 := rt v) (pc1 := 27) [(.aload_n 0, .null, 0, 0), (.getfield 62, .null, 12, 34), (.bipush 6, .int (nI 6), 0, 0), (.iload_n 1, .null, 0, 0), (.imul, .null, 0, 0), (.iload_n 3, .null, 0, 0), (.iadd, .null, 0, 0), (.iaload, .null, 0, 0), (.aload_n 0, .null, 0, 0), (.getfield 32, .null, 12, 11), (.iload_n 2, .null, 0, 0), (.iaload, .null, 0, 0)] [((((nI 6) * x1) + x3), 3072), (x2, 80)] (by decide +kernel) rfl ⟨hb2, hb3, trivial⟩ ?_
    refine xr_ic_ne (tgt := 91) (off := 64) (by decide +kernel) (by decide) (fun hc => ?_) (fun hc => ?_)
    · replace h := h.1 hc
      refine xr_blk (lv1 := [(0, .ref 80), (1, .int x1), (2, .int x2), (3, .int x3), (4, .int x4), (5, .int x5)]) (st1 := [.int (nI 0)]) (S1 := rt v) (pc1 := 92) [(.iconst 0, .int (nI 0), 0, 0)] [] (by decide +kernel) rfl trivial ?_
      exact xr_zret (by decide +kernel) rfl x_in2_0 ⟨_, _, rfl, rfl, h⟩
    · replace h := h.2 hc
      obtain ⟨hb4, h⟩ := h
      refine xr_blk (lv1 := [(0, .ref 80), (1, .int x1), (2, .int x2), (3, .int x3), (4, .int x4), (5, .int x5)]) (st1 := [.int (nI 100000000), .int ((gA v 113) ((((nI 24) * x2) + x4)).toNatClampNeg)]) (S1 := rt v) (pc1 := 45) [(.aload_n 0, .null, 0, 0), (.getfield 111, .null, 12, 54), (.bipush 24, .int (nI 24), 0, 0), (.iload_n 2, .null, 0, 0), (.imul, .null, 0, 0), (.iload 4, .null, 0, 0), (.iadd, .null, 0, 0), (.iaload, .null, 0, 0), (.ldc_w 313, .int (nI 100000000), 0, 0)] [((((nI 24) * x2) + x4), 1920)] (by decide +kernel) rfl ⟨hb4, trivial⟩ ?_
      refine xr_ic_ge (tgt := 91) (off := 46) (by decide +kernel) (by decide) (fun hc => ?_) (fun hc => ?_)
      · replace h := h.1 hc
        refine xr_blk (lv1 := [(0, .ref 80), (1, .int x1), (2, .int x2), (3, .int x3), (4, .int x4), (5, .int x5)]) (st1 := [.int (nI 0)]) (S1 := rt v) (pc1 := 92) [(.iconst 0, .int (nI 0), 0, 0)] [] (by decide +kernel) rfl trivial ?_
        exact xr_zret (by decide +kernel) rfl x_in2_0 ⟨_, _, rfl, rfl, h⟩
      · replace h := h.2 hc
        obtain ⟨hb5, h⟩ := h
        obtain ⟨hb6, h⟩ := h
        refine xr_blk (lv1 := [(0, .ref 80), (1, .int x1), (2, .int x2), (3, .int x3), (4, .int x4), (5, .int x5)]) (st1 := [.int (x4 + ((gA v 86) (x2).toNatClampNeg)), .int (x3 + (nI 1)), .int x1, .ref 114, .int ((gA v 113) ((((nI 24) * x2) + x4)).toNatClampNeg)]) (S1 := rt v) (pc1 := 77) [(.aload_n 0, .null, 0, 0), (.getfield 111, .null, 12, 54), (.bipush 24, .int (nI 24), 0, 0), (.iload_n 2, .null, 0, 0), (.imul, .null, 0, 0), (.iload 4, .null, 0, 0), (.iadd, .null, 0, 0), (.iaload, .null, 0, 0), (.aload_n 0, .null, 0, 0), (.getfield 115, .null, 12, 55), (.iload_n 1, .null, 0, 0), (.iload_n 3, .null, 0, 0), (.iconst 1, .int (nI 1), 0, 0), (.iadd, .null, 0, 0), (.iload 4, .null, 0, 0), (.aload_n 0, .null, 0, 0), (.getfield 29, .null, 12, 10), (.iload_n 2, .null, 0, 0), (.iaload, .null, 0, 0), (.iadd, .null, 0, 0)] [((((nI 24) * x2) + x4), 1920), (x2, 80)] (by decide +kernel) rfl ⟨hb5, hb6, trivial⟩ ?_
        refine xk_SI (As := [.int x1, .int (x3 + (nI 1)), .int (x4 + ((gA v 86) (x2).toNatClampNeg))]) (rest := [.ref 114, .int ((gA v 113) ((((nI 24) * x2) + x4)).toNatClampNeg)]) (idx := 340) (i0 := 340) (m1 := 181) (ps := [1748, 1749]) (by decide +kernel) (by decide +kernel) (by decide) rfl (Nat.le_of_ble_eq_true rfl) rfl h (fun y8 v7 h => ?_)
        obtain ⟨hb9, h⟩ := h
        refine xr_blk (lv1 := [(0, .ref 80), (1, .int x1), (2, .int x2), (3, .int x3), (4, .int x4), (5, .int x5)]) (st1 := [.int x5, .int (((gA v 113) ((((nI 24) * x2) + x4)).toNatClampNeg) + ((gA v7 114) (y8).toNatClampNeg))]) (S1 := rt v7) (pc1 := 84) [(.iaload, .null, 0, 0), (.iadd, .null, 0, 0), (.iload 5, .null, 0, 0)] [(y8, 44800)] (by decide +kernel) rfl ⟨hb9, trivial⟩ ?_
        refine xr_ic_ne (tgt := 91) (off := 7) (by decide +kernel) (by decide) (fun hc => ?_) (fun hc => ?_)
        · replace h := h.1 hc
          refine xr_blk (lv1 := [(0, .ref 80), (1, .int x1), (2, .int x2), (3, .int x3), (4, .int x4), (5, .int x5)]) (st1 := [.int (nI 0)]) (S1 := rt v7) (pc1 := 92) [(.iconst 0, .int (nI 0), 0, 0)] [] (by decide +kernel) rfl trivial ?_
          exact xr_zret (by decide +kernel) rfl x_in2_0 ⟨_, _, rfl, rfl, h⟩
        · replace h := h.2 hc
          refine xr_blk (lv1 := [(0, .ref 80), (1, .int x1), (2, .int x2), (3, .int x3), (4, .int x4), (5, .int x5)]) (st1 := [.int (nI 1)]) (S1 := rt v7) (pc1 := 88) [(.iconst 1, .int (nI 1), 0, 0)] [] (by decide +kernel) rfl trivial ?_
          refine xr_goto (tgt := 92) (off := 4) (by decide +kernel) (by decide) ?_
          exact xr_zret (by decide +kernel) rfl x_in2_1 ⟨_, _, rfl, rfl, h⟩
theorem ok_186 : x_mOK 186 := ⟨x_tm7 (List.mem_of_getElem? (i := 222) rfl) rfl, 114, by decide +kernel⟩
/-! X12_goesOn: method 187, ScrawlHouseModel.goesOn(IIII)Z -/
set_option maxRecDepth 100000 in
theorem w_X12_goesOn_0 {E : Nat × (Nat → Int32)} {d : Nat} {v : xV} {x1 : Int32} {x2 : Int32} {x3 : Int32} {x4 : Int32} {Q : Int32 → xV → Prop} (h : RI E (d + 1) 187 3 [(0, .ref 80), (1, .int x1), (2, .int x2), (3, .int x3), (4, .int x4), (5, .int (nI 0))] v Q) : RI E (d + 1) 187 0 [(0, .ref 80), (1, .int x1), (2, .int x2), (3, .int x3), (4, .int x4)] v Q := by
  unfold RI
  refine xr_blk (lv1 := [(5, .int (nI 0)), (0, .ref 80), (1, .int x1), (2, .int x2), (3, .int x3), (4, .int x4)]) (st1 := []) (S1 := rt v) (pc1 := 3) [(.iconst 0, .int (nI 0), 0, 0), (.istore 5, .null, 0, 0)] [] (by decide +kernel) rfl trivial ?_
  exact x_R.sub [1, 2, 3, 4, 5, 0] rfl h
set_option maxRecDepth 100000 in
theorem w_X12_goesOn_3 {E : Nat × (Nat → Int32)} {d : Nat} {v : xV} {x1 : Int32} {x2 : Int32} {x3 : Int32} {x4 : Int32} {x5 : Int32} {Q : Int32 → xV → Prop} (h : (((gI v 80 30) ≤ x5 → Q (nI 0) v) ∧ (¬ (gI v 80 30) ≤ x5 → vp_in x5 256 ∧ ((((gA v 120) (x5).toNatClampNeg) = (nI 0) → RI E (d + 1) 187 3 [(0, .ref 80), (1, .int x1), (2, .int x2), (3, .int x3), (4, .int x4), (5, .int (x5 + (nI 1)))] v Q) ∧ (¬ ((gA v 120) (x5).toNatClampNeg) = (nI 0) → KI E d 186 [.ref 80, .int x5, .int x1, .int x2, .int x3, .int x4] v (fun y3 v2 => ((y3 = (nI 0) → RI E (d + 1) 187 3 [(0, .ref 80), (1, .int x1), (2, .int x2), (3, .int x3), (4, .int x4), (5, .int (x5 + (nI 1)))] v2 Q) ∧ (¬ y3 = (nI 0) → Q (nI 1) v2)))))))) : RI E (d + 1) 187 3 [(0, .ref 80), (1, .int x1), (2, .int x2), (3, .int x3), (4, .int x4), (5, .int x5)] v Q := by
  unfold RI
  refine xr_blk (lv1 := [(0, .ref 80), (1, .int x1), (2, .int x2), (3, .int x3), (4, .int x4), (5, .int x5)]) (st1 := [.int (gI v 80 30), .int x5]) (S1 := rt v) (pc1 := 9) [(.iload 5, .null, 0, 0), (.aload_n 0, .null, 0, 0), (.getfield 291, .null, 12, 30)] [] (by decide +kernel) rfl trivial ?_
  refine xr_ic_ge (tgt := 44) (off := 35) (by decide +kernel) (by decide) (fun hc => ?_) (fun hc => ?_)
  · replace h := h.1 hc
    refine xr_blk (lv1 := [(0, .ref 80), (1, .int x1), (2, .int x2), (3, .int x3), (4, .int x4), (5, .int x5)]) (st1 := [.int (nI 0)]) (S1 := rt v) (pc1 := 45) [(.iconst 0, .int (nI 0), 0, 0)] [] (by decide +kernel) rfl trivial ?_
    exact xr_zret (by decide +kernel) rfl x_in2_0 ⟨_, _, rfl, rfl, h⟩
  · replace h := h.2 hc
    obtain ⟨hb1, h⟩ := h
    refine xr_blk (lv1 := [(0, .ref 80), (1, .int x1), (2, .int x2), (3, .int x3), (4, .int x4), (5, .int x5)]) (st1 := [.int ((gA v 120) (x5).toNatClampNeg)]) (S1 := rt v) (pc1 := 19) [(.aload_n 0, .null, 0, 0), (.getfield 133, .null, 12, 63), (.iload 5, .null, 0, 0), (.baload, .null, 0, 0)] [(x5, 256)] (by decide +kernel) rfl ⟨hb1, trivial⟩ ?_
    refine xr_if_eq (tgt := 38) (off := 19) (by decide +kernel) (by decide) (fun hc => ?_) (fun hc => ?_)
    · replace h := h.1 hc
      refine xr_blk (lv1 := [(5, .int (x5 + (nI 1))), (0, .ref 80), (1, .int x1), (2, .int x2), (3, .int x3), (4, .int x4)]) (st1 := []) (S1 := rt v) (pc1 := 41) [(.iinc 5 1, .int (nI 1), 0, 0)] [] (by decide +kernel) rfl trivial ?_
      refine xr_goto (tgt := 3) (off := -38) (by decide +kernel) (by decide) ?_
      exact x_R.sub [1, 2, 3, 4, 5, 0] rfl h
    · replace h := h.2 hc
      refine xr_blk (lv1 := [(0, .ref 80), (1, .int x1), (2, .int x2), (3, .int x3), (4, .int x4), (5, .int x5)]) (st1 := [.int x4, .int x3, .int x2, .int x1, .int x5, .ref 80]) (S1 := rt v) (pc1 := 30) [(.aload_n 0, .null, 0, 0), (.iload 5, .null, 0, 0), (.iload_n 1, .null, 0, 0), (.iload_n 2, .null, 0, 0), (.iload_n 3, .null, 0, 0), (.iload 4, .null, 0, 0)] [] (by decide +kernel) rfl trivial ?_
      refine xk_VI (As := [.int x5, .int x1, .int x2, .int x3, .int x4]) (bb := 80) (rest := []) (idx := 352) (i0 := 352) (m1 := 186) (ps := [1759, 1761, 76]) (by decide +kernel) (by decide +kernel) (by decide) rfl ((gK_s (by decide)).trans (by decide +kernel)) (by decide) (Nat.le_of_ble_eq_true rfl) rfl h (fun y3 v2 h => ?_)
      refine xr_if_eq (tgt := 38) (off := 5) (by decide +kernel) (by decide) (fun hc => ?_) (fun hc => ?_)
      · replace h := h.1 hc
        refine xr_blk (lv1 := [(5, .int (x5 + (nI 1))), (0, .ref 80), (1, .int x1), (2, .int x2), (3, .int x3), (4, .int x4)]) (st1 := []) (S1 := rt v2) (pc1 := 41) [(.iinc 5 1, .int (nI 1), 0, 0)] [] (by decide +kernel) rfl trivial ?_
        refine xr_goto (tgt := 3) (off := -38) (by decide +kernel) (by decide) ?_
        exact x_R.sub [1, 2, 3, 4, 5, 0] rfl h
      · replace h := h.2 hc
        refine xr_blk (lv1 := [(0, .ref 80), (1, .int x1), (2, .int x2), (3, .int x3), (4, .int x4), (5, .int x5)]) (st1 := [.int (nI 1)]) (S1 := rt v2) (pc1 := 37) [(.iconst 1, .int (nI 1), 0, 0)] [] (by decide +kernel) rfl trivial ?_
        exact xr_zret (by decide +kernel) rfl x_in2_1 ⟨_, _, rfl, rfl, h⟩
theorem ok_187 : x_mOK 187 := ⟨x_tm7 (List.mem_of_getElem? (i := 218) rfl) rfl, 114, by decide +kernel⟩
/-! X12_read: method 188, ScrawlHouseModel.read(II)I -/
set_option maxRecDepth 100000 in
theorem w_X12_read_0 {E : Nat × (Nat → Int32)} {d : Nat} {v : xV} {x1 : Int32} {x2 : Int32} {Q : Int32 → xV → Prop} (h : KI E d 173 [.ref 80, .int x1, .int x2] (v_I v 80 0 (nI 0)) (fun y2 v1 => ((¬ y2 = (nI 0) → KV E d 182 [.ref 80, .int x2] v1 (fun v3 => vp_in x1 20 ∧ ((¬ ((gA v3 117) (x1).toNatClampNeg) = (nI 0) → vp_in x1 20 ∧ RI E (d + 1) 188 44 [(0, .ref 80), (1, .int x1), (3, .int (nI 0))] (v_I v3 80 4 ((gA v3 117) (x1).toNatClampNeg)) Q) ∧ (((gA v3 117) (x1).toNatClampNeg) = (nI 0) → Q (nI 0) v3)))) ∧ (y2 = (nI 0) → Q (-1 : Int32) v1)))) : RI E (d + 1) 188 0 [(0, .ref 80), (1, .int x1), (2, .int x2)] v Q := by
  unfold RI
  refine xr_blk (lv1 := [(0, .ref 80), (1, .int x1), (2, .int x2)]) (st1 := [.int x2, .int x1, .ref 80]) (S1 := rt (v_I v 80 0 (nI 0))) (pc1 := 8) [(.aload_n 0, .null, 0, 0), (.iconst 0, .int (nI 0), 0, 0), (.putfield 190, .null, 12, 0), (.aload_n 0, .null, 0, 0), (.iload_n 1, .null, 0, 0), (.iload_n 2, .null, 0, 0)] [] (by decide +kernel) rfl trivial ?_
  refine xk_VI (As := [.int x1, .int x2]) (bb := 80) (rest := []) (idx := 321) (i0 := 321) (m1 := 173) (ps := [1712, 1714, 67]) (by decide +kernel) (by decide +kernel) (by decide) rfl ((gK_s (by decide)).trans (by decide +kernel)) (by decide) (Nat.le_of_ble_eq_true rfl) rfl h (fun y2 v1 h => ?_)
  refine xr_if_ne (tgt := 16) (off := 5) (by decide +kernel) (by decide) (fun hc => ?_) (fun hc => ?_)
  · replace h := h.1 hc
    refine xr_blk (lv1 := [(0, .ref 80), (1, .int x1), (2, .int x2)]) (st1 := [.int x2, .ref 80]) (S1 := rt v1) (pc1 := 18) [(.aload_n 0, .null, 0, 0), (.iload_n 2, .null, 0, 0)] [] (by decide +kernel) rfl trivial ?_
    refine xk_VV (As := [.int x2]) (bb := 80) (rest := []) (idx := 356) (i0 := 356) (m1 := 182) (ps := [1736, 1738, 71]) (by decide +kernel) (by decide +kernel) (by decide) rfl ((gK_s (by decide)).trans (by decide +kernel)) (by decide) (Nat.le_of_ble_eq_true rfl) rfl h (fun v3 h => ?_)
    obtain ⟨hb4, h⟩ := h
    refine xr_blk (lv1 := [(0, .ref 80), (1, .int x1), (2, .int x2)]) (st1 := [.int ((gA v3 117) (x1).toNatClampNeg)]) (S1 := rt v3) (pc1 := 27) [(.aload_n 0, .null, 0, 0), (.getfield 124, .null, 12, 58), (.iload_n 1, .null, 0, 0), (.iaload, .null, 0, 0)] [(x1, 20)] (by decide +kernel) rfl ⟨hb4, trivial⟩ ?_
    refine xr_if_ne (tgt := 32) (off := 5) (by decide +kernel) (by decide) (fun hc => ?_) (fun hc => ?_)
    · replace h := h.1 hc
      obtain ⟨hb5, h⟩ := h
      refine xr_blk (lv1 := [(3, .int (nI 0)), (0, .ref 80), (1, .int x1), (2, .int x2)]) (st1 := []) (S1 := rt (v_I v3 80 4 ((gA v3 117) (x1).toNatClampNeg))) (pc1 := 44) [(.aload_n 0, .null, 0, 0), (.aload_n 0, .null, 0, 0), (.getfield 124, .null, 12, 58), (.iload_n 1, .null, 0, 0), (.iaload, .null, 0, 0), (.putfield 359, .null, 12, 4), (.iconst 0, .int (nI 0), 0, 0), (.istore_n 3, .null, 0, 0)] [(x1, 20)] (by decide +kernel) rfl ⟨hb5, trivial⟩ ?_
      exact x_R.sub [1, 2, 0] rfl h
    · replace h := h.2 hc
      refine xr_blk (lv1 := [(0, .ref 80), (1, .int x1), (2, .int x2)]) (st1 := [.int (nI 0)]) (S1 := rt v3) (pc1 := 31) [(.iconst 0, .int (nI 0), 0, 0)] [] (by decide +kernel) rfl trivial ?_
      exact xr_iret (by decide +kernel) rfl ⟨_, _, rfl, rfl, h⟩
  · replace h := h.2 hc
    refine xr_blk (lv1 := [(0, .ref 80), (1, .int x1), (2, .int x2)]) (st1 := [.int (-1)]) (S1 := rt v1) (pc1 := 15) [(.iconst (-1), .int (-1), 0, 0)] [] (by decide +kernel) rfl trivial ?_
    exact xr_iret (by decide +kernel) rfl ⟨_, _, rfl, rfl, h⟩
set_option maxRecDepth 100000 in
theorem w_X12_read_44 {E : Nat × (Nat → Int32)} {d : Nat} {v : xV} {x1 : Int32} {x3 : Int32} {Q : Int32 → xV → Prop} (h : (((gI v 80 4) ≤ x3 → Q (gI v 80 4) v) ∧ (¬ (gI v 80 4) ≤ x3 → vp_in (((nI 6) * x1) + x3) 120 ∧ vp_in x3 6 ∧ RI E (d + 1) 188 44 [(0, .ref 80), (1, .int x1), (3, .int (x3 + (nI 1)))] (v_A v 82 (upd (gA v 82) (x3).toNatClampNeg ((gA v 116) ((((nI 6) * x1) + x3)).toNatClampNeg))) Q))) : RI E (d + 1) 188 44 [(0, .ref 80), (1, .int x1), (3, .int x3)] v Q := by
  unfold RI
  refine xr_blk (lv1 := [(0, .ref 80), (1, .int x1), (3, .int x3)]) (st1 := [.int (gI v 80 4), .int x3]) (S1 := rt v) (pc1 := 49) [(.iload_n 3, .null, 0, 0), (.aload_n 0, .null, 0, 0), (.getfield 359, .null, 12, 4)] [] (by decide +kernel) rfl trivial ?_
  refine xr_ic_ge (tgt := 75) (off := 26) (by decide +kernel) (by decide) (fun hc => ?_) (fun hc => ?_)
  · replace h := h.1 hc
    refine xr_blk (lv1 := [(0, .ref 80), (1, .int x1), (3, .int x3)]) (st1 := [.int (gI v 80 4)]) (S1 := rt v) (pc1 := 79) [(.aload_n 0, .null, 0, 0), (.getfield 359, .null, 12, 4)] [] (by decide +kernel) rfl trivial ?_
    exact xr_iret (by decide +kernel) rfl ⟨_, _, rfl, rfl, h⟩
  · replace h := h.2 hc
    obtain ⟨hb1, h⟩ := h
    obtain ⟨hb2, h⟩ := h
    refine xr_blk (lv1 := [(3, .int (x3 + (nI 1))), (0, .ref 80), (1, .int x1)]) (st1 := []) (S1 := rt (v_A v 82 (upd (gA v 82) (x3).toNatClampNeg ((gA v 116) ((((nI 6) * x1) + x3)).toNatClampNeg)))) (pc1 := 72) [(.aload_n 0, .null, 0, 0), (.getfield 13, .null, 12, 2), (.iload_n 3, .null, 0, 0), (.aload_n 0, .null, 0, 0), (.getfield 121, .null, 12, 57), (.bipush 6, .int (nI 6), 0, 0), (.iload_n 1, .null, 0, 0), (.imul, .null, 0, 0), (.iload_n 3, .null, 0, 0), (.iadd, .null, 0, 0), (.iaload, .null, 0, 0), (.iastore, .null, 0, 0), (.iinc 3 1, .int (nI 1), 0, 0)] [((((nI 6) * x1) + x3), 120), (x3, 6)] (by decide +kernel) rfl ⟨hb1, hb2, trivial⟩ ?_
    refine xr_goto (tgt := 44) (off := -28) (by decide +kernel) (by decide) ?_
    exact x_R.sub [1, 2, 0] rfl h
theorem ok_188 : x_mOK 188 := ⟨x_tm7 (List.mem_of_getElem? (i := 195) rfl) rfl, 114, by decide +kernel⟩
/-! X12_octet: method 189, ScrawlHouseModel.octet(I)I -/
set_option maxRecDepth 100000 in
theorem w_X12_octet_0 {E : Nat × (Nat → Int32)} {d : Nat} {v : xV} {x1 : Int32} {Q : Int32 → xV → Prop} (h : ((x1 < (nI 0) → RI E (d + 1) 189 12 [(0, .ref 80)] v Q) ∧ (¬ x1 < (nI 0) → ((x1 < (gI v 80 4) → vp_in x1 6 ∧ Q ((gA v 82) (x1).toNatClampNeg) (v_I v 80 0 (nI 0))) ∧ (¬ x1 < (gI v 80 4) → RI E (d + 1) 189 12 [(0, .ref 80)] v Q))))) : RI E (d + 1) 189 0 [(0, .ref 80), (1, .int x1)] v Q := by
  unfold RI
  refine xr_blk (lv1 := [(0, .ref 80), (1, .int x1)]) (st1 := [.int x1]) (S1 := rt v) (pc1 := 1) [(.iload_n 1, .null, 0, 0)] [] (by decide +kernel) rfl trivial ?_
  refine xr_if_lt (tgt := 12) (off := 11) (by decide +kernel) (by decide) (fun hc => ?_) (fun hc => ?_)
  · replace h := h.1 hc
    exact x_R.sub [0] rfl h
  · replace h := h.2 hc
    refine xr_blk (lv1 := [(0, .ref 80), (1, .int x1)]) (st1 := [.int (gI v 80 4), .int x1]) (S1 := rt v) (pc1 := 9) [(.iload_n 1, .null, 0, 0), (.aload_n 0, .null, 0, 0), (.getfield 359, .null, 12, 4)] [] (by decide +kernel) rfl trivial ?_
    refine xr_ic_lt (tgt := 17) (off := 8) (by decide +kernel) (by decide) (fun hc => ?_) (fun hc => ?_)
    · replace h := h.1 hc
      obtain ⟨hb1, h⟩ := h
      refine xr_blk (lv1 := [(0, .ref 80), (1, .int x1)]) (st1 := [.int ((gA v 82) (x1).toNatClampNeg)]) (S1 := rt (v_I v 80 0 (nI 0))) (pc1 := 28) [(.aload_n 0, .null, 0, 0), (.iconst 0, .int (nI 0), 0, 0), (.putfield 190, .null, 12, 0), (.aload_n 0, .null, 0, 0), (.getfield 13, .null, 12, 2), (.iload_n 1, .null, 0, 0), (.iaload, .null, 0, 0)] [(x1, 6)] (by decide +kernel) rfl ⟨hb1, trivial⟩ ?_
      exact xr_iret (by decide +kernel) rfl ⟨_, _, rfl, rfl, h⟩
    · replace h := h.2 hc
      exact x_R.sub [0] rfl h
set_option maxRecDepth 100000 in
theorem w_X12_octet_12 {E : Nat × (Nat → Int32)} {d : Nat} {v : xV} {Q : Int32 → xV → Prop} (h : KI E d 147 [.ref 80] v (fun y2 v1 => Q y2 v1)) : RI E (d + 1) 189 12 [(0, .ref 80)] v Q := by
  unfold RI
  refine xr_blk (lv1 := [(0, .ref 80)]) (st1 := [.ref 80]) (S1 := rt v) (pc1 := 13) [(.aload_n 0, .null, 0, 0)] [] (by decide +kernel) rfl trivial ?_
  refine xk_VI (As := []) (bb := 80) (rest := []) (idx := 362) (i0 := 362) (m1 := 147) (ps := [1767, 1769, 77]) (by decide +kernel) (by decide +kernel) (by decide) rfl ((gK_s (by decide)).trans (by decide +kernel)) (by decide) (Nat.le_of_ble_eq_true rfl) rfl h (fun y2 v1 h => ?_)
  exact xr_iret (by decide +kernel) rfl ⟨_, _, rfl, rfl, h⟩
theorem ok_189 : x_mOK 189 := ⟨x_tm7 (List.mem_of_getElem? (i := 226) rfl) rfl, 114, by decide +kernel⟩
/-! X12_firstOf: method 190, ScrawlHouseModel.firstOf(II)I -/
set_option maxRecDepth 100000 in
theorem w_X12_firstOf_0 {E : Nat × (Nat → Int32)} {d : Nat} {v : xV} {x1 : Int32} {x2 : Int32} {Q : Int32 → xV → Prop} (h : RI E d 190 2 [(0, .ref 80), (1, .int x1), (2, .int x2), (3, .int (nI 0))] v Q) : RI E d 190 0 [(0, .ref 80), (1, .int x1), (2, .int x2)] v Q := by
  unfold RI
  refine xr_blk (lv1 := [(3, .int (nI 0)), (0, .ref 80), (1, .int x1), (2, .int x2)]) (st1 := []) (S1 := rt v) (pc1 := 2) [(.iconst 0, .int (nI 0), 0, 0), (.istore_n 3, .null, 0, 0)] [] (by decide +kernel) rfl trivial ?_
  exact x_R.sub [1, 2, 3, 0] rfl h
set_option maxRecDepth 100000 in
theorem w_X12_firstOf_2 {E : Nat × (Nat → Int32)} {d : Nat} {v : xV} {x1 : Int32} {x2 : Int32} {x3 : Int32} {Q : Int32 → xV → Prop} (h : vp_in x1 20 ∧ ((((gA v 117) (x1).toNatClampNeg) ≤ x3 → Q (-1 : Int32) v) ∧ (¬ ((gA v 117) (x1).toNatClampNeg) ≤ x3 → vp_in (((nI 6) * x1) + x3) 120 ∧ vp_in ((gA v 116) ((((nI 6) * x1) + x3)).toNatClampNeg) 80 ∧ ((¬ ((gA v 87) (((gA v 116) ((((nI 6) * x1) + x3)).toNatClampNeg)).toNatClampNeg) = x2 → RI E d 190 2 [(0, .ref 80), (1, .int x1), (2, .int x2), (3, .int (x3 + (nI 1)))] v Q) ∧ (((gA v 87) (((gA v 116) ((((nI 6) * x1) + x3)).toNatClampNeg)).toNatClampNeg) = x2 → vp_in (((nI 6) * x1) + x3) 120 ∧ Q ((gA v 116) ((((nI 6) * x1) + x3)).toNatClampNeg) v))))) : RI E d 190 2 [(0, .ref 80), (1, .int x1), (2, .int x2), (3, .int x3)] v Q := by
  unfold RI
  obtain ⟨hb1, h⟩ := h
  refine xr_blk (lv1 := [(0, .ref 80), (1, .int x1), (2, .int x2), (3, .int x3)]) (st1 := [.int ((gA v 117) (x1).toNatClampNeg), .int x3]) (S1 := rt v) (pc1 := 9) [(.iload_n 3, .null, 0, 0), (.aload_n 0, .null, 0, 0), (.getfield 124, .null, 12, 58), (.iload_n 1, .null, 0, 0), (.iaload, .null, 0, 0)] [(x1, 20)] (by decide +kernel) rfl ⟨hb1, trivial⟩ ?_
  refine xr_ic_ge (tgt := 50) (off := 41) (by decide +kernel) (by decide) (fun hc => ?_) (fun hc => ?_)
  · replace h := h.1 hc
    refine xr_blk (lv1 := [(0, .ref 80), (1, .int x1), (2, .int x2), (3, .int x3)]) (st1 := [.int (-1)]) (S1 := rt v) (pc1 := 51) [(.iconst (-1), .int (-1), 0, 0)] [] (by decide +kernel) rfl trivial ?_
    exact xr_iret (by decide +kernel) rfl ⟨_, _, rfl, rfl, h⟩
  · replace h := h.2 hc
    obtain ⟨hb2, h⟩ := h
    obtain ⟨hb3, h⟩ := h
    refine xr_blk (lv1 := [(0, .ref 80), (1, .int x1), (2, .int x2), (3, .int x3)]) (st1 := [.int x2, .int ((gA v 87) (((gA v 116) ((((nI 6) * x1) + x3)).toNatClampNeg)).toNatClampNeg)]) (S1 := rt v) (pc1 := 29) [(.aload_n 0, .null, 0, 0), (.getfield 32, .null, 12, 11), (.aload_n 0, .null, 0, 0), (.getfield 121, .null, 12, 57), (.bipush 6, .int (nI 6), 0, 0), (.iload_n 1, .null, 0, 0), (.imul, .null, 0, 0), (.iload_n 3, .null, 0, 0), (.iadd, .null, 0, 0), (.iaload, .null, 0, 0), (.iaload, .null, 0, 0), (.iload_n 2, .null, 0, 0)] [((((nI 6) * x1) + x3), 120), (((gA v 116) ((((nI 6) * x1) + x3)).toNatClampNeg), 80)] (by decide +kernel) rfl ⟨hb2, hb3, trivial⟩ ?_
    refine xr_ic_ne (tgt := 44) (off := 15) (by decide +kernel) (by decide) (fun hc => ?_) (fun hc => ?_)
    · replace h := h.1 hc
      refine xr_blk (lv1 := [(3, .int (x3 + (nI 1))), (0, .ref 80), (1, .int x1), (2, .int x2)]) (st1 := []) (S1 := rt v) (pc1 := 47) [(.iinc 3 1, .int (nI 1), 0, 0)] [] (by decide +kernel) rfl trivial ?_
      refine xr_goto (tgt := 2) (off := -45) (by decide +kernel) (by decide) ?_
      exact x_R.sub [1, 2, 3, 0] rfl h
    · replace h := h.2 hc
      obtain ⟨hb4, h⟩ := h
      refine xr_blk (lv1 := [(0, .ref 80), (1, .int x1), (2, .int x2), (3, .int x3)]) (st1 := [.int ((gA v 116) ((((nI 6) * x1) + x3)).toNatClampNeg)]) (S1 := rt v) (pc1 := 43) [(.aload_n 0, .null, 0, 0), (.getfield 121, .null, 12, 57), (.bipush 6, .int (nI 6), 0, 0), (.iload_n 1, .null, 0, 0), (.imul, .null, 0, 0), (.iload_n 3, .null, 0, 0), (.iadd, .null, 0, 0), (.iaload, .null, 0, 0)] [((((nI 6) * x1) + x3), 120)] (by decide +kernel) rfl ⟨hb4, trivial⟩ ?_
      exact xr_iret (by decide +kernel) rfl ⟨_, _, rfl, rfl, h⟩
theorem ok_190 : x_mOK 190 := ⟨x_tm8 (List.mem_of_getElem? (i := 2) rfl) rfl, 114, by decide +kernel⟩
/-! X12_usedForm: method 191, ScrawlHouseModel.usedForm(III)I -/
set_option maxRecDepth 100000 in
theorem w_X12_usedForm_0 {E : Nat × (Nat → Int32)} {d : Nat} {v : xV} {x1 : Int32} {x2 : Int32} {x3 : Int32} {Q : Int32 → xV → Prop} (h : KI E d 176 [.ref 80, .int x1, .int x3] v (fun y2 v1 => ((y2 = (-1 : Int32) → Q (-1 : Int32) v1) ∧ (¬ y2 = (-1 : Int32) → vp_in x1 20 ∧ ((¬ ((gA v1 117) (x1).toNatClampNeg) = (nI 0) → RI E (d + 1) 191 34 [(0, .ref 80), (1, .int x1), (2, .int x2), (4, .int y2), (5, .int (-1)), (6, .int (nI 0)), (7, .int (nI 0))] v1 Q) ∧ (((gA v1 117) (x1).toNatClampNeg) = (nI 0) → Q (-1 : Int32) v1)))))) : RI E (d + 1) 191 0 [(0, .ref 80), (1, .int x1), (2, .int x2), (3, .int x3)] v Q := by
  unfold RI
  refine xr_blk (lv1 := [(0, .ref 80), (1, .int x1), (2, .int x2), (3, .int x3)]) (st1 := [.int x3, .int x1, .ref 80]) (S1 := rt v) (pc1 := 3) [(.aload_n 0, .null, 0, 0), (.iload_n 1, .null, 0, 0), (.iload_n 3, .null, 0, 0)] [] (by decide +kernel) rfl trivial ?_
  refine xk_VI (As := [.int x1, .int x3]) (bb := 80) (rest := []) (idx := 309) (i0 := 309) (m1 := 176) (ps := [1720, 1722, 69]) (by decide +kernel) (by decide +kernel) (by decide) rfl ((gK_s (by decide)).trans (by decide +kernel)) (by decide) (Nat.le_of_ble_eq_true rfl) rfl h (fun y2 v1 h => ?_)
  refine xr_blk (lv1 := [(4, .int y2), (0, .ref 80), (1, .int x1), (2, .int x2), (3, .int x3)]) (st1 := [.int (-1), .int y2]) (S1 := rt v1) (pc1 := 11) [(.istore 4, .null, 0, 0), (.iload 4, .null, 0, 0), (.iconst (-1), .int (-1), 0, 0)] [] (by decide +kernel) rfl trivial ?_
  refine xr_ic_eq (tgt := 23) (off := 12) (by decide +kernel) (by decide) (fun hc => ?_) (fun hc => ?_)
  · replace h := h.1 hc
    refine xr_blk (lv1 := [(4, .int y2), (0, .ref 80), (1, .int x1), (2, .int x2), (3, .int x3)]) (st1 := [.int (-1)]) (S1 := rt v1) (pc1 := 24) [(.iconst (-1), .int (-1), 0, 0)] [] (by decide +kernel) rfl trivial ?_
    exact xr_iret (by decide +kernel) rfl ⟨_, _, rfl, rfl, h⟩
  · replace h := h.2 hc
    obtain ⟨hb3, h⟩ := h
    refine xr_blk (lv1 := [(4, .int y2), (0, .ref 80), (1, .int x1), (2, .int x2), (3, .int x3)]) (st1 := [.int ((gA v1 117) (x1).toNatClampNeg)]) (S1 := rt v1) (pc1 := 20) [(.aload_n 0, .null, 0, 0), (.getfield 124, .null, 12, 58), (.iload_n 1, .null, 0, 0), (.iaload, .null, 0, 0)] [(x1, 20)] (by decide +kernel) rfl ⟨hb3, trivial⟩ ?_
    refine xr_if_ne (tgt := 25) (off := 5) (by decide +kernel) (by decide) (fun hc => ?_) (fun hc => ?_)
    · replace h := h.1 hc
      refine xr_blk (lv1 := [(7, .int (nI 0)), (6, .int (nI 0)), (5, .int (-1)), (4, .int y2), (0, .ref 80), (1, .int x1), (2, .int x2), (3, .int x3)]) (st1 := []) (S1 := rt v1) (pc1 := 34) [(.iconst (-1), .int (-1), 0, 0), (.istore 5, .null, 0, 0), (.iconst 0, .int (nI 0), 0, 0), (.istore 6, .null, 0, 0), (.iconst 0, .int (nI 0), 0, 0), (.istore 7, .null, 0, 0)] [] (by decide +kernel) rfl trivial ?_
      exact x_R.sub [4, 5, 6, 3, 2, 1, 0] rfl h
    · replace h := h.2 hc
      refine xr_blk (lv1 := [(4, .int y2), (0, .ref 80), (1, .int x1), (2, .int x2), (3, .int x3)]) (st1 := [.int (-1)]) (S1 := rt v1) (pc1 := 24) [(.iconst (-1), .int (-1), 0, 0)] [] (by decide +kernel) rfl trivial ?_
      exact xr_iret (by decide +kernel) rfl ⟨_, _, rfl, rfl, h⟩
set_option maxRecDepth 100000 in
theorem w_X12_usedForm_34 {E : Nat × (Nat → Int32)} {d : Nat} {v : xV} {x1 : Int32} {x2 : Int32} {x4 : Int32} {x5 : Int32} {x6 : Int32} {x7 : Int32} {Q : Int32 → xV → Prop} (h : vp_in x2 26 ∧ ((((gA v 83) (x2).toNatClampNeg) ≤ x7 → Q x5 v) ∧ (¬ ((gA v 83) (x2).toNatClampNeg) ≤ x7 → RI E (d + 1) 191 54 [(0, .ref 80), (1, .int x1), (2, .int x2), (4, .int x4), (5, .int x5), (6, .int x6), (7, .int x7), (8, .int (nI 1)), (9, .int (nI 0)), (10, .int (nI 0))] v Q))) : RI E (d + 1) 191 34 [(0, .ref 80), (1, .int x1), (2, .int x2), (4, .int x4), (5, .int x5), (6, .int x6), (7, .int x7)] v Q := by
  unfold RI
  obtain ⟨hb1, h⟩ := h
  refine xr_blk (lv1 := [(0, .ref 80), (1, .int x1), (2, .int x2), (4, .int x4), (5, .int x5), (6, .int x6), (7, .int x7)]) (st1 := [.int ((gA v 83) (x2).toNatClampNeg), .int x7]) (S1 := rt v) (pc1 := 42) [(.iload 7, .null, 0, 0), (.aload_n 0, .null, 0, 0), (.getfield 20, .null, 12, 7), (.iload_n 2, .null, 0, 0), (.iaload, .null, 0, 0)] [(x2, 26)] (by decide +kernel) rfl ⟨hb1, trivial⟩ ?_
  refine xr_ic_ge (tgt := 196) (off := 154) (by decide +kernel) (by decide) (fun hc => ?_) (fun hc => ?_)
  · replace h := h.1 hc
    refine xr_blk (lv1 := [(0, .ref 80), (1, .int x1), (2, .int x2), (4, .int x4), (5, .int x5), (6, .int x6), (7, .int x7)]) (st1 := [.int x5]) (S1 := rt v) (pc1 := 198) [(.iload 5, .null, 0, 0)] [] (by decide +kernel) rfl trivial ?_
    exact xr_iret (by decide +kernel) rfl ⟨_, _, rfl, rfl, h⟩
  · replace h := h.2 hc
    refine xr_blk (lv1 := [(10, .int (nI 0)), (9, .int (nI 0)), (8, .int (nI 1)), (0, .ref 80), (1, .int x1), (2, .int x2), (4, .int x4), (5, .int x5), (6, .int x6), (7, .int x7)]) (st1 := []) (S1 := rt v) (pc1 := 54) [(.iconst 1, .int (nI 1), 0, 0), (.istore 8, .null, 0, 0), (.iconst 0, .int (nI 0), 0, 0), (.istore 9, .null, 0, 0), (.iconst 0, .int (nI 0), 0, 0), (.istore 10, .null, 0, 0)] [] (by decide +kernel) rfl trivial ?_
    exact x_R.sub [3, 4, 5, 6, 7, 8, 9, 2, 1, 0] rfl h
set_option maxRecDepth 100000 in
theorem w_X12_usedForm_54 {E : Nat × (Nat → Int32)} {d : Nat} {v : xV} {x1 : Int32} {x2 : Int32} {x4 : Int32} {x5 : Int32} {x6 : Int32} {x7 : Int32} {x8 : Int32} {x9 : Int32} {x10 : Int32} {Q : Int32 → xV → Prop} (h : vp_in x1 20 ∧ ((((gA v 117) (x1).toNatClampNeg) ≤ x10 → ((¬ x6 = (nI 0) → ((¬ x8 = (nI 0) → ((x5 = (-1 : Int32) → RI E (d + 1) 191 34 [(0, .ref 80), (1, .int x1), (2, .int x2), (4, .int x4), (5, .int x7), (6, .int x6), (7, .int (x7 + (nI 1)))] v Q) ∧ (¬ x5 = (-1 : Int32) → Q (-1 : Int32) v))) ∧ (x8 = (nI 0) → RI E (d + 1) 191 34 [(0, .ref 80), (1, .int x1), (2, .int x2), (4, .int x4), (5, .int x5), (6, .int x6), (7, .int (x7 + (nI 1)))] v Q))) ∧ (x6 = (nI 0) → Q (-1 : Int32) v))) ∧ (¬ ((gA v 117) (x1).toNatClampNeg) ≤ x10 → vp_in (((nI 6) * x1) + x10) 120 ∧ ∀ y3 : Int32, y3 = ((gA v 116) ((((nI 6) * x1) + x10)).toNatClampNeg) → RI E (d + 1) 191 82 [(0, .ref 80), (1, .int x1), (2, .int x2), (4, .int x4), (5, .int x5), (6, .int x6), (7, .int x7), (8, .int x8), (9, .int x9), (10, .int x10), (11, .int y3), (12, .int (nI 0))] v Q))) : RI E (d + 1) 191 54 [(0, .ref 80), (1, .int x1), (2, .int x2), (4, .int x4), (5, .int x5), (6, .int x6), (7, .int x7), (8, .int x8), (9, .int x9), (10, .int x10)] v Q := by
  unfold RI
  obtain ⟨hb1, h⟩ := h
  refine xr_blk (lv1 := [(0, .ref 80), (1, .int x1), (2, .int x2), (4, .int x4), (5, .int x5), (6, .int x6), (7, .int x7), (8, .int x8), (9, .int x9), (10, .int x10)]) (st1 := [.int ((gA v 117) (x1).toNatClampNeg), .int x10]) (S1 := rt v) (pc1 := 62) [(.iload 10, .null, 0, 0), (.aload_n 0, .null, 0, 0), (.getfield 124, .null, 12, 58), (.iload_n 1, .null, 0, 0), (.iaload, .null, 0, 0)] [(x1, 20)] (by decide +kernel) rfl ⟨hb1, trivial⟩ ?_
  refine xr_ic_ge (tgt := 163) (off := 101) (by decide +kernel) (by decide) (fun hc => ?_) (fun hc => ?_)
  · replace h := h.1 hc
    refine xr_blk (lv1 := [(0, .ref 80), (1, .int x1), (2, .int x2), (4, .int x4), (5, .int x5), (6, .int x6), (7, .int x7), (8, .int x8), (9, .int x9), (10, .int x10)]) (st1 := [.int x6]) (S1 := rt v) (pc1 := 165) [(.iload 6, .null, 0, 0)] [] (by decide +kernel) rfl trivial ?_
    refine xr_if_ne (tgt := 170) (off := 5) (by decide +kernel) (by decide) (fun hc => ?_) (fun hc => ?_)
    · replace h := h.1 hc
      refine xr_blk (lv1 := [(0, .ref 80), (1, .int x1), (2, .int x2), (4, .int x4), (5, .int x5), (6, .int x6), (7, .int x7), (8, .int x8), (9, .int x9), (10, .int x10)]) (st1 := [.int x8]) (S1 := rt v) (pc1 := 172) [(.iload 8, .null, 0, 0)] [] (by decide +kernel) rfl trivial ?_
      refine xr_if_ne (tgt := 178) (off := 6) (by decide +kernel) (by decide) (fun hc => ?_) (fun hc => ?_)
      · replace h := h.1 hc
        refine xr_blk (lv1 := [(0, .ref 80), (1, .int x1), (2, .int x2), (4, .int x4), (5, .int x5), (6, .int x6), (7, .int x7), (8, .int x8), (9, .int x9), (10, .int x10)]) (st1 := [.int (-1), .int x5]) (S1 := rt v) (pc1 := 181) [(.iload 5, .null, 0, 0), (.iconst (-1), .int (-1), 0, 0)] [] (by decide +kernel) rfl trivial ?_
        refine xr_ic_eq (tgt := 186) (off := 5) (by decide +kernel) (by decide) (fun hc => ?_) (fun hc => ?_)
        · replace h := h.1 hc
          refine xr_blk (lv1 := [(7, .int (x7 + (nI 1))), (5, .int x7), (0, .ref 80), (1, .int x1), (2, .int x2), (4, .int x4), (6, .int x6), (8, .int x8), (9, .int x9), (10, .int x10)]) (st1 := []) (S1 := rt v) (pc1 := 193) [(.iload 7, .null, 0, 0), (.istore 5, .null, 0, 0), (.iinc 7 1, .int (nI 1), 0, 0)] [] (by decide +kernel) rfl trivial ?_
          refine xr_goto (tgt := 34) (off := -159) (by decide +kernel) (by decide) ?_
          exact x_R.sub [2, 3, 4, 5, 1, 6, 0] rfl h
        · replace h := h.2 hc
          refine xr_blk (lv1 := [(0, .ref 80), (1, .int x1), (2, .int x2), (4, .int x4), (5, .int x5), (6, .int x6), (7, .int x7), (8, .int x8), (9, .int x9), (10, .int x10)]) (st1 := [.int (-1)]) (S1 := rt v) (pc1 := 185) [(.iconst (-1), .int (-1), 0, 0)] [] (by decide +kernel) rfl trivial ?_
          exact xr_iret (by decide +kernel) rfl ⟨_, _, rfl, rfl, h⟩
      · replace h := h.2 hc
        refine xr_goto (tgt := 190) (off := 15) (by decide +kernel) (by decide) ?_
        refine xr_blk (lv1 := [(7, .int (x7 + (nI 1))), (0, .ref 80), (1, .int x1), (2, .int x2), (4, .int x4), (5, .int x5), (6, .int x6), (8, .int x8), (9, .int x9), (10, .int x10)]) (st1 := []) (S1 := rt v) (pc1 := 193) [(.iinc 7 1, .int (nI 1), 0, 0)] [] (by decide +kernel) rfl trivial ?_
        refine xr_goto (tgt := 34) (off := -159) (by decide +kernel) (by decide) ?_
        exact x_R.sub [1, 2, 3, 4, 5, 6, 0] rfl h
    · replace h := h.2 hc
      refine xr_blk (lv1 := [(0, .ref 80), (1, .int x1), (2, .int x2), (4, .int x4), (5, .int x5), (6, .int x6), (7, .int x7), (8, .int x8), (9, .int x9), (10, .int x10)]) (st1 := [.int (-1)]) (S1 := rt v) (pc1 := 169) [(.iconst (-1), .int (-1), 0, 0)] [] (by decide +kernel) rfl trivial ?_
      exact xr_iret (by decide +kernel) rfl ⟨_, _, rfl, rfl, h⟩
  · replace h := h.2 hc
    obtain ⟨hb2, h⟩ := h
    refine xr_blk (lv1 := [(0, .ref 80), (1, .int x1), (2, .int x2), (4, .int x4), (5, .int x5), (6, .int x6), (7, .int x7), (8, .int x8), (9, .int x9), (10, .int x10)]) (st1 := [.int ((gA v 116) ((((nI 6) * x1) + x10)).toNatClampNeg)]) (S1 := rt v) (pc1 := 77) [(.aload_n 0, .null, 0, 0), (.getfield 121, .null, 12, 57), (.bipush 6, .int (nI 6), 0, 0), (.iload_n 1, .null, 0, 0), (.imul, .null, 0, 0), (.iload 10, .null, 0, 0), (.iadd, .null, 0, 0), (.iaload, .null, 0, 0)] [((((nI 6) * x1) + x10), 120)] (by decide +kernel) rfl ⟨hb2, trivial⟩ ?_
    refine xr_topi (fun y3 ey3 => ?_)
    replace h := h y3 ey3
    refine xr_blk (lv1 := [(12, .int (nI 0)), (11, .int y3), (0, .ref 80), (1, .int x1), (2, .int x2), (4, .int x4), (5, .int x5), (6, .int x6), (7, .int x7), (8, .int x8), (9, .int x9), (10, .int x10)]) (st1 := []) (S1 := rt v) (pc1 := 82) [(.istore 11, .null, 0, 0), (.iconst 0, .int (nI 0), 0, 0), (.istore 12, .null, 0, 0)] [] (by decide +kernel) rfl trivial ?_
    exact x_R.sub [2, 3, 4, 5, 6, 7, 8, 9, 10, 11, 1, 0] rfl h
set_option maxRecDepth 100000 in
theorem w_X12_usedForm_82 {E : Nat × (Nat → Int32)} {d : Nat} {v : xV} {x1 : Int32} {x2 : Int32} {x4 : Int32} {x5 : Int32} {x6 : Int32} {x7 : Int32} {x8 : Int32} {x9 : Int32} {x10 : Int32} {x11 : Int32} {x12 : Int32} {Q : Int32 → xV → Prop} (h : vp_in x11 80 ∧ ((((gA v 86) (x11).toNatClampNeg) ≤ x12 → RI E (d + 1) 191 54 [(0, .ref 80), (1, .int x1), (2, .int x2), (4, .int x4), (5, .int x5), (6, .int x6), (7, .int x7), (8, .int x8), (9, .int x9), (10, .int (x10 + (nI 1)))] v Q) ∧ (¬ ((gA v 86) (x11).toNatClampNeg) ≤ x12 → vp_in (((nI 10) * x11) + x12) 800 ∧ ((¬ ((gA v 85) ((((nI 10) * x11) + x12)).toNatClampNeg) = x2 → RI E (d + 1) 191 82 [(0, .ref 80), (1, .int x1), (2, .int x2), (4, .int x4), (5, .int x5), (6, .int x6), (7, .int x7), (8, .int x8), (9, .int (x9 + (nI 1))), (10, .int x10), (11, .int x11), (12, .int (x12 + (nI 1)))] v Q) ∧ (((gA v 85) ((((nI 10) * x11) + x12)).toNatClampNeg) = x2 → ((x8 = (nI 0) → RI E (d + 1) 191 82 [(0, .ref 80), (1, .int x1), (2, .int x2), (4, .int x4), (5, .int x5), (6, .int (nI 1)), (7, .int x7), (8, .int (nI 0)), (9, .int (x9 + (nI 1))), (10, .int x10), (11, .int x11), (12, .int (x12 + (nI 1)))] v Q) ∧ (¬ x8 = (nI 0) → vp_in (((nI 3) * x2) + x7) 78 ∧ KI E d 178 [.ref 80, .int x4, .int x9, .int ((gA v 84) ((((nI 3) * x2) + x7)).toNatClampNeg)] v (fun y5 v4 => ((y5 = (nI 0) → RI E (d + 1) 191 82 [(0, .ref 80), (1, .int x1), (2, .int x2), (4, .int x4), (5, .int x5), (6, .int (nI 1)), (7, .int x7), (8, .int (nI 0)), (9, .int (x9 + (nI 1))), (10, .int x10), (11, .int x11), (12, .int (x12 + (nI 1)))] v4 Q) ∧ (¬ y5 = (nI 0) → RI E (d + 1) 191 82 [(0, .ref 80), (1, .int x1), (2, .int x2), (4, .int x4), (5, .int x5), (6, .int (nI 1)), (7, .int x7), (8, .int (nI 1)), (9, .int (x9 + (nI 1))), (10, .int x10), (11, .int x11), (12, .int (x12 + (nI 1)))] v4 Q)))))))))) : RI E (d + 1) 191 82 [(0, .ref 80), (1, .int x1), (2, .int x2), (4, .int x4), (5, .int x5), (6, .int x6), (7, .int x7), (8, .int x8), (9, .int x9), (10, .int x10), (11, .int x11), (12, .int x12)] v Q := by
  unfold RI
  obtain ⟨hb1, h⟩ := h
  refine xr_blk (lv1 := [(0, .ref 80), (1, .int x1), (2, .int x2), (4, .int x4), (5, .int x5), (6, .int x6), (7, .int x7), (8, .int x8), (9, .int x9), (10, .int x10), (11, .int x11), (12, .int x12)]) (st1 := [.int ((gA v 86) (x11).toNatClampNeg), .int x12]) (S1 := rt v) (pc1 := 91) [(.iload 12, .null, 0, 0), (.aload_n 0, .null, 0, 0), (.getfield 29, .null, 12, 10), (.iload 11, .null, 0, 0), (.iaload, .null, 0, 0)] [(x11, 80)] (by decide +kernel) rfl ⟨hb1, trivial⟩ ?_
  refine xr_ic_ge (tgt := 157) (off := 66) (by decide +kernel) (by decide) (fun hc => ?_) (fun hc => ?_)
  · replace h := h.1 hc
    refine xr_blk (lv1 := [(10, .int (x10 + (nI 1))), (0, .ref 80), (1, .int x1), (2, .int x2), (4, .int x4), (5, .int x5), (6, .int x6), (7, .int x7), (8, .int x8), (9, .int x9), (11, .int x11), (12, .int x12)]) (st1 := []) (S1 := rt v) (pc1 := 160) [(.iinc 10 1, .int (nI 1), 0, 0)] [] (by decide +kernel) rfl trivial ?_
    refine xr_goto (tgt := 54) (off := -106) (by decide +kernel) (by decide) ?_
    exact x_R.sub [1, 2, 3, 4, 5, 6, 7, 8, 9, 0] rfl h
  · replace h := h.2 hc
    obtain ⟨hb2, h⟩ := h
    refine xr_blk (lv1 := [(0, .ref 80), (1, .int x1), (2, .int x2), (4, .int x4), (5, .int x5), (6, .int x6), (7, .int x7), (8, .int x8), (9, .int x9), (10, .int x10), (11, .int x11), (12, .int x12)]) (st1 := [.int x2, .int ((gA v 85) ((((nI 10) * x11) + x12)).toNatClampNeg)]) (S1 := rt v) (pc1 := 108) [(.aload_n 0, .null, 0, 0), (.getfield 26, .null, 12, 9), (.bipush 10, .int (nI 10), 0, 0), (.iload 11, .null, 0, 0), (.imul, .null, 0, 0), (.iload 12, .null, 0, 0), (.iadd, .null, 0, 0), (.iaload, .null, 0, 0), (.iload_n 2, .null, 0, 0)] [((((nI 10) * x11) + x12), 800)] (by decide +kernel) rfl ⟨hb2, trivial⟩ ?_
    refine xr_ic_ne (tgt := 148) (off := 40) (by decide +kernel) (by decide) (fun hc => ?_) (fun hc => ?_)
    · replace h := h.1 hc
      refine xr_blk (lv1 := [(12, .int (x12 + (nI 1))), (9, .int (x9 + (nI 1))), (0, .ref 80), (1, .int x1), (2, .int x2), (4, .int x4), (5, .int x5), (6, .int x6), (7, .int x7), (8, .int x8), (10, .int x10), (11, .int x11)]) (st1 := []) (S1 := rt v) (pc1 := 154) [(.iinc 9 1, .int (nI 1), 0, 0), (.iinc 12 1, .int (nI 1), 0, 0)] [] (by decide +kernel) rfl trivial ?_
      refine xr_goto (tgt := 82) (off := -72) (by decide +kernel) (by decide) ?_
      exact x_R.sub [2, 3, 4, 5, 6, 7, 8, 9, 1, 10, 11, 0] rfl h
    · replace h := h.2 hc
      refine xr_blk (lv1 := [(6, .int (nI 1)), (0, .ref 80), (1, .int x1), (2, .int x2), (4, .int x4), (5, .int x5), (7, .int x7), (8, .int x8), (9, .int x9), (10, .int x10), (11, .int x11), (12, .int x12)]) (st1 := [.int x8]) (S1 := rt v) (pc1 := 116) [(.iconst 1, .int (nI 1), 0, 0), (.istore 6, .null, 0, 0), (.iload 8, .null, 0, 0)] [] (by decide +kernel) rfl trivial ?_
      refine xr_if_eq (tgt := 145) (off := 29) (by decide +kernel) (by decide) (fun hc => ?_) (fun hc => ?_)
      · replace h := h.1 hc
        refine xr_blk (lv1 := [(12, .int (x12 + (nI 1))), (9, .int (x9 + (nI 1))), (8, .int (nI 0)), (6, .int (nI 1)), (0, .ref 80), (1, .int x1), (2, .int x2), (4, .int x4), (5, .int x5), (7, .int x7), (10, .int x10), (11, .int x11)]) (st1 := []) (S1 := rt v) (pc1 := 154) [(.iconst 0, .int (nI 0), 0, 0), (.istore 8, .null, 0, 0), (.iinc 9 1, .int (nI 1), 0, 0), (.iinc 12 1, .int (nI 1), 0, 0)] [] (by decide +kernel) rfl trivial ?_
        refine xr_goto (tgt := 82) (off := -72) (by decide +kernel) (by decide) ?_
        exact x_R.sub [4, 5, 6, 7, 8, 3, 9, 2, 1, 10, 11, 0] rfl h
      · replace h := h.2 hc
        obtain ⟨hb3, h⟩ := h
        refine xr_blk (lv1 := [(6, .int (nI 1)), (0, .ref 80), (1, .int x1), (2, .int x2), (4, .int x4), (5, .int x5), (7, .int x7), (8, .int x8), (9, .int x9), (10, .int x10), (11, .int x11), (12, .int x12)]) (st1 := [.int ((gA v 84) ((((nI 3) * x2) + x7)).toNatClampNeg), .int x9, .int x4, .ref 80]) (S1 := rt v) (pc1 := 135) [(.aload_n 0, .null, 0, 0), (.iload 4, .null, 0, 0), (.iload 9, .null, 0, 0), (.aload_n 0, .null, 0, 0), (.getfield 23, .null, 12, 8), (.iconst 3, .int (nI 3), 0, 0), (.iload_n 2, .null, 0, 0), (.imul, .null, 0, 0), (.iload 7, .null, 0, 0), (.iadd, .null, 0, 0), (.iaload, .null, 0, 0)] [((((nI 3) * x2) + x7), 78)] (by decide +kernel) rfl ⟨hb3, trivial⟩ ?_
        refine xk_VI (As := [.int x4, .int x9, .int ((gA v 84) ((((nI 3) * x2) + x7)).toNatClampNeg)]) (bb := 80) (rest := []) (idx := 314) (i0 := 314) (m1 := 178) (ps := [1725, 1727, 70]) (by decide +kernel) (by decide +kernel) (by decide) rfl ((gK_s (by decide)).trans (by decide +kernel)) (by decide) (Nat.le_of_ble_eq_true rfl) rfl h (fun y5 v4 h => ?_)
        refine xr_if_eq (tgt := 145) (off := 7) (by decide +kernel) (by decide) (fun hc => ?_) (fun hc => ?_)
        · replace h := h.1 hc
          refine xr_blk (lv1 := [(12, .int (x12 + (nI 1))), (9, .int (x9 + (nI 1))), (8, .int (nI 0)), (6, .int (nI 1)), (0, .ref 80), (1, .int x1), (2, .int x2), (4, .int x4), (5, .int x5), (7, .int x7), (10, .int x10), (11, .int x11)]) (st1 := []) (S1 := rt v4) (pc1 := 154) [(.iconst 0, .int (nI 0), 0, 0), (.istore 8, .null, 0, 0), (.iinc 9 1, .int (nI 1), 0, 0), (.iinc 12 1, .int (nI 1), 0, 0)] [] (by decide +kernel) rfl trivial ?_
          refine xr_goto (tgt := 82) (off := -72) (by decide +kernel) (by decide) ?_
          exact x_R.sub [4, 5, 6, 7, 8, 3, 9, 2, 1, 10, 11, 0] rfl h
        · replace h := h.2 hc
          refine xr_blk (lv1 := [(6, .int (nI 1)), (0, .ref 80), (1, .int x1), (2, .int x2), (4, .int x4), (5, .int x5), (7, .int x7), (8, .int x8), (9, .int x9), (10, .int x10), (11, .int x11), (12, .int x12)]) (st1 := [.int (nI 1)]) (S1 := rt v4) (pc1 := 142) [(.iconst 1, .int (nI 1), 0, 0)] [] (by decide +kernel) rfl trivial ?_
          refine xr_goto (tgt := 146) (off := 4) (by decide +kernel) (by decide) ?_
          refine xr_blk (lv1 := [(12, .int (x12 + (nI 1))), (9, .int (x9 + (nI 1))), (8, .int (nI 1)), (6, .int (nI 1)), (0, .ref 80), (1, .int x1), (2, .int x2), (4, .int x4), (5, .int x5), (7, .int x7), (10, .int x10), (11, .int x11)]) (st1 := []) (S1 := rt v4) (pc1 := 154) [(.istore 8, .null, 0, 0), (.iinc 9 1, .int (nI 1), 0, 0), (.iinc 12 1, .int (nI 1), 0, 0)] [] (by decide +kernel) rfl trivial ?_
          refine xr_goto (tgt := 82) (off := -72) (by decide +kernel) (by decide) ?_
          exact x_R.sub [4, 5, 6, 7, 8, 3, 9, 2, 1, 10, 11, 0] rfl h
theorem ok_191 : x_mOK 191 := ⟨x_tm7 (List.mem_of_getElem? (i := 238) rfl) rfl, 114, by decide +kernel⟩
/-! X12_reading: method 192, ScrawlHouseModel.reading(III)I -/
set_option maxRecDepth 100000 in
theorem w_X12_reading_0 {E : Nat × (Nat → Int32)} {d : Nat} {v : xV} {x1 : Int32} {x2 : Int32} {x3 : Int32} {Q : Int32 → xV → Prop} (h : KI E d 173 [.ref 80, .int x1, .int x2] (v_I v 80 0 (nI 0)) (fun y2 v1 => ((y2 = (nI 0) → Q (-1 : Int32) v1) ∧ (¬ y2 = (nI 0) → KI E d 152 [.int x3, .int (nI 0), .int (nI 5)] v1 (fun y4 v3 => ((¬ y4 = (nI 0) → KV E d 182 [.ref 80, .int x2] v3 (fun v5 => ((¬ x3 = (nI 5) → vp_in x1 20 ∧ ((¬ ((gA v5 117) (x1).toNatClampNeg) = (nI 0) → ((¬ x3 = (nI 0) → ((¬ x3 = (nI 1) → KI E d 190 [.ref 80, .int x1, .int (x3 - (nI 2))] v5 (fun y8 v7 => Q y8 v7)) ∧ (x3 = (nI 1) → vp_in x1 20 ∧ Q ((gA v5 119) (x1).toNatClampNeg) v5))) ∧ (x3 = (nI 0) → vp_in x1 20 ∧ Q ((gA v5 118) (x1).toNatClampNeg) v5))) ∧ (((gA v5 117) (x1).toNatClampNeg) = (nI 0) → Q (-1 : Int32) v5))) ∧ (x3 = (nI 5) → RI E (d + 1) 192 41 [(0, .ref 80), (1, .int x1), (2, .int x2), (4, .int (nI 0)), (5, .int (nI 0))] v5 Q)))) ∧ (y4 = (nI 0) → Q (-1 : Int32) v3))))))) : RI E (d + 1) 192 0 [(0, .ref 80), (1, .int x1), (2, .int x2), (3, .int x3)] v Q := by
  unfold RI
  refine xr_blk (lv1 := [(0, .ref 80), (1, .int x1), (2, .int x2), (3, .int x3)]) (st1 := [.int x2, .int x1, .ref 80]) (S1 := rt (v_I v 80 0 (nI 0))) (pc1 := 8) [(.aload_n 0, .null, 0, 0), (.iconst 0, .int (nI 0), 0, 0), (.putfield 190, .null, 12, 0), (.aload_n 0, .null, 0, 0), (.iload_n 1, .null, 0, 0), (.iload_n 2, .null, 0, 0)] [] (by decide +kernel) rfl trivial ?_
  refine xk_VI (As := [.int x1, .int x2]) (bb := 80) (rest := []) (idx := 321) (i0 := 321) (m1 := 173) (ps := [1712, 1714, 67]) (by decide +kernel) (by decide +kernel) (by decide) rfl ((gK_s (by decide)).trans (by decide +kernel)) (by decide) (Nat.le_of_ble_eq_true rfl) rfl h (fun y2 v1 h => ?_)
  refine xr_if_eq (tgt := 23) (off := 12) (by decide +kernel) (by decide) (fun hc => ?_) (fun hc => ?_)
  · replace h := h.1 hc
    refine xr_blk (lv1 := [(0, .ref 80), (1, .int x1), (2, .int x2), (3, .int x3)]) (st1 := [.int (-1)]) (S1 := rt v1) (pc1 := 24) [(.iconst (-1), .int (-1), 0, 0)] [] (by decide +kernel) rfl trivial ?_
    exact xr_iret (by decide +kernel) rfl ⟨_, _, rfl, rfl, h⟩
  · replace h := h.2 hc
    refine xr_blk (lv1 := [(0, .ref 80), (1, .int x1), (2, .int x2), (3, .int x3)]) (st1 := [.int (nI 5), .int (nI 0), .int x3]) (S1 := rt v1) (pc1 := 17) [(.iload_n 3, .null, 0, 0), (.iconst 0, .int (nI 0), 0, 0), (.iconst 5, .int (nI 5), 0, 0)] [] (by decide +kernel) rfl trivial ?_
    refine xk_SI (As := [.int x3, .int (nI 0), .int (nI 5)]) (rest := []) (idx := 200) (i0 := 200) (m1 := 152) (ps := [1616, 1617]) (by decide +kernel) (by decide +kernel) (by decide) rfl (Nat.le_of_ble_eq_true rfl) rfl h (fun y4 v3 h => ?_)
    refine xr_if_ne (tgt := 25) (off := 5) (by decide +kernel) (by decide) (fun hc => ?_) (fun hc => ?_)
    · replace h := h.1 hc
      refine xr_blk (lv1 := [(0, .ref 80), (1, .int x1), (2, .int x2), (3, .int x3)]) (st1 := [.int x2, .ref 80]) (S1 := rt v3) (pc1 := 27) [(.aload_n 0, .null, 0, 0), (.iload_n 2, .null, 0, 0)] [] (by decide +kernel) rfl trivial ?_
      refine xk_VV (As := [.int x2]) (bb := 80) (rest := []) (idx := 356) (i0 := 356) (m1 := 182) (ps := [1736, 1738, 71]) (by decide +kernel) (by decide +kernel) (by decide) rfl ((gK_s (by decide)).trans (by decide +kernel)) (by decide) (Nat.le_of_ble_eq_true rfl) rfl h (fun v5 h => ?_)
      refine xr_blk (lv1 := [(0, .ref 80), (1, .int x1), (2, .int x2), (3, .int x3)]) (st1 := [.int (nI 5), .int x3]) (S1 := rt v5) (pc1 := 32) [(.iload_n 3, .null, 0, 0), (.iconst 5, .int (nI 5), 0, 0)] [] (by decide +kernel) rfl trivial ?_
      refine xr_ic_ne (tgt := 72) (off := 40) (by decide +kernel) (by decide) (fun hc => ?_) (fun hc => ?_)
      · replace h := h.1 hc
        obtain ⟨hb6, h⟩ := h
        refine xr_blk (lv1 := [(0, .ref 80), (1, .int x1), (2, .int x2), (3, .int x3)]) (st1 := [.int ((gA v5 117) (x1).toNatClampNeg)]) (S1 := rt v5) (pc1 := 78) [(.aload_n 0, .null, 0, 0), (.getfield 124, .null, 12, 58), (.iload_n 1, .null, 0, 0), (.iaload, .null, 0, 0)] [(x1, 20)] (by decide +kernel) rfl ⟨hb6, trivial⟩ ?_
        refine xr_if_ne (tgt := 83) (off := 5) (by decide +kernel) (by decide) (fun hc => ?_) (fun hc => ?_)
        · replace h := h.1 hc
          refine xr_blk (lv1 := [(0, .ref 80), (1, .int x1), (2, .int x2), (3, .int x3)]) (st1 := [.int x3]) (S1 := rt v5) (pc1 := 84) [(.iload_n 3, .null, 0, 0)] [] (by decide +kernel) rfl trivial ?_
          refine xr_if_ne (tgt := 96) (off := 12) (by decide +kernel) (by decide) (fun hc => ?_) (fun hc => ?_)
          · replace h := h.1 hc
            refine xr_blk (lv1 := [(0, .ref 80), (1, .int x1), (2, .int x2), (3, .int x3)]) (st1 := [.int (nI 1), .int x3]) (S1 := rt v5) (pc1 := 98) [(.iload_n 3, .null, 0, 0), (.iconst 1, .int (nI 1), 0, 0)] [] (by decide +kernel) rfl trivial ?_
            refine xr_ic_ne (tgt := 110) (off := 12) (by decide +kernel) (by decide) (fun hc => ?_) (fun hc => ?_)
            · replace h := h.1 hc
              refine xr_blk (lv1 := [(0, .ref 80), (1, .int x1), (2, .int x2), (3, .int x3)]) (st1 := [.int (x3 - (nI 2)), .int x1, .ref 80]) (S1 := rt v5) (pc1 := 115) [(.aload_n 0, .null, 0, 0), (.iload_n 1, .null, 0, 0), (.iload_n 3, .null, 0, 0), (.iconst 2, .int (nI 2), 0, 0), (.isub, .null, 0, 0)] [] (by decide +kernel) rfl trivial ?_
              refine xk_VI (As := [.int x1, .int (x3 - (nI 2))]) (bb := 80) (rest := []) (idx := 368) (i0 := 368) (m1 := 190) (ps := [1779, 1781, 79]) (by decide +kernel) (by decide +kernel) (by decide) rfl ((gK_s (by decide)).trans (by decide +kernel)) (by decide) (Nat.le_of_ble_eq_true rfl) rfl h (fun y8 v7 h => ?_)
              exact xr_iret (by decide +kernel) rfl ⟨_, _, rfl, rfl, h⟩
            · replace h := h.2 hc
              obtain ⟨hb9, h⟩ := h
              refine xr_blk (lv1 := [(0, .ref 80), (1, .int x1), (2, .int x2), (3, .int x3)]) (st1 := [.int ((gA v5 119) (x1).toNatClampNeg)]) (S1 := rt v5) (pc1 := 107) [(.aload_n 0, .null, 0, 0), (.getfield 130, .null, 12, 60), (.iload_n 1, .null, 0, 0), (.iaload, .null, 0, 0)] [(x1, 20)] (by decide +kernel) rfl ⟨hb9, trivial⟩ ?_
              refine xr_goto (tgt := 118) (off := 11) (by decide +kernel) (by decide) ?_
              exact xr_iret (by decide +kernel) rfl ⟨_, _, rfl, rfl, h⟩
          · replace h := h.2 hc
            obtain ⟨hb10, h⟩ := h
            refine xr_blk (lv1 := [(0, .ref 80), (1, .int x1), (2, .int x2), (3, .int x3)]) (st1 := [.int ((gA v5 118) (x1).toNatClampNeg)]) (S1 := rt v5) (pc1 := 93) [(.aload_n 0, .null, 0, 0), (.getfield 127, .null, 12, 59), (.iload_n 1, .null, 0, 0), (.iaload, .null, 0, 0)] [(x1, 20)] (by decide +kernel) rfl ⟨hb10, trivial⟩ ?_
            refine xr_goto (tgt := 118) (off := 25) (by decide +kernel) (by decide) ?_
            exact xr_iret (by decide +kernel) rfl ⟨_, _, rfl, rfl, h⟩
        · replace h := h.2 hc
          refine xr_blk (lv1 := [(0, .ref 80), (1, .int x1), (2, .int x2), (3, .int x3)]) (st1 := [.int (-1)]) (S1 := rt v5) (pc1 := 82) [(.iconst (-1), .int (-1), 0, 0)] [] (by decide +kernel) rfl trivial ?_
          exact xr_iret (by decide +kernel) rfl ⟨_, _, rfl, rfl, h⟩
      · replace h := h.2 hc
        refine xr_blk (lv1 := [(5, .int (nI 0)), (4, .int (nI 0)), (0, .ref 80), (1, .int x1), (2, .int x2), (3, .int x3)]) (st1 := []) (S1 := rt v5) (pc1 := 41) [(.iconst 0, .int (nI 0), 0, 0), (.istore 4, .null, 0, 0), (.iconst 0, .int (nI 0), 0, 0), (.istore 5, .null, 0, 0)] [] (by decide +kernel) rfl trivial ?_
        exact x_R.sub [2, 3, 4, 1, 0] rfl h
    · replace h := h.2 hc
      refine xr_blk (lv1 := [(0, .ref 80), (1, .int x1), (2, .int x2), (3, .int x3)]) (st1 := [.int (-1)]) (S1 := rt v3) (pc1 := 24) [(.iconst (-1), .int (-1), 0, 0)] [] (by decide +kernel) rfl trivial ?_
      exact xr_iret (by decide +kernel) rfl ⟨_, _, rfl, rfl, h⟩
set_option maxRecDepth 100000 in
theorem w_X12_reading_41 {E : Nat × (Nat → Int32)} {d : Nat} {v : xV} {x1 : Int32} {x2 : Int32} {x4 : Int32} {x5 : Int32} {Q : Int32 → xV → Prop} (h : (((nI 26) ≤ x5 → Q x4 v) ∧ (¬ (nI 26) ≤ x5 → KI E d 191 [.ref 80, .int x1, .int x5, .int x2] v (fun y2 v1 => ((y2 = (-1 : Int32) → RI E (d + 1) 192 41 [(0, .ref 80), (1, .int x1), (2, .int x2), (4, .int x4), (5, .int (x5 + (nI 1)))] v1 Q) ∧ (¬ y2 = (-1 : Int32) → RI E (d + 1) 192 41 [(0, .ref 80), (1, .int x1), (2, .int x2), (4, .int (x4 + (nI 1))), (5, .int (x5 + (nI 1)))] v1 Q)))))) : RI E (d + 1) 192 41 [(0, .ref 80), (1, .int x1), (2, .int x2), (4, .int x4), (5, .int x5)] v Q := by
  unfold RI
  refine xr_blk (lv1 := [(0, .ref 80), (1, .int x1), (2, .int x2), (4, .int x4), (5, .int x5)]) (st1 := [.int (nI 26), .int x5]) (S1 := rt v) (pc1 := 45) [(.iload 5, .null, 0, 0), (.bipush 26, .int (nI 26), 0, 0)] [] (by decide +kernel) rfl trivial ?_
  refine xr_ic_ge (tgt := 69) (off := 24) (by decide +kernel) (by decide) (fun hc => ?_) (fun hc => ?_)
  · replace h := h.1 hc
    refine xr_blk (lv1 := [(0, .ref 80), (1, .int x1), (2, .int x2), (4, .int x4), (5, .int x5)]) (st1 := [.int x4]) (S1 := rt v) (pc1 := 71) [(.iload 4, .null, 0, 0)] [] (by decide +kernel) rfl trivial ?_
    exact xr_iret (by decide +kernel) rfl ⟨_, _, rfl, rfl, h⟩
  · replace h := h.2 hc
    refine xr_blk (lv1 := [(0, .ref 80), (1, .int x1), (2, .int x2), (4, .int x4), (5, .int x5)]) (st1 := [.int x2, .int x5, .int x1, .ref 80]) (S1 := rt v) (pc1 := 53) [(.aload_n 0, .null, 0, 0), (.iload_n 1, .null, 0, 0), (.iload 5, .null, 0, 0), (.iload_n 2, .null, 0, 0)] [] (by decide +kernel) rfl trivial ?_
    refine xk_VI (As := [.int x1, .int x5, .int x2]) (bb := 80) (rest := []) (idx := 365) (i0 := 365) (m1 := 191) (ps := [1775, 1777, 78]) (by decide +kernel) (by decide +kernel) (by decide) rfl ((gK_s (by decide)).trans (by decide +kernel)) (by decide) (Nat.le_of_ble_eq_true rfl) rfl h (fun y2 v1 h => ?_)
    refine xr_blk (lv1 := [(0, .ref 80), (1, .int x1), (2, .int x2), (4, .int x4), (5, .int x5)]) (st1 := [.int (-1), .int y2]) (S1 := rt v1) (pc1 := 57) [(.iconst (-1), .int (-1), 0, 0)] [] (by decide +kernel) rfl trivial ?_
    refine xr_ic_eq (tgt := 63) (off := 6) (by decide +kernel) (by decide) (fun hc => ?_) (fun hc => ?_)
    · replace h := h.1 hc
      refine xr_blk (lv1 := [(5, .int (x5 + (nI 1))), (0, .ref 80), (1, .int x1), (2, .int x2), (4, .int x4)]) (st1 := []) (S1 := rt v1) (pc1 := 66) [(.iinc 5 1, .int (nI 1), 0, 0)] [] (by decide +kernel) rfl trivial ?_
      refine xr_goto (tgt := 41) (off := -25) (by decide +kernel) (by decide) ?_
      exact x_R.sub [1, 2, 3, 4, 0] rfl h
    · replace h := h.2 hc
      refine xr_blk (lv1 := [(5, .int (x5 + (nI 1))), (4, .int (x4 + (nI 1))), (0, .ref 80), (1, .int x1), (2, .int x2)]) (st1 := []) (S1 := rt v1) (pc1 := 66) [(.iinc 4 1, .int (nI 1), 0, 0), (.iinc 5 1, .int (nI 1), 0, 0)] [] (by decide +kernel) rfl trivial ?_
      refine xr_goto (tgt := 41) (off := -25) (by decide +kernel) (by decide) ?_
      exact x_R.sub [2, 3, 4, 1, 0] rfl h
theorem ok_192 : x_mOK 192 := ⟨x_tm7 (List.mem_of_getElem? (i := 234) rfl) rfl, 114, by decide +kernel⟩
/-! X12_used: method 193, ScrawlHouseModel.used(III)I -/
set_option maxRecDepth 100000 in
theorem w_X12_used_0 {E : Nat × (Nat → Int32)} {d : Nat} {v : xV} {x1 : Int32} {x2 : Int32} {x3 : Int32} {Q : Int32 → xV → Prop} (h : KI E d 173 [.ref 80, .int x1, .int x3] (v_I v 80 0 (nI 0)) (fun y2 v1 => ((y2 = (nI 0) → Q (-1 : Int32) v1) ∧ (¬ y2 = (nI 0) → KI E d 152 [.int x2, .int (nI 0), .int (nI 25)] v1 (fun y4 v3 => ((¬ y4 = (nI 0) → KV E d 182 [.ref 80, .int x3] v3 (fun v5 => KI E d 191 [.ref 80, .int x1, .int x2, .int x3] v5 (fun y7 v6 => Q y7 v6))) ∧ (y4 = (nI 0) → Q (-1 : Int32) v3))))))) : RI E (d + 1) 193 0 [(0, .ref 80), (1, .int x1), (2, .int x2), (3, .int x3)] v Q := by
  unfold RI
  refine xr_blk (lv1 := [(0, .ref 80), (1, .int x1), (2, .int x2), (3, .int x3)]) (st1 := [.int x3, .int x1, .ref 80]) (S1 := rt (v_I v 80 0 (nI 0))) (pc1 := 8) [(.aload_n 0, .null, 0, 0), (.iconst 0, .int (nI 0), 0, 0), (.putfield 190, .null, 12, 0), (.aload_n 0, .null, 0, 0), (.iload_n 1, .null, 0, 0), (.iload_n 3, .null, 0, 0)] [] (by decide +kernel) rfl trivial ?_
  refine xk_VI (As := [.int x1, .int x3]) (bb := 80) (rest := []) (idx := 321) (i0 := 321) (m1 := 173) (ps := [1712, 1714, 67]) (by decide +kernel) (by decide +kernel) (by decide) rfl ((gK_s (by decide)).trans (by decide +kernel)) (by decide) (Nat.le_of_ble_eq_true rfl) rfl h (fun y2 v1 h => ?_)
  refine xr_if_eq (tgt := 24) (off := 13) (by decide +kernel) (by decide) (fun hc => ?_) (fun hc => ?_)
  · replace h := h.1 hc
    refine xr_blk (lv1 := [(0, .ref 80), (1, .int x1), (2, .int x2), (3, .int x3)]) (st1 := [.int (-1)]) (S1 := rt v1) (pc1 := 25) [(.iconst (-1), .int (-1), 0, 0)] [] (by decide +kernel) rfl trivial ?_
    exact xr_iret (by decide +kernel) rfl ⟨_, _, rfl, rfl, h⟩
  · replace h := h.2 hc
    refine xr_blk (lv1 := [(0, .ref 80), (1, .int x1), (2, .int x2), (3, .int x3)]) (st1 := [.int (nI 25), .int (nI 0), .int x2]) (S1 := rt v1) (pc1 := 18) [(.iload_n 2, .null, 0, 0), (.iconst 0, .int (nI 0), 0, 0), (.bipush 25, .int (nI 25), 0, 0)] [] (by decide +kernel) rfl trivial ?_
    refine xk_SI (As := [.int x2, .int (nI 0), .int (nI 25)]) (rest := []) (idx := 200) (i0 := 200) (m1 := 152) (ps := [1616, 1617]) (by decide +kernel) (by decide +kernel) (by decide) rfl (Nat.le_of_ble_eq_true rfl) rfl h (fun y4 v3 h => ?_)
    refine xr_if_ne (tgt := 26) (off := 5) (by decide +kernel) (by decide) (fun hc => ?_) (fun hc => ?_)
    · replace h := h.1 hc
      refine xr_blk (lv1 := [(0, .ref 80), (1, .int x1), (2, .int x2), (3, .int x3)]) (st1 := [.int x3, .ref 80]) (S1 := rt v3) (pc1 := 28) [(.aload_n 0, .null, 0, 0), (.iload_n 3, .null, 0, 0)] [] (by decide +kernel) rfl trivial ?_
      refine xk_VV (As := [.int x3]) (bb := 80) (rest := []) (idx := 356) (i0 := 356) (m1 := 182) (ps := [1736, 1738, 71]) (by decide +kernel) (by decide +kernel) (by decide) rfl ((gK_s (by decide)).trans (by decide +kernel)) (by decide) (Nat.le_of_ble_eq_true rfl) rfl h (fun v5 h => ?_)
      refine xr_blk (lv1 := [(0, .ref 80), (1, .int x1), (2, .int x2), (3, .int x3)]) (st1 := [.int x3, .int x2, .int x1, .ref 80]) (S1 := rt v5) (pc1 := 35) [(.aload_n 0, .null, 0, 0), (.iload_n 1, .null, 0, 0), (.iload_n 2, .null, 0, 0), (.iload_n 3, .null, 0, 0)] [] (by decide +kernel) rfl trivial ?_
      refine xk_VI (As := [.int x1, .int x2, .int x3]) (bb := 80) (rest := []) (idx := 365) (i0 := 365) (m1 := 191) (ps := [1775, 1777, 78]) (by decide +kernel) (by decide +kernel) (by decide) rfl ((gK_s (by decide)).trans (by decide +kernel)) (by decide) (Nat.le_of_ble_eq_true rfl) rfl h (fun y7 v6 h => ?_)
      exact xr_iret (by decide +kernel) rfl ⟨_, _, rfl, rfl, h⟩
    · replace h := h.2 hc
      refine xr_blk (lv1 := [(0, .ref 80), (1, .int x1), (2, .int x2), (3, .int x3)]) (st1 := [.int (-1)]) (S1 := rt v3) (pc1 := 25) [(.iconst (-1), .int (-1), 0, 0)] [] (by decide +kernel) rfl trivial ?_
      exact xr_iret (by decide +kernel) rfl ⟨_, _, rfl, rfl, h⟩
theorem ok_193 : x_mOK 193 := ⟨x_tm8 (List.mem_of_getElem? (i := 6) rfl) rfl, 114, by decide +kernel⟩
/-! X12_agreement: method 194, ScrawlHouseModel.agreement(III)I -/
set_option maxRecDepth 100000 in
theorem w_X12_agreement_0 {E : Nat × (Nat → Int32)} {d : Nat} {v : xV} {x1 : Int32} {x2 : Int32} {x3 : Int32} {Q : Int32 → xV → Prop} (h : RI E (d + 1) 194 9 [(0, .ref 80), (1, .int x1), (2, .int x2), (3, .int x3), (4, .int (nI 0)), (5, .int (nI 0)), (6, .int (nI 0))] v Q) : RI E (d + 1) 194 0 [(0, .ref 80), (1, .int x1), (2, .int x2), (3, .int x3)] v Q := by
  unfold RI
  refine xr_blk (lv1 := [(6, .int (nI 0)), (5, .int (nI 0)), (4, .int (nI 0)), (0, .ref 80), (1, .int x1), (2, .int x2), (3, .int x3)]) (st1 := []) (S1 := rt v) (pc1 := 9) [(.iconst 0, .int (nI 0), 0, 0), (.istore 4, .null, 0, 0), (.iconst 0, .int (nI 0), 0, 0), (.istore 5, .null, 0, 0), (.iconst 0, .int (nI 0), 0, 0), (.istore 6, .null, 0, 0)] [] (by decide +kernel) rfl trivial ?_
  exact x_R.sub [3, 4, 5, 6, 2, 1, 0] rfl h
set_option maxRecDepth 100000 in
theorem w_X12_agreement_9 {E : Nat × (Nat → Int32)} {d : Nat} {v : xV} {x1 : Int32} {x2 : Int32} {x3 : Int32} {x4 : Int32} {x5 : Int32} {x6 : Int32} {Q : Int32 → xV → Prop} (h : (((nI 26) ≤ x6 → ((x5 ≤ (nI 0) → Q x4 v) ∧ (¬ x5 ≤ (nI 0) → Q ((-1 : Int32) - x5) v))) ∧ (¬ (nI 26) ≤ x6 → KI E d 191 [.ref 80, .int x1, .int x6, .int x3] v (fun y2 v1 => KI E d 191 [.ref 80, .int x2, .int x6, .int x3] v1 (fun y4 v3 => ((y2 = (-1 : Int32) → RI E (d + 1) 194 9 [(0, .ref 80), (1, .int x1), (2, .int x2), (3, .int x3), (4, .int x4), (5, .int x5), (6, .int (x6 + (nI 1)))] v3 Q) ∧ (¬ y2 = (-1 : Int32) → ((¬ y4 = (-1 : Int32) → ((¬ y2 = y4 → RI E (d + 1) 194 9 [(0, .ref 80), (1, .int x1), (2, .int x2), (3, .int x3), (4, .int x4), (5, .int (x5 + (nI 1))), (6, .int (x6 + (nI 1)))] v3 Q) ∧ (y2 = y4 → RI E (d + 1) 194 9 [(0, .ref 80), (1, .int x1), (2, .int x2), (3, .int x3), (4, .int (x4 + (nI 1))), (5, .int x5), (6, .int (x6 + (nI 1)))] v3 Q))) ∧ (y4 = (-1 : Int32) → RI E (d + 1) 194 9 [(0, .ref 80), (1, .int x1), (2, .int x2), (3, .int x3), (4, .int x4), (5, .int x5), (6, .int (x6 + (nI 1)))] v3 Q))))))))) : RI E (d + 1) 194 9 [(0, .ref 80), (1, .int x1), (2, .int x2), (3, .int x3), (4, .int x4), (5, .int x5), (6, .int x6)] v Q := by
  unfold RI
  refine xr_blk (lv1 := [(0, .ref 80), (1, .int x1), (2, .int x2), (3, .int x3), (4, .int x4), (5, .int x5), (6, .int x6)]) (st1 := [.int (nI 26), .int x6]) (S1 := rt v) (pc1 := 13) [(.iload 6, .null, 0, 0), (.bipush 26, .int (nI 26), 0, 0)] [] (by decide +kernel) rfl trivial ?_
  refine xr_ic_ge (tgt := 73) (off := 60) (by decide +kernel) (by decide) (fun hc => ?_) (fun hc => ?_)
  · replace h := h.1 hc
    refine xr_blk (lv1 := [(0, .ref 80), (1, .int x1), (2, .int x2), (3, .int x3), (4, .int x4), (5, .int x5), (6, .int x6)]) (st1 := [.int x5]) (S1 := rt v) (pc1 := 75) [(.iload 5, .null, 0, 0)] [] (by decide +kernel) rfl trivial ?_
    refine xr_if_le (tgt := 85) (off := 10) (by decide +kernel) (by decide) (fun hc => ?_) (fun hc => ?_)
    · replace h := h.1 hc
      refine xr_blk (lv1 := [(0, .ref 80), (1, .int x1), (2, .int x2), (3, .int x3), (4, .int x4), (5, .int x5), (6, .int x6)]) (st1 := [.int x4]) (S1 := rt v) (pc1 := 87) [(.iload 4, .null, 0, 0)] [] (by decide +kernel) rfl trivial ?_
      exact xr_iret (by decide +kernel) rfl ⟨_, _, rfl, rfl, h⟩
    · replace h := h.2 hc
      refine xr_blk (lv1 := [(0, .ref 80), (1, .int x1), (2, .int x2), (3, .int x3), (4, .int x4), (5, .int x5), (6, .int x6)]) (st1 := [.int ((-1 : Int32) - x5)]) (S1 := rt v) (pc1 := 82) [(.iconst (-1), .int (-1), 0, 0), (.iload 5, .null, 0, 0), (.isub, .null, 0, 0)] [] (by decide +kernel) rfl trivial ?_
      refine xr_goto (tgt := 87) (off := 5) (by decide +kernel) (by decide) ?_
      exact xr_iret (by decide +kernel) rfl ⟨_, _, rfl, rfl, h⟩
  · replace h := h.2 hc
    refine xr_blk (lv1 := [(0, .ref 80), (1, .int x1), (2, .int x2), (3, .int x3), (4, .int x4), (5, .int x5), (6, .int x6)]) (st1 := [.int x3, .int x6, .int x1, .ref 80]) (S1 := rt v) (pc1 := 21) [(.aload_n 0, .null, 0, 0), (.iload_n 1, .null, 0, 0), (.iload 6, .null, 0, 0), (.iload_n 3, .null, 0, 0)] [] (by decide +kernel) rfl trivial ?_
    refine xk_VI (As := [.int x1, .int x6, .int x3]) (bb := 80) (rest := []) (idx := 365) (i0 := 365) (m1 := 191) (ps := [1775, 1777, 78]) (by decide +kernel) (by decide +kernel) (by decide) rfl ((gK_s (by decide)).trans (by decide +kernel)) (by decide) (Nat.le_of_ble_eq_true rfl) rfl h (fun y2 v1 h => ?_)
    refine xr_blk (lv1 := [(7, .int y2), (0, .ref 80), (1, .int x1), (2, .int x2), (3, .int x3), (4, .int x4), (5, .int x5), (6, .int x6)]) (st1 := [.int x3, .int x6, .int x2, .ref 80]) (S1 := rt v1) (pc1 := 31) [(.istore 7, .null, 0, 0), (.aload_n 0, .null, 0, 0), (.iload_n 2, .null, 0, 0), (.iload 6, .null, 0, 0), (.iload_n 3, .null, 0, 0)] [] (by decide +kernel) rfl trivial ?_
    refine xk_VI (As := [.int x2, .int x6, .int x3]) (bb := 80) (rest := []) (idx := 365) (i0 := 365) (m1 := 191) (ps := [1775, 1777, 78]) (by decide +kernel) (by decide +kernel) (by decide) rfl ((gK_s (by decide)).trans (by decide +kernel)) (by decide) (Nat.le_of_ble_eq_true rfl) rfl h (fun y4 v3 h => ?_)
    refine xr_blk (lv1 := [(8, .int y4), (7, .int y2), (0, .ref 80), (1, .int x1), (2, .int x2), (3, .int x3), (4, .int x4), (5, .int x5), (6, .int x6)]) (st1 := [.int (-1), .int y2]) (S1 := rt v3) (pc1 := 39) [(.istore 8, .null, 0, 0), (.iload 7, .null, 0, 0), (.iconst (-1), .int (-1), 0, 0)] [] (by decide +kernel) rfl trivial ?_
    refine xr_ic_eq (tgt := 67) (off := 28) (by decide +kernel) (by decide) (fun hc => ?_) (fun hc => ?_)
    · replace h := h.1 hc
      refine xr_blk (lv1 := [(6, .int (x6 + (nI 1))), (8, .int y4), (7, .int y2), (0, .ref 80), (1, .int x1), (2, .int x2), (3, .int x3), (4, .int x4), (5, .int x5)]) (st1 := []) (S1 := rt v3) (pc1 := 70) [(.iinc 6 1, .int (nI 1), 0, 0)] [] (by decide +kernel) rfl trivial ?_
      refine xr_goto (tgt := 9) (off := -61) (by decide +kernel) (by decide) ?_
      exact x_R.sub [3, 4, 5, 6, 7, 8, 0] rfl h
    · replace h := h.2 hc
      refine xr_blk (lv1 := [(8, .int y4), (7, .int y2), (0, .ref 80), (1, .int x1), (2, .int x2), (3, .int x3), (4, .int x4), (5, .int x5), (6, .int x6)]) (st1 := [.int (-1), .int y4]) (S1 := rt v3) (pc1 := 45) [(.iload 8, .null, 0, 0), (.iconst (-1), .int (-1), 0, 0)] [] (by decide +kernel) rfl trivial ?_
      refine xr_ic_ne (tgt := 51) (off := 6) (by decide +kernel) (by decide) (fun hc => ?_) (fun hc => ?_)
      · replace h := h.1 hc
        refine xr_blk (lv1 := [(8, .int y4), (7, .int y2), (0, .ref 80), (1, .int x1), (2, .int x2), (3, .int x3), (4, .int x4), (5, .int x5), (6, .int x6)]) (st1 := [.int y4, .int y2]) (S1 := rt v3) (pc1 := 55) [(.iload 7, .null, 0, 0), (.iload 8, .null, 0, 0)] [] (by decide +kernel) rfl trivial ?_
        refine xr_ic_ne (tgt := 64) (off := 9) (by decide +kernel) (by decide) (fun hc => ?_) (fun hc => ?_)
        · replace h := h.1 hc
          refine xr_blk (lv1 := [(6, .int (x6 + (nI 1))), (5, .int (x5 + (nI 1))), (8, .int y4), (7, .int y2), (0, .ref 80), (1, .int x1), (2, .int x2), (3, .int x3), (4, .int x4)]) (st1 := []) (S1 := rt v3) (pc1 := 70) [(.iinc 5 1, .int (nI 1), 0, 0), (.iinc 6 1, .int (nI 1), 0, 0)] [] (by decide +kernel) rfl trivial ?_
          refine xr_goto (tgt := 9) (off := -61) (by decide +kernel) (by decide) ?_
          exact x_R.sub [4, 5, 6, 7, 8, 1, 0] rfl h
        · replace h := h.2 hc
          refine xr_blk (lv1 := [(4, .int (x4 + (nI 1))), (8, .int y4), (7, .int y2), (0, .ref 80), (1, .int x1), (2, .int x2), (3, .int x3), (5, .int x5), (6, .int x6)]) (st1 := []) (S1 := rt v3) (pc1 := 61) [(.iinc 4 1, .int (nI 1), 0, 0)] [] (by decide +kernel) rfl trivial ?_
          refine xr_goto (tgt := 67) (off := 6) (by decide +kernel) (by decide) ?_
          refine xr_blk (lv1 := [(6, .int (x6 + (nI 1))), (4, .int (x4 + (nI 1))), (8, .int y4), (7, .int y2), (0, .ref 80), (1, .int x1), (2, .int x2), (3, .int x3), (5, .int x5)]) (st1 := []) (S1 := rt v3) (pc1 := 70) [(.iinc 6 1, .int (nI 1), 0, 0)] [] (by decide +kernel) rfl trivial ?_
          refine xr_goto (tgt := 9) (off := -61) (by decide +kernel) (by decide) ?_
          exact x_R.sub [4, 5, 6, 7, 1, 8, 0] rfl h
      · replace h := h.2 hc
        refine xr_goto (tgt := 67) (off := 19) (by decide +kernel) (by decide) ?_
        refine xr_blk (lv1 := [(6, .int (x6 + (nI 1))), (8, .int y4), (7, .int y2), (0, .ref 80), (1, .int x1), (2, .int x2), (3, .int x3), (4, .int x4), (5, .int x5)]) (st1 := []) (S1 := rt v3) (pc1 := 70) [(.iinc 6 1, .int (nI 1), 0, 0)] [] (by decide +kernel) rfl trivial ?_
        refine xr_goto (tgt := 9) (off := -61) (by decide +kernel) (by decide) ?_
        exact x_R.sub [3, 4, 5, 6, 7, 8, 0] rfl h
theorem ok_194 : x_mOK 194 := ⟨x_tm8 (List.mem_of_getElem? (i := 14) rfl) rfl, 114, by decide +kernel⟩
/-! X12_agree: method 195, ScrawlHouseModel.agree(III)I -/
set_option maxRecDepth 100000 in
theorem w_X12_agree_0 {E : Nat × (Nat → Int32)} {d : Nat} {v : xV} {x1 : Int32} {x2 : Int32} {x3 : Int32} {Q : Int32 → xV → Prop} (h : KI E d 173 [.ref 80, .int x1, .int x3] (v_I v 80 0 (nI 0)) (fun y2 v1 => ((y2 = (nI 0) → Q (nI 0) v1) ∧ (¬ y2 = (nI 0) → KI E d 173 [.ref 80, .int x2, .int x3] v1 (fun y4 v3 => ((¬ y4 = (nI 0) → KV E d 182 [.ref 80, .int x3] v3 (fun v5 => KI E d 194 [.ref 80, .int x1, .int x2, .int x3] v5 (fun y7 v6 => Q y7 v6))) ∧ (y4 = (nI 0) → Q (nI 0) v3))))))) : RI E (d + 1) 195 0 [(0, .ref 80), (1, .int x1), (2, .int x2), (3, .int x3)] v Q := by
  unfold RI
  refine xr_blk (lv1 := [(0, .ref 80), (1, .int x1), (2, .int x2), (3, .int x3)]) (st1 := [.int x3, .int x1, .ref 80]) (S1 := rt (v_I v 80 0 (nI 0))) (pc1 := 8) [(.aload_n 0, .null, 0, 0), (.iconst 0, .int (nI 0), 0, 0), (.putfield 190, .null, 12, 0), (.aload_n 0, .null, 0, 0), (.iload_n 1, .null, 0, 0), (.iload_n 3, .null, 0, 0)] [] (by decide +kernel) rfl trivial ?_
  refine xk_VI (As := [.int x1, .int x3]) (bb := 80) (rest := []) (idx := 321) (i0 := 321) (m1 := 173) (ps := [1712, 1714, 67]) (by decide +kernel) (by decide +kernel) (by decide) rfl ((gK_s (by decide)).trans (by decide +kernel)) (by decide) (Nat.le_of_ble_eq_true rfl) rfl h (fun y2 v1 h => ?_)
  refine xr_if_eq (tgt := 23) (off := 12) (by decide +kernel) (by decide) (fun hc => ?_) (fun hc => ?_)
  · replace h := h.1 hc
    refine xr_blk (lv1 := [(0, .ref 80), (1, .int x1), (2, .int x2), (3, .int x3)]) (st1 := [.int (nI 0)]) (S1 := rt v1) (pc1 := 24) [(.iconst 0, .int (nI 0), 0, 0)] [] (by decide +kernel) rfl trivial ?_
    exact xr_iret (by decide +kernel) rfl ⟨_, _, rfl, rfl, h⟩
  · replace h := h.2 hc
    refine xr_blk (lv1 := [(0, .ref 80), (1, .int x1), (2, .int x2), (3, .int x3)]) (st1 := [.int x3, .int x2, .ref 80]) (S1 := rt v1) (pc1 := 17) [(.aload_n 0, .null, 0, 0), (.iload_n 2, .null, 0, 0), (.iload_n 3, .null, 0, 0)] [] (by decide +kernel) rfl trivial ?_
    refine xk_VI (As := [.int x2, .int x3]) (bb := 80) (rest := []) (idx := 321) (i0 := 321) (m1 := 173) (ps := [1712, 1714, 67]) (by decide +kernel) (by decide +kernel) (by decide) rfl ((gK_s (by decide)).trans (by decide +kernel)) (by decide) (Nat.le_of_ble_eq_true rfl) rfl h (fun y4 v3 h => ?_)
    refine xr_if_ne (tgt := 25) (off := 5) (by decide +kernel) (by decide) (fun hc => ?_) (fun hc => ?_)
    · replace h := h.1 hc
      refine xr_blk (lv1 := [(0, .ref 80), (1, .int x1), (2, .int x2), (3, .int x3)]) (st1 := [.int x3, .ref 80]) (S1 := rt v3) (pc1 := 27) [(.aload_n 0, .null, 0, 0), (.iload_n 3, .null, 0, 0)] [] (by decide +kernel) rfl trivial ?_
      refine xk_VV (As := [.int x3]) (bb := 80) (rest := []) (idx := 356) (i0 := 356) (m1 := 182) (ps := [1736, 1738, 71]) (by decide +kernel) (by decide +kernel) (by decide) rfl ((gK_s (by decide)).trans (by decide +kernel)) (by decide) (Nat.le_of_ble_eq_true rfl) rfl h (fun v5 h => ?_)
      refine xr_blk (lv1 := [(0, .ref 80), (1, .int x1), (2, .int x2), (3, .int x3)]) (st1 := [.int x3, .int x2, .int x1, .ref 80]) (S1 := rt v5) (pc1 := 34) [(.aload_n 0, .null, 0, 0), (.iload_n 1, .null, 0, 0), (.iload_n 2, .null, 0, 0), (.iload_n 3, .null, 0, 0)] [] (by decide +kernel) rfl trivial ?_
      refine xk_VI (As := [.int x1, .int x2, .int x3]) (bb := 80) (rest := []) (idx := 371) (i0 := 371) (m1 := 194) (ps := [1791, 1793, 80]) (by decide +kernel) (by decide +kernel) (by decide) rfl ((gK_s (by decide)).trans (by decide +kernel)) (by decide) (Nat.le_of_ble_eq_true rfl) rfl h (fun y7 v6 h => ?_)
      exact xr_iret (by decide +kernel) rfl ⟨_, _, rfl, rfl, h⟩
    · replace h := h.2 hc
      refine xr_blk (lv1 := [(0, .ref 80), (1, .int x1), (2, .int x2), (3, .int x3)]) (st1 := [.int (nI 0)]) (S1 := rt v3) (pc1 := 24) [(.iconst 0, .int (nI 0), 0, 0)] [] (by decide +kernel) rfl trivial ?_
      exact xr_iret (by decide +kernel) rfl ⟨_, _, rfl, rfl, h⟩
theorem ok_195 : x_mOK 195 := ⟨x_tm8 (List.mem_of_getElem? (i := 10) rfl) rfl, 114, by decide +kernel⟩
/-! X12_isWordOf: method 196, ScrawlHouseModel.isWordOf(II)Z -/
set_option maxRecDepth 100000 in
theorem w_X12_isWordOf_0 {E : Nat × (Nat → Int32)} {d : Nat} {v : xV} {x1 : Int32} {x2 : Int32} {Q : Int32 → xV → Prop} (h : ((x1 < (nI 0) → Q (nI 0) v) ∧ (¬ x1 < (nI 0) → (((gI v 80 20) ≤ x1 → Q (nI 0) v) ∧ (¬ (gI v 80 20) ≤ x1 → vp_in x1 80 ∧ ((¬ ((gA v 87) (x1).toNatClampNeg) = x2 → Q (nI 0) v) ∧ (((gA v 87) (x1).toNatClampNeg) = x2 → Q (nI 1) v))))))) : RI E d 196 0 [(0, .ref 80), (1, .int x1), (2, .int x2)] v Q := by
  unfold RI
  refine xr_blk (lv1 := [(0, .ref 80), (1, .int x1), (2, .int x2)]) (st1 := [.int x1]) (S1 := rt v) (pc1 := 1) [(.iload_n 1, .null, 0, 0)] [] (by decide +kernel) rfl trivial ?_
  refine xr_if_lt (tgt := 26) (off := 25) (by decide +kernel) (by decide) (fun hc => ?_) (fun hc => ?_)
  · replace h := h.1 hc
    refine xr_blk (lv1 := [(0, .ref 80), (1, .int x1), (2, .int x2)]) (st1 := [.int (nI 0)]) (S1 := rt v) (pc1 := 27) [(.iconst 0, .int (nI 0), 0, 0)] [] (by decide +kernel) rfl trivial ?_
    exact xr_zret (by decide +kernel) rfl x_in2_0 ⟨_, _, rfl, rfl, h⟩
  · replace h := h.2 hc
    refine xr_blk (lv1 := [(0, .ref 80), (1, .int x1), (2, .int x2)]) (st1 := [.int (gI v 80 20), .int x1]) (S1 := rt v) (pc1 := 9) [(.iload_n 1, .null, 0, 0), (.aload_n 0, .null, 0, 0), (.getfield 207, .null, 12, 20)] [] (by decide +kernel) rfl trivial ?_
    refine xr_ic_ge (tgt := 26) (off := 17) (by decide +kernel) (by decide) (fun hc => ?_) (fun hc => ?_)
    · replace h := h.1 hc
      refine xr_blk (lv1 := [(0, .ref 80), (1, .int x1), (2, .int x2)]) (st1 := [.int (nI 0)]) (S1 := rt v) (pc1 := 27) [(.iconst 0, .int (nI 0), 0, 0)] [] (by decide +kernel) rfl trivial ?_
      exact xr_zret (by decide +kernel) rfl x_in2_0 ⟨_, _, rfl, rfl, h⟩
    · replace h := h.2 hc
      obtain ⟨hb1, h⟩ := h
      refine xr_blk (lv1 := [(0, .ref 80), (1, .int x1), (2, .int x2)]) (st1 := [.int x2, .int ((gA v 87) (x1).toNatClampNeg)]) (S1 := rt v) (pc1 := 19) [(.aload_n 0, .null, 0, 0), (.getfield 32, .null, 12, 11), (.iload_n 1, .null, 0, 0), (.iaload, .null, 0, 0), (.iload_n 2, .null, 0, 0)] [(x1, 80)] (by decide +kernel) rfl ⟨hb1, trivial⟩ ?_
      refine xr_ic_ne (tgt := 26) (off := 7) (by decide +kernel) (by decide) (fun hc => ?_) (fun hc => ?_)
      · replace h := h.1 hc
        refine xr_blk (lv1 := [(0, .ref 80), (1, .int x1), (2, .int x2)]) (st1 := [.int (nI 0)]) (S1 := rt v) (pc1 := 27) [(.iconst 0, .int (nI 0), 0, 0)] [] (by decide +kernel) rfl trivial ?_
        exact xr_zret (by decide +kernel) rfl x_in2_0 ⟨_, _, rfl, rfl, h⟩
      · replace h := h.2 hc
        refine xr_blk (lv1 := [(0, .ref 80), (1, .int x1), (2, .int x2)]) (st1 := [.int (nI 1)]) (S1 := rt v) (pc1 := 23) [(.iconst 1, .int (nI 1), 0, 0)] [] (by decide +kernel) rfl trivial ?_
        refine xr_goto (tgt := 27) (off := 4) (by decide +kernel) (by decide) ?_
        exact xr_zret (by decide +kernel) rfl x_in2_1 ⟨_, _, rfl, rfl, h⟩
theorem ok_196 : x_mOK 196 := ⟨x_tm8 (List.mem_of_getElem? (i := 22) rfl) rfl, 114, by decide +kernel⟩
/-! X12_fact: method 197, ScrawlHouseModel.fact(IIIII)I -/
set_option maxRecDepth 100000 in
theorem w_X12_fact_0 {E : Nat × (Nat → Int32)} {d : Nat} {v : xV} {x1 : Int32} {x2 : Int32} {x3 : Int32} {x4 : Int32} {x5 : Int32} {Q : Int32 → xV → Prop} (h : ((¬ x1 = (nI 0) → ((¬ x1 = (nI 1) → ((¬ x1 = (nI 2) → ((¬ x1 = (nI 3) → ((¬ x1 = (nI 4) → RI E (d + 1) 197 143 [(0, .ref 80), (1, .int x1), (2, .int x2), (3, .int x3), (4, .int x4), (5, .int x5)] (v_I v 80 0 (nI 0)) Q) ∧ (x1 = (nI 4) → KI E d 196 [.ref 80, .int x2, .int (nI 3)] (v_I v 80 0 (nI 0)) (fun y2 v1 => ((y2 = (nI 0) → RI E (d + 1) 197 143 [(0, .ref 80), (1, .int x1), (2, .int x2), (3, .int x3), (4, .int x4), (5, .int x5)] v1 Q) ∧ (¬ y2 = (nI 0) → ((¬ (nI 1) = (nI 0) → ((¬ x1 = (nI 3) → ((x1 = (nI 2) → RI E (d + 1) 197 202 [(0, .ref 80), (1, .int x1), (2, .int x2), (3, .int x3), (4, .int x4), (5, .int x5)] v1 Q) ∧ (¬ x1 = (nI 2) → ((x4 < (nI 0) → Q (-3 : Int32) v1) ∧ (¬ x4 < (nI 0) → ((x5 < x4 → Q (-3 : Int32) v1) ∧ (¬ x5 < x4 → ((x5 < (nI 200) → RI E (d + 1) 197 202 [(0, .ref 80), (1, .int x1), (2, .int x2), (3, .int x3), (4, .int x4), (5, .int x5)] v1 Q) ∧ (¬ x5 < (nI 200) → Q (-3 : Int32) v1))))))))) ∧ (x1 = (nI 3) → KI E d 152 [.int x4, .int (nI 0), .int (nI 199)] v1 (fun y4 v3 => ((¬ y4 = (nI 0) → RI E (d + 1) 197 202 [(0, .ref 80), (1, .int x1), (2, .int x2), (3, .int x3), (4, .int x4), (5, .int x5)] v3 Q) ∧ (y4 = (nI 0) → Q (-3 : Int32) v3)))))) ∧ ((nI 1) = (nI 0) → Q (-2 : Int32) v1)))))))) ∧ (x1 = (nI 3) → KI E d 196 [.ref 80, .int x2, .int (nI 0)] (v_I v 80 0 (nI 0)) (fun y6 v5 => ((y6 = (nI 0) → RI E (d + 1) 197 121 [(0, .ref 80), (1, .int x1), (2, .int x2), (3, .int x3), (4, .int x4), (5, .int x5)] v5 Q) ∧ (¬ y6 = (nI 0) → KI E d 196 [.ref 80, .int x3, .int (nI 2)] v5 (fun y8 v7 => ((y8 = (nI 0) → RI E (d + 1) 197 121 [(0, .ref 80), (1, .int x1), (2, .int x2), (3, .int x3), (4, .int x4), (5, .int x5)] v7 Q) ∧ (¬ y8 = (nI 0) → ((¬ (nI 1) = (nI 0) → ((¬ x1 = (nI 3) → ((x1 = (nI 2) → RI E (d + 1) 197 202 [(0, .ref 80), (1, .int x1), (2, .int x2), (3, .int x3), (4, .int x4), (5, .int x5)] v7 Q) ∧ (¬ x1 = (nI 2) → ((x4 < (nI 0) → Q (-3 : Int32) v7) ∧ (¬ x4 < (nI 0) → ((x5 < x4 → Q (-3 : Int32) v7) ∧ (¬ x5 < x4 → ((x5 < (nI 200) → RI E (d + 1) 197 202 [(0, .ref 80), (1, .int x1), (2, .int x2), (3, .int x3), (4, .int x4), (5, .int x5)] v7 Q) ∧ (¬ x5 < (nI 200) → Q (-3 : Int32) v7))))))))) ∧ (x1 = (nI 3) → KI E d 152 [.int x4, .int (nI 0), .int (nI 199)] v7 (fun y10 v9 => ((¬ y10 = (nI 0) → RI E (d + 1) 197 202 [(0, .ref 80), (1, .int x1), (2, .int x2), (3, .int x3), (4, .int x4), (5, .int x5)] v9 Q) ∧ (y10 = (nI 0) → Q (-3 : Int32) v9)))))) ∧ ((nI 1) = (nI 0) → Q (-2 : Int32) v7))))))))))) ∧ (x1 = (nI 2) → KI E d 172 [.ref 80, .int x2] (v_I v 80 0 (nI 0)) (fun y12 v11 => ((y12 = (nI 0) → RI E (d + 1) 197 90 [(0, .ref 80), (1, .int x1), (2, .int x2), (3, .int x3), (4, .int x4), (5, .int x5)] v11 Q) ∧ (¬ y12 = (nI 0) → KI E d 172 [.ref 80, .int x3] v11 (fun y14 v13 => ((y14 = (nI 0) → RI E (d + 1) 197 90 [(0, .ref 80), (1, .int x1), (2, .int x2), (3, .int x3), (4, .int x4), (5, .int x5)] v13 Q) ∧ (¬ y14 = (nI 0) → ((x2 = x3 → RI E (d + 1) 197 90 [(0, .ref 80), (1, .int x1), (2, .int x2), (3, .int x3), (4, .int x4), (5, .int x5)] v13 Q) ∧ (¬ x2 = x3 → ((¬ (nI 1) = (nI 0) → ((¬ x1 = (nI 3) → ((x1 = (nI 2) → RI E (d + 1) 197 202 [(0, .ref 80), (1, .int x1), (2, .int x2), (3, .int x3), (4, .int x4), (5, .int x5)] v13 Q) ∧ (¬ x1 = (nI 2) → ((x4 < (nI 0) → Q (-3 : Int32) v13) ∧ (¬ x4 < (nI 0) → ((x5 < x4 → Q (-3 : Int32) v13) ∧ (¬ x5 < x4 → ((x5 < (nI 200) → RI E (d + 1) 197 202 [(0, .ref 80), (1, .int x1), (2, .int x2), (3, .int x3), (4, .int x4), (5, .int x5)] v13 Q) ∧ (¬ x5 < (nI 200) → Q (-3 : Int32) v13))))))))) ∧ (x1 = (nI 3) → KI E d 152 [.int x4, .int (nI 0), .int (nI 199)] v13 (fun y16 v15 => ((¬ y16 = (nI 0) → RI E (d + 1) 197 202 [(0, .ref 80), (1, .int x1), (2, .int x2), (3, .int x3), (4, .int x4), (5, .int x5)] v15 Q) ∧ (y16 = (nI 0) → Q (-3 : Int32) v15)))))) ∧ ((nI 1) = (nI 0) → Q (-2 : Int32) v13))))))))))))) ∧ (x1 = (nI 1) → KI E d 172 [.ref 80, .int x2] (v_I v 80 0 (nI 0)) (fun y18 v17 => ((¬ y18 = (nI 0) → ((¬ x1 = (nI 3) → ((x1 = (nI 2) → RI E (d + 1) 197 202 [(0, .ref 80), (1, .int x1), (2, .int x2), (3, .int x3), (4, .int x4), (5, .int x5)] v17 Q) ∧ (¬ x1 = (nI 2) → ((x4 < (nI 0) → Q (-3 : Int32) v17) ∧ (¬ x4 < (nI 0) → ((x5 < x4 → Q (-3 : Int32) v17) ∧ (¬ x5 < x4 → ((x5 < (nI 200) → RI E (d + 1) 197 202 [(0, .ref 80), (1, .int x1), (2, .int x2), (3, .int x3), (4, .int x4), (5, .int x5)] v17 Q) ∧ (¬ x5 < (nI 200) → Q (-3 : Int32) v17))))))))) ∧ (x1 = (nI 3) → KI E d 152 [.int x4, .int (nI 0), .int (nI 199)] v17 (fun y20 v19 => ((¬ y20 = (nI 0) → RI E (d + 1) 197 202 [(0, .ref 80), (1, .int x1), (2, .int x2), (3, .int x3), (4, .int x4), (5, .int x5)] v19 Q) ∧ (y20 = (nI 0) → Q (-3 : Int32) v19)))))) ∧ (y18 = (nI 0) → Q (-2 : Int32) v17)))))) ∧ (x1 = (nI 0) → KI E d 152 [.int x2, .int (nI 0), .int ((gI v 80 22) - (nI 1))] (v_I v 80 0 (nI 0)) (fun y22 v21 => ((y22 = (nI 0) → RI E (d + 1) 197 43 [(0, .ref 80), (1, .int x1), (2, .int x2), (3, .int x3), (4, .int x4), (5, .int x5)] v21 Q) ∧ (¬ y22 = (nI 0) → vp_in x2 8 ∧ KI E d 152 [.int x3, .int (nI 0), .int (((gA v21 92) (x2).toNatClampNeg) - (nI 1))] v21 (fun y25 v24 => ((y25 = (nI 0) → RI E (d + 1) 197 43 [(0, .ref 80), (1, .int x1), (2, .int x2), (3, .int x3), (4, .int x4), (5, .int x5)] v24 Q) ∧ (¬ y25 = (nI 0) → ((¬ (nI 1) = (nI 0) → ((¬ x1 = (nI 3) → ((x1 = (nI 2) → RI E (d + 1) 197 202 [(0, .ref 80), (1, .int x1), (2, .int x2), (3, .int x3), (4, .int x4), (5, .int x5)] v24 Q) ∧ (¬ x1 = (nI 2) → ((x4 < (nI 0) → Q (-3 : Int32) v24) ∧ (¬ x4 < (nI 0) → ((x5 < x4 → Q (-3 : Int32) v24) ∧ (¬ x5 < x4 → ((x5 < (nI 200) → RI E (d + 1) 197 202 [(0, .ref 80), (1, .int x1), (2, .int x2), (3, .int x3), (4, .int x4), (5, .int x5)] v24 Q) ∧ (¬ x5 < (nI 200) → Q (-3 : Int32) v24))))))))) ∧ (x1 = (nI 3) → KI E d 152 [.int x4, .int (nI 0), .int (nI 199)] v24 (fun y27 v26 => ((¬ y27 = (nI 0) → RI E (d + 1) 197 202 [(0, .ref 80), (1, .int x1), (2, .int x2), (3, .int x3), (4, .int x4), (5, .int x5)] v26 Q) ∧ (y27 = (nI 0) → Q (-3 : Int32) v26)))))) ∧ ((nI 1) = (nI 0) → Q (-2 : Int32) v24))))))))))) : RI E (d + 1) 197 0 [(0, .ref 80), (1, .int x1), (2, .int x2), (3, .int x3), (4, .int x4), (5, .int x5)] v Q := by
  unfold RI
  refine xr_blk (lv1 := [(0, .ref 80), (1, .int x1), (2, .int x2), (3, .int x3), (4, .int x4), (5, .int x5)]) (st1 := [.int x1]) (S1 := rt (v_I v 80 0 (nI 0))) (pc1 := 6) [(.aload_n 0, .null, 0, 0), (.iconst 0, .int (nI 0), 0, 0), (.putfield 190, .null, 12, 0), (.iload_n 1, .null, 0, 0)] [] (by decide +kernel) rfl trivial ?_
  refine xr_if_ne (tgt := 47) (off := 41) (by decide +kernel) (by decide) (fun hc => ?_) (fun hc => ?_)
  · replace h := h.1 hc
    refine xr_blk (lv1 := [(0, .ref 80), (1, .int x1), (2, .int x2), (3, .int x3), (4, .int x4), (5, .int x5)]) (st1 := [.int (nI 1), .int x1]) (S1 := rt (v_I v 80 0 (nI 0))) (pc1 := 49) [(.iload_n 1, .null, 0, 0), (.iconst 1, .int (nI 1), 0, 0)] [] (by decide +kernel) rfl trivial ?_
    refine xr_ic_ne (tgt := 60) (off := 11) (by decide +kernel) (by decide) (fun hc => ?_) (fun hc => ?_)
    · replace h := h.1 hc
      refine xr_blk (lv1 := [(0, .ref 80), (1, .int x1), (2, .int x2), (3, .int x3), (4, .int x4), (5, .int x5)]) (st1 := [.int (nI 2), .int x1]) (S1 := rt (v_I v 80 0 (nI 0))) (pc1 := 62) [(.iload_n 1, .null, 0, 0), (.iconst 2, .int (nI 2), 0, 0)] [] (by decide +kernel) rfl trivial ?_
      refine xr_ic_ne (tgt := 94) (off := 32) (by decide +kernel) (by decide) (fun hc => ?_) (fun hc => ?_)
      · replace h := h.1 hc
        refine xr_blk (lv1 := [(0, .ref 80), (1, .int x1), (2, .int x2), (3, .int x3), (4, .int x4), (5, .int x5)]) (st1 := [.int (nI 3), .int x1]) (S1 := rt (v_I v 80 0 (nI 0))) (pc1 := 96) [(.iload_n 1, .null, 0, 0), (.iconst 3, .int (nI 3), 0, 0)] [] (by decide +kernel) rfl trivial ?_
        refine xr_ic_ne (tgt := 125) (off := 29) (by decide +kernel) (by decide) (fun hc => ?_) (fun hc => ?_)
        · replace h := h.1 hc
          refine xr_blk (lv1 := [(0, .ref 80), (1, .int x1), (2, .int x2), (3, .int x3), (4, .int x4), (5, .int x5)]) (st1 := [.int (nI 4), .int x1]) (S1 := rt (v_I v 80 0 (nI 0))) (pc1 := 127) [(.iload_n 1, .null, 0, 0), (.iconst 4, .int (nI 4), 0, 0)] [] (by decide +kernel) rfl trivial ?_
          refine xr_ic_ne (tgt := 143) (off := 16) (by decide +kernel) (by decide) (fun hc => ?_) (fun hc => ?_)
          · replace h := h.1 hc
            exact x_R.sub [0, 1, 2, 3, 4, 5] rfl h
          · replace h := h.2 hc
            refine xr_blk (lv1 := [(0, .ref 80), (1, .int x1), (2, .int x2), (3, .int x3), (4, .int x4), (5, .int x5)]) (st1 := [.int (nI 3), .int x2, .ref 80]) (S1 := rt (v_I v 80 0 (nI 0))) (pc1 := 133) [(.aload_n 0, .null, 0, 0), (.iload_n 2, .null, 0, 0), (.iconst 3, .int (nI 3), 0, 0)] [] (by decide +kernel) rfl trivial ?_
            refine xk_VI (As := [.int x2, .int (nI 3)]) (bb := 80) (rest := []) (idx := 374) (i0 := 374) (m1 := 196) (ps := [1799, 1801, 81]) (by decide +kernel) (by decide +kernel) (by decide) rfl ((gK_s (by decide)).trans (by decide +kernel)) (by decide) (Nat.le_of_ble_eq_true rfl) rfl h (fun y2 v1 h => ?_)
            refine xr_if_eq (tgt := 143) (off := 7) (by decide +kernel) (by decide) (fun hc => ?_) (fun hc => ?_)
            · replace h := h.1 hc
              exact x_R.sub [0, 1, 2, 3, 4, 5] rfl h
            · replace h := h.2 hc
              refine xr_blk (lv1 := [(0, .ref 80), (1, .int x1), (2, .int x2), (3, .int x3), (4, .int x4), (5, .int x5)]) (st1 := [.int (nI 1)]) (S1 := rt v1) (pc1 := 140) [(.iconst 1, .int (nI 1), 0, 0)] [] (by decide +kernel) rfl trivial ?_
              refine xr_goto (tgt := 144) (off := 4) (by decide +kernel) (by decide) ?_
              refine xr_blk (lv1 := [(6, .int (nI 1)), (0, .ref 80), (1, .int x1), (2, .int x2), (3, .int x3), (4, .int x4), (5, .int x5)]) (st1 := [.int (nI 1)]) (S1 := rt v1) (pc1 := 148) [(.istore 6, .null, 0, 0), (.iload 6, .null, 0, 0)] [] (by decide +kernel) rfl trivial ?_
              refine xr_if_ne (tgt := 154) (off := 6) (by decide +kernel) (by decide) (fun hc => ?_) (fun hc => ?_)
              · replace h := h.1 hc
                refine xr_blk (lv1 := [(6, .int (nI 1)), (0, .ref 80), (1, .int x1), (2, .int x2), (3, .int x3), (4, .int x4), (5, .int x5)]) (st1 := [.int (nI 3), .int x1]) (S1 := rt v1) (pc1 := 156) [(.iload_n 1, .null, 0, 0), (.iconst 3, .int (nI 3), 0, 0)] [] (by decide +kernel) rfl trivial ?_
                refine xr_ic_ne (tgt := 174) (off := 18) (by decide +kernel) (by decide) (fun hc => ?_) (fun hc => ?_)
                · replace h := h.1 hc
                  refine xr_blk (lv1 := [(6, .int (nI 1)), (0, .ref 80), (1, .int x1), (2, .int x2), (3, .int x3), (4, .int x4), (5, .int x5)]) (st1 := [.int (nI 2), .int x1]) (S1 := rt v1) (pc1 := 176) [(.iload_n 1, .null, 0, 0), (.iconst 2, .int (nI 2), 0, 0)] [] (by decide +kernel) rfl trivial ?_
                  refine xr_ic_eq (tgt := 202) (off := 26) (by decide +kernel) (by decide) (fun hc => ?_) (fun hc => ?_)
                  · replace h := h.1 hc
                    exact x_R.sub [1, 2, 3, 4, 5, 6] rfl h
                  · replace h := h.2 hc
                    refine xr_blk (lv1 := [(6, .int (nI 1)), (0, .ref 80), (1, .int x1), (2, .int x2), (3, .int x3), (4, .int x4), (5, .int x5)]) (st1 := [.int x4]) (S1 := rt v1) (pc1 := 181) [(.iload 4, .null, 0, 0)] [] (by decide +kernel) rfl trivial ?_
                    refine xr_if_lt (tgt := 199) (off := 18) (by decide +kernel) (by decide) (fun hc => ?_) (fun hc => ?_)
                    · replace h := h.1 hc
                      refine xr_blk (lv1 := [(6, .int (nI 1)), (0, .ref 80), (1, .int x1), (2, .int x2), (3, .int x3), (4, .int x4), (5, .int x5)]) (st1 := [.int (-3)]) (S1 := rt v1) (pc1 := 201) [(.bipush (-3), .int (-3), 0, 0)] [] (by decide +kernel) rfl trivial ?_
                      exact xr_iret (by decide +kernel) rfl ⟨_, _, rfl, rfl, h⟩
                    · replace h := h.2 hc
                      refine xr_blk (lv1 := [(6, .int (nI 1)), (0, .ref 80), (1, .int x1), (2, .int x2), (3, .int x3), (4, .int x4), (5, .int x5)]) (st1 := [.int x5, .int x4]) (S1 := rt v1) (pc1 := 188) [(.iload 4, .null, 0, 0), (.iload 5, .null, 0, 0)] [] (by decide +kernel) rfl trivial ?_
                      refine xr_ic_gt (tgt := 199) (off := 11) (by decide +kernel) (by decide) (fun hc => ?_) (fun hc => ?_)
                      · replace h := h.1 hc
                        refine xr_blk (lv1 := [(6, .int (nI 1)), (0, .ref 80), (1, .int x1), (2, .int x2), (3, .int x3), (4, .int x4), (5, .int x5)]) (st1 := [.int (-3)]) (S1 := rt v1) (pc1 := 201) [(.bipush (-3), .int (-3), 0, 0)] [] (by decide +kernel) rfl trivial ?_
                        exact xr_iret (by decide +kernel) rfl ⟨_, _, rfl, rfl, h⟩
                      · replace h := h.2 hc
                        refine xr_blk (lv1 := [(6, .int (nI 1)), (0, .ref 80), (1, .int x1), (2, .int x2), (3, .int x3), (4, .int x4), (5, .int x5)]) (st1 := [.int (nI 200), .int x5]) (S1 := rt v1) (pc1 := 196) [(.iload 5, .null, 0, 0), (.sipush 200, .int (nI 200), 0, 0)] [] (by decide +kernel) rfl trivial ?_
                        refine xr_ic_lt (tgt := 202) (off := 6) (by decide +kernel) (by decide) (fun hc => ?_) (fun hc => ?_)
                        · replace h := h.1 hc
                          exact x_R.sub [1, 2, 3, 4, 5, 6] rfl h
                        · replace h := h.2 hc
                          refine xr_blk (lv1 := [(6, .int (nI 1)), (0, .ref 80), (1, .int x1), (2, .int x2), (3, .int x3), (4, .int x4), (5, .int x5)]) (st1 := [.int (-3)]) (S1 := rt v1) (pc1 := 201) [(.bipush (-3), .int (-3), 0, 0)] [] (by decide +kernel) rfl trivial ?_
                          exact xr_iret (by decide +kernel) rfl ⟨_, _, rfl, rfl, h⟩
                · replace h := h.2 hc
                  refine xr_blk (lv1 := [(6, .int (nI 1)), (0, .ref 80), (1, .int x1), (2, .int x2), (3, .int x3), (4, .int x4), (5, .int x5)]) (st1 := [.int (nI 199), .int (nI 0), .int x4]) (S1 := rt v1) (pc1 := 165) [(.iload 4, .null, 0, 0), (.iconst 0, .int (nI 0), 0, 0), (.sipush 199, .int (nI 199), 0, 0)] [] (by decide +kernel) rfl trivial ?_
                  refine xk_SI (As := [.int x4, .int (nI 0), .int (nI 199)]) (rest := []) (idx := 200) (i0 := 200) (m1 := 152) (ps := [1616, 1617]) (by decide +kernel) (by decide +kernel) (by decide) rfl (Nat.le_of_ble_eq_true rfl) rfl h (fun y4 v3 h => ?_)
                  refine xr_if_ne (tgt := 202) (off := 34) (by decide +kernel) (by decide) (fun hc => ?_) (fun hc => ?_)
                  · replace h := h.1 hc
                    exact x_R.sub [1, 2, 3, 4, 5, 6] rfl h
                  · replace h := h.2 hc
                    refine xr_goto (tgt := 199) (off := 28) (by decide +kernel) (by decide) ?_
                    refine xr_blk (lv1 := [(6, .int (nI 1)), (0, .ref 80), (1, .int x1), (2, .int x2), (3, .int x3), (4, .int x4), (5, .int x5)]) (st1 := [.int (-3)]) (S1 := rt v3) (pc1 := 201) [(.bipush (-3), .int (-3), 0, 0)] [] (by decide +kernel) rfl trivial ?_
                    exact xr_iret (by decide +kernel) rfl ⟨_, _, rfl, rfl, h⟩
              · replace h := h.2 hc
                refine xr_blk (lv1 := [(6, .int (nI 1)), (0, .ref 80), (1, .int x1), (2, .int x2), (3, .int x3), (4, .int x4), (5, .int x5)]) (st1 := [.int (-2)]) (S1 := rt v1) (pc1 := 153) [(.bipush (-2), .int (-2), 0, 0)] [] (by decide +kernel) rfl trivial ?_
                exact xr_iret (by decide +kernel) rfl ⟨_, _, rfl, rfl, h⟩
        · replace h := h.2 hc
          refine xr_blk (lv1 := [(0, .ref 80), (1, .int x1), (2, .int x2), (3, .int x3), (4, .int x4), (5, .int x5)]) (st1 := [.int (nI 0), .int x2, .ref 80]) (S1 := rt (v_I v 80 0 (nI 0))) (pc1 := 102) [(.aload_n 0, .null, 0, 0), (.iload_n 2, .null, 0, 0), (.iconst 0, .int (nI 0), 0, 0)] [] (by decide +kernel) rfl trivial ?_
          refine xk_VI (As := [.int x2, .int (nI 0)]) (bb := 80) (rest := []) (idx := 374) (i0 := 374) (m1 := 196) (ps := [1799, 1801, 81]) (by decide +kernel) (by decide +kernel) (by decide) rfl ((gK_s (by decide)).trans (by decide +kernel)) (by decide) (Nat.le_of_ble_eq_true rfl) rfl h (fun y6 v5 h => ?_)
          refine xr_if_eq (tgt := 121) (off := 16) (by decide +kernel) (by decide) (fun hc => ?_) (fun hc => ?_)
          · replace h := h.1 hc
            exact x_R.sub [0, 1, 2, 3, 4, 5] rfl h
          · replace h := h.2 hc
            refine xr_blk (lv1 := [(0, .ref 80), (1, .int x1), (2, .int x2), (3, .int x3), (4, .int x4), (5, .int x5)]) (st1 := [.int (nI 2), .int x3, .ref 80]) (S1 := rt v5) (pc1 := 111) [(.aload_n 0, .null, 0, 0), (.iload_n 3, .null, 0, 0), (.iconst 2, .int (nI 2), 0, 0)] [] (by decide +kernel) rfl trivial ?_
            refine xk_VI (As := [.int x3, .int (nI 2)]) (bb := 80) (rest := []) (idx := 374) (i0 := 374) (m1 := 196) (ps := [1799, 1801, 81]) (by decide +kernel) (by decide +kernel) (by decide) rfl ((gK_s (by decide)).trans (by decide +kernel)) (by decide) (Nat.le_of_ble_eq_true rfl) rfl h (fun y8 v7 h => ?_)
            refine xr_if_eq (tgt := 121) (off := 7) (by decide +kernel) (by decide) (fun hc => ?_) (fun hc => ?_)
            · replace h := h.1 hc
              exact x_R.sub [0, 1, 2, 3, 4, 5] rfl h
            · replace h := h.2 hc
              refine xr_blk (lv1 := [(0, .ref 80), (1, .int x1), (2, .int x2), (3, .int x3), (4, .int x4), (5, .int x5)]) (st1 := [.int (nI 1)]) (S1 := rt v7) (pc1 := 118) [(.iconst 1, .int (nI 1), 0, 0)] [] (by decide +kernel) rfl trivial ?_
              refine xr_goto (tgt := 144) (off := 26) (by decide +kernel) (by decide) ?_
              refine xr_blk (lv1 := [(6, .int (nI 1)), (0, .ref 80), (1, .int x1), (2, .int x2), (3, .int x3), (4, .int x4), (5, .int x5)]) (st1 := [.int (nI 1)]) (S1 := rt v7) (pc1 := 148) [(.istore 6, .null, 0, 0), (.iload 6, .null, 0, 0)] [] (by decide +kernel) rfl trivial ?_
              refine xr_if_ne (tgt := 154) (off := 6) (by decide +kernel) (by decide) (fun hc => ?_) (fun hc => ?_)
              · replace h := h.1 hc
                refine xr_blk (lv1 := [(6, .int (nI 1)), (0, .ref 80), (1, .int x1), (2, .int x2), (3, .int x3), (4, .int x4), (5, .int x5)]) (st1 := [.int (nI 3), .int x1]) (S1 := rt v7) (pc1 := 156) [(.iload_n 1, .null, 0, 0), (.iconst 3, .int (nI 3), 0, 0)] [] (by decide +kernel) rfl trivial ?_
                refine xr_ic_ne (tgt := 174) (off := 18) (by decide +kernel) (by decide) (fun hc => ?_) (fun hc => ?_)
                · replace h := h.1 hc
                  refine xr_blk (lv1 := [(6, .int (nI 1)), (0, .ref 80), (1, .int x1), (2, .int x2), (3, .int x3), (4, .int x4), (5, .int x5)]) (st1 := [.int (nI 2), .int x1]) (S1 := rt v7) (pc1 := 176) [(.iload_n 1, .null, 0, 0), (.iconst 2, .int (nI 2), 0, 0)] [] (by decide +kernel) rfl trivial ?_
                  refine xr_ic_eq (tgt := 202) (off := 26) (by decide +kernel) (by decide) (fun hc => ?_) (fun hc => ?_)
                  · replace h := h.1 hc
                    exact x_R.sub [1, 2, 3, 4, 5, 6] rfl h
                  · replace h := h.2 hc
                    refine xr_blk (lv1 := [(6, .int (nI 1)), (0, .ref 80), (1, .int x1), (2, .int x2), (3, .int x3), (4, .int x4), (5, .int x5)]) (st1 := [.int x4]) (S1 := rt v7) (pc1 := 181) [(.iload 4, .null, 0, 0)] [] (by decide +kernel) rfl trivial ?_
                    refine xr_if_lt (tgt := 199) (off := 18) (by decide +kernel) (by decide) (fun hc => ?_) (fun hc => ?_)
                    · replace h := h.1 hc
                      refine xr_blk (lv1 := [(6, .int (nI 1)), (0, .ref 80), (1, .int x1), (2, .int x2), (3, .int x3), (4, .int x4), (5, .int x5)]) (st1 := [.int (-3)]) (S1 := rt v7) (pc1 := 201) [(.bipush (-3), .int (-3), 0, 0)] [] (by decide +kernel) rfl trivial ?_
                      exact xr_iret (by decide +kernel) rfl ⟨_, _, rfl, rfl, h⟩
                    · replace h := h.2 hc
                      refine xr_blk (lv1 := [(6, .int (nI 1)), (0, .ref 80), (1, .int x1), (2, .int x2), (3, .int x3), (4, .int x4), (5, .int x5)]) (st1 := [.int x5, .int x4]) (S1 := rt v7) (pc1 := 188) [(.iload 4, .null, 0, 0), (.iload 5, .null, 0, 0)] [] (by decide +kernel) rfl trivial ?_
                      refine xr_ic_gt (tgt := 199) (off := 11) (by decide +kernel) (by decide) (fun hc => ?_) (fun hc => ?_)
                      · replace h := h.1 hc
                        refine xr_blk (lv1 := [(6, .int (nI 1)), (0, .ref 80), (1, .int x1), (2, .int x2), (3, .int x3), (4, .int x4), (5, .int x5)]) (st1 := [.int (-3)]) (S1 := rt v7) (pc1 := 201) [(.bipush (-3), .int (-3), 0, 0)] [] (by decide +kernel) rfl trivial ?_
                        exact xr_iret (by decide +kernel) rfl ⟨_, _, rfl, rfl, h⟩
                      · replace h := h.2 hc
                        refine xr_blk (lv1 := [(6, .int (nI 1)), (0, .ref 80), (1, .int x1), (2, .int x2), (3, .int x3), (4, .int x4), (5, .int x5)]) (st1 := [.int (nI 200), .int x5]) (S1 := rt v7) (pc1 := 196) [(.iload 5, .null, 0, 0), (.sipush 200, .int (nI 200), 0, 0)] [] (by decide +kernel) rfl trivial ?_
                        refine xr_ic_lt (tgt := 202) (off := 6) (by decide +kernel) (by decide) (fun hc => ?_) (fun hc => ?_)
                        · replace h := h.1 hc
                          exact x_R.sub [1, 2, 3, 4, 5, 6] rfl h
                        · replace h := h.2 hc
                          refine xr_blk (lv1 := [(6, .int (nI 1)), (0, .ref 80), (1, .int x1), (2, .int x2), (3, .int x3), (4, .int x4), (5, .int x5)]) (st1 := [.int (-3)]) (S1 := rt v7) (pc1 := 201) [(.bipush (-3), .int (-3), 0, 0)] [] (by decide +kernel) rfl trivial ?_
                          exact xr_iret (by decide +kernel) rfl ⟨_, _, rfl, rfl, h⟩
                · replace h := h.2 hc
                  refine xr_blk (lv1 := [(6, .int (nI 1)), (0, .ref 80), (1, .int x1), (2, .int x2), (3, .int x3), (4, .int x4), (5, .int x5)]) (st1 := [.int (nI 199), .int (nI 0), .int x4]) (S1 := rt v7) (pc1 := 165) [(.iload 4, .null, 0, 0), (.iconst 0, .int (nI 0), 0, 0), (.sipush 199, .int (nI 199), 0, 0)] [] (by decide +kernel) rfl trivial ?_
                  refine xk_SI (As := [.int x4, .int (nI 0), .int (nI 199)]) (rest := []) (idx := 200) (i0 := 200) (m1 := 152) (ps := [1616, 1617]) (by decide +kernel) (by decide +kernel) (by decide) rfl (Nat.le_of_ble_eq_true rfl) rfl h (fun y10 v9 h => ?_)
                  refine xr_if_ne (tgt := 202) (off := 34) (by decide +kernel) (by decide) (fun hc => ?_) (fun hc => ?_)
                  · replace h := h.1 hc
                    exact x_R.sub [1, 2, 3, 4, 5, 6] rfl h
                  · replace h := h.2 hc
                    refine xr_goto (tgt := 199) (off := 28) (by decide +kernel) (by decide) ?_
                    refine xr_blk (lv1 := [(6, .int (nI 1)), (0, .ref 80), (1, .int x1), (2, .int x2), (3, .int x3), (4, .int x4), (5, .int x5)]) (st1 := [.int (-3)]) (S1 := rt v9) (pc1 := 201) [(.bipush (-3), .int (-3), 0, 0)] [] (by decide +kernel) rfl trivial ?_
                    exact xr_iret (by decide +kernel) rfl ⟨_, _, rfl, rfl, h⟩
              · replace h := h.2 hc
                refine xr_blk (lv1 := [(6, .int (nI 1)), (0, .ref 80), (1, .int x1), (2, .int x2), (3, .int x3), (4, .int x4), (5, .int x5)]) (st1 := [.int (-2)]) (S1 := rt v7) (pc1 := 153) [(.bipush (-2), .int (-2), 0, 0)] [] (by decide +kernel) rfl trivial ?_
                exact xr_iret (by decide +kernel) rfl ⟨_, _, rfl, rfl, h⟩
      · replace h := h.2 hc
        refine xr_blk (lv1 := [(0, .ref 80), (1, .int x1), (2, .int x2), (3, .int x3), (4, .int x4), (5, .int x5)]) (st1 := [.int x2, .ref 80]) (S1 := rt (v_I v 80 0 (nI 0))) (pc1 := 67) [(.aload_n 0, .null, 0, 0), (.iload_n 2, .null, 0, 0)] [] (by decide +kernel) rfl trivial ?_
        refine xk_VI (As := [.int x2]) (bb := 80) (rest := []) (idx := 300) (i0 := 300) (m1 := 172) (ps := [1700, 1702, 66]) (by decide +kernel) (by decide +kernel) (by decide) rfl ((gK_s (by decide)).trans (by decide +kernel)) (by decide) (Nat.le_of_ble_eq_true rfl) rfl h (fun y12 v11 h => ?_)
        refine xr_if_eq (tgt := 90) (off := 20) (by decide +kernel) (by decide) (fun hc => ?_) (fun hc => ?_)
        · replace h := h.1 hc
          exact x_R.sub [0, 1, 2, 3, 4, 5] rfl h
        · replace h := h.2 hc
          refine xr_blk (lv1 := [(0, .ref 80), (1, .int x1), (2, .int x2), (3, .int x3), (4, .int x4), (5, .int x5)]) (st1 := [.int x3, .ref 80]) (S1 := rt v11) (pc1 := 75) [(.aload_n 0, .null, 0, 0), (.iload_n 3, .null, 0, 0)] [] (by decide +kernel) rfl trivial ?_
          refine xk_VI (As := [.int x3]) (bb := 80) (rest := []) (idx := 300) (i0 := 300) (m1 := 172) (ps := [1700, 1702, 66]) (by decide +kernel) (by decide +kernel) (by decide) rfl ((gK_s (by decide)).trans (by decide +kernel)) (by decide) (Nat.le_of_ble_eq_true rfl) rfl h (fun y14 v13 h => ?_)
          refine xr_if_eq (tgt := 90) (off := 12) (by decide +kernel) (by decide) (fun hc => ?_) (fun hc => ?_)
          · replace h := h.1 hc
            exact x_R.sub [0, 1, 2, 3, 4, 5] rfl h
          · replace h := h.2 hc
            refine xr_blk (lv1 := [(0, .ref 80), (1, .int x1), (2, .int x2), (3, .int x3), (4, .int x4), (5, .int x5)]) (st1 := [.int x3, .int x2]) (S1 := rt v13) (pc1 := 83) [(.iload_n 2, .null, 0, 0), (.iload_n 3, .null, 0, 0)] [] (by decide +kernel) rfl trivial ?_
            refine xr_ic_eq (tgt := 90) (off := 7) (by decide +kernel) (by decide) (fun hc => ?_) (fun hc => ?_)
            · replace h := h.1 hc
              exact x_R.sub [0, 1, 2, 3, 4, 5] rfl h
            · replace h := h.2 hc
              refine xr_blk (lv1 := [(0, .ref 80), (1, .int x1), (2, .int x2), (3, .int x3), (4, .int x4), (5, .int x5)]) (st1 := [.int (nI 1)]) (S1 := rt v13) (pc1 := 87) [(.iconst 1, .int (nI 1), 0, 0)] [] (by decide +kernel) rfl trivial ?_
              refine xr_goto (tgt := 144) (off := 57) (by decide +kernel) (by decide) ?_
              refine xr_blk (lv1 := [(6, .int (nI 1)), (0, .ref 80), (1, .int x1), (2, .int x2), (3, .int x3), (4, .int x4), (5, .int x5)]) (st1 := [.int (nI 1)]) (S1 := rt v13) (pc1 := 148) [(.istore 6, .null, 0, 0), (.iload 6, .null, 0, 0)] [] (by decide +kernel) rfl trivial ?_
              refine xr_if_ne (tgt := 154) (off := 6) (by decide +kernel) (by decide) (fun hc => ?_) (fun hc => ?_)
              · replace h := h.1 hc
                refine xr_blk (lv1 := [(6, .int (nI 1)), (0, .ref 80), (1, .int x1), (2, .int x2), (3, .int x3), (4, .int x4), (5, .int x5)]) (st1 := [.int (nI 3), .int x1]) (S1 := rt v13) (pc1 := 156) [(.iload_n 1, .null, 0, 0), (.iconst 3, .int (nI 3), 0, 0)] [] (by decide +kernel) rfl trivial ?_
                refine xr_ic_ne (tgt := 174) (off := 18) (by decide +kernel) (by decide) (fun hc => ?_) (fun hc => ?_)
                · replace h := h.1 hc
                  refine xr_blk (lv1 := [(6, .int (nI 1)), (0, .ref 80), (1, .int x1), (2, .int x2), (3, .int x3), (4, .int x4), (5, .int x5)]) (st1 := [.int (nI 2), .int x1]) (S1 := rt v13) (pc1 := 176) [(.iload_n 1, .null, 0, 0), (.iconst 2, .int (nI 2), 0, 0)] [] (by decide +kernel) rfl trivial ?_
                  refine xr_ic_eq (tgt := 202) (off := 26) (by decide +kernel) (by decide) (fun hc => ?_) (fun hc => ?_)
                  · replace h := h.1 hc
                    exact x_R.sub [1, 2, 3, 4, 5, 6] rfl h
                  · replace h := h.2 hc
                    refine xr_blk (lv1 := [(6, .int (nI 1)), (0, .ref 80), (1, .int x1), (2, .int x2), (3, .int x3), (4, .int x4), (5, .int x5)]) (st1 := [.int x4]) (S1 := rt v13) (pc1 := 181) [(.iload 4, .null, 0, 0)] [] (by decide +kernel) rfl trivial ?_
                    refine xr_if_lt (tgt := 199) (off := 18) (by decide +kernel) (by decide) (fun hc => ?_) (fun hc => ?_)
                    · replace h := h.1 hc
                      refine xr_blk (lv1 := [(6, .int (nI 1)), (0, .ref 80), (1, .int x1), (2, .int x2), (3, .int x3), (4, .int x4), (5, .int x5)]) (st1 := [.int (-3)]) (S1 := rt v13) (pc1 := 201) [(.bipush (-3), .int (-3), 0, 0)] [] (by decide +kernel) rfl trivial ?_
                      exact xr_iret (by decide +kernel) rfl ⟨_, _, rfl, rfl, h⟩
                    · replace h := h.2 hc
                      refine xr_blk (lv1 := [(6, .int (nI 1)), (0, .ref 80), (1, .int x1), (2, .int x2), (3, .int x3), (4, .int x4), (5, .int x5)]) (st1 := [.int x5, .int x4]) (S1 := rt v13) (pc1 := 188) [(.iload 4, .null, 0, 0), (.iload 5, .null, 0, 0)] [] (by decide +kernel) rfl trivial ?_
                      refine xr_ic_gt (tgt := 199) (off := 11) (by decide +kernel) (by decide) (fun hc => ?_) (fun hc => ?_)
                      · replace h := h.1 hc
                        refine xr_blk (lv1 := [(6, .int (nI 1)), (0, .ref 80), (1, .int x1), (2, .int x2), (3, .int x3), (4, .int x4), (5, .int x5)]) (st1 := [.int (-3)]) (S1 := rt v13) (pc1 := 201) [(.bipush (-3), .int (-3), 0, 0)] [] (by decide +kernel) rfl trivial ?_
                        exact xr_iret (by decide +kernel) rfl ⟨_, _, rfl, rfl, h⟩
                      · replace h := h.2 hc
                        refine xr_blk (lv1 := [(6, .int (nI 1)), (0, .ref 80), (1, .int x1), (2, .int x2), (3, .int x3), (4, .int x4), (5, .int x5)]) (st1 := [.int (nI 200), .int x5]) (S1 := rt v13) (pc1 := 196) [(.iload 5, .null, 0, 0), (.sipush 200, .int (nI 200), 0, 0)] [] (by decide +kernel) rfl trivial ?_
                        refine xr_ic_lt (tgt := 202) (off := 6) (by decide +kernel) (by decide) (fun hc => ?_) (fun hc => ?_)
                        · replace h := h.1 hc
                          exact x_R.sub [1, 2, 3, 4, 5, 6] rfl h
                        · replace h := h.2 hc
                          refine xr_blk (lv1 := [(6, .int (nI 1)), (0, .ref 80), (1, .int x1), (2, .int x2), (3, .int x3), (4, .int x4), (5, .int x5)]) (st1 := [.int (-3)]) (S1 := rt v13) (pc1 := 201) [(.bipush (-3), .int (-3), 0, 0)] [] (by decide +kernel) rfl trivial ?_
                          exact xr_iret (by decide +kernel) rfl ⟨_, _, rfl, rfl, h⟩
                · replace h := h.2 hc
                  refine xr_blk (lv1 := [(6, .int (nI 1)), (0, .ref 80), (1, .int x1), (2, .int x2), (3, .int x3), (4, .int x4), (5, .int x5)]) (st1 := [.int (nI 199), .int (nI 0), .int x4]) (S1 := rt v13) (pc1 := 165) [(.iload 4, .null, 0, 0), (.iconst 0, .int (nI 0), 0, 0), (.sipush 199, .int (nI 199), 0, 0)] [] (by decide +kernel) rfl trivial ?_
                  refine xk_SI (As := [.int x4, .int (nI 0), .int (nI 199)]) (rest := []) (idx := 200) (i0 := 200) (m1 := 152) (ps := [1616, 1617]) (by decide +kernel) (by decide +kernel) (by decide) rfl (Nat.le_of_ble_eq_true rfl) rfl h (fun y16 v15 h => ?_)
                  refine xr_if_ne (tgt := 202) (off := 34) (by decide +kernel) (by decide) (fun hc => ?_) (fun hc => ?_)
                  · replace h := h.1 hc
                    exact x_R.sub [1, 2, 3, 4, 5, 6] rfl h
                  · replace h := h.2 hc
                    refine xr_goto (tgt := 199) (off := 28) (by decide +kernel) (by decide) ?_
                    refine xr_blk (lv1 := [(6, .int (nI 1)), (0, .ref 80), (1, .int x1), (2, .int x2), (3, .int x3), (4, .int x4), (5, .int x5)]) (st1 := [.int (-3)]) (S1 := rt v15) (pc1 := 201) [(.bipush (-3), .int (-3), 0, 0)] [] (by decide +kernel) rfl trivial ?_
                    exact xr_iret (by decide +kernel) rfl ⟨_, _, rfl, rfl, h⟩
              · replace h := h.2 hc
                refine xr_blk (lv1 := [(6, .int (nI 1)), (0, .ref 80), (1, .int x1), (2, .int x2), (3, .int x3), (4, .int x4), (5, .int x5)]) (st1 := [.int (-2)]) (S1 := rt v13) (pc1 := 153) [(.bipush (-2), .int (-2), 0, 0)] [] (by decide +kernel) rfl trivial ?_
                exact xr_iret (by decide +kernel) rfl ⟨_, _, rfl, rfl, h⟩
    · replace h := h.2 hc
      refine xr_blk (lv1 := [(0, .ref 80), (1, .int x1), (2, .int x2), (3, .int x3), (4, .int x4), (5, .int x5)]) (st1 := [.int x2, .ref 80]) (S1 := rt (v_I v 80 0 (nI 0))) (pc1 := 54) [(.aload_n 0, .null, 0, 0), (.iload_n 2, .null, 0, 0)] [] (by decide +kernel) rfl trivial ?_
      refine xk_VI (As := [.int x2]) (bb := 80) (rest := []) (idx := 300) (i0 := 300) (m1 := 172) (ps := [1700, 1702, 66]) (by decide +kernel) (by decide +kernel) (by decide) rfl ((gK_s (by decide)).trans (by decide +kernel)) (by decide) (Nat.le_of_ble_eq_true rfl) rfl h (fun y18 v17 h => ?_)
      refine xr_goto (tgt := 144) (off := 87) (by decide +kernel) (by decide) ?_
      refine xr_blk (lv1 := [(6, .int y18), (0, .ref 80), (1, .int x1), (2, .int x2), (3, .int x3), (4, .int x4), (5, .int x5)]) (st1 := [.int y18]) (S1 := rt v17) (pc1 := 148) [(.istore 6, .null, 0, 0), (.iload 6, .null, 0, 0)] [] (by decide +kernel) rfl trivial ?_
      refine xr_if_ne (tgt := 154) (off := 6) (by decide +kernel) (by decide) (fun hc => ?_) (fun hc => ?_)
      · replace h := h.1 hc
        refine xr_blk (lv1 := [(6, .int y18), (0, .ref 80), (1, .int x1), (2, .int x2), (3, .int x3), (4, .int x4), (5, .int x5)]) (st1 := [.int (nI 3), .int x1]) (S1 := rt v17) (pc1 := 156) [(.iload_n 1, .null, 0, 0), (.iconst 3, .int (nI 3), 0, 0)] [] (by decide +kernel) rfl trivial ?_
        refine xr_ic_ne (tgt := 174) (off := 18) (by decide +kernel) (by decide) (fun hc => ?_) (fun hc => ?_)
        · replace h := h.1 hc
          refine xr_blk (lv1 := [(6, .int y18), (0, .ref 80), (1, .int x1), (2, .int x2), (3, .int x3), (4, .int x4), (5, .int x5)]) (st1 := [.int (nI 2), .int x1]) (S1 := rt v17) (pc1 := 176) [(.iload_n 1, .null, 0, 0), (.iconst 2, .int (nI 2), 0, 0)] [] (by decide +kernel) rfl trivial ?_
          refine xr_ic_eq (tgt := 202) (off := 26) (by decide +kernel) (by decide) (fun hc => ?_) (fun hc => ?_)
          · replace h := h.1 hc
            exact x_R.sub [1, 2, 3, 4, 5, 6] rfl h
          · replace h := h.2 hc
            refine xr_blk (lv1 := [(6, .int y18), (0, .ref 80), (1, .int x1), (2, .int x2), (3, .int x3), (4, .int x4), (5, .int x5)]) (st1 := [.int x4]) (S1 := rt v17) (pc1 := 181) [(.iload 4, .null, 0, 0)] [] (by decide +kernel) rfl trivial ?_
            refine xr_if_lt (tgt := 199) (off := 18) (by decide +kernel) (by decide) (fun hc => ?_) (fun hc => ?_)
            · replace h := h.1 hc
              refine xr_blk (lv1 := [(6, .int y18), (0, .ref 80), (1, .int x1), (2, .int x2), (3, .int x3), (4, .int x4), (5, .int x5)]) (st1 := [.int (-3)]) (S1 := rt v17) (pc1 := 201) [(.bipush (-3), .int (-3), 0, 0)] [] (by decide +kernel) rfl trivial ?_
              exact xr_iret (by decide +kernel) rfl ⟨_, _, rfl, rfl, h⟩
            · replace h := h.2 hc
              refine xr_blk (lv1 := [(6, .int y18), (0, .ref 80), (1, .int x1), (2, .int x2), (3, .int x3), (4, .int x4), (5, .int x5)]) (st1 := [.int x5, .int x4]) (S1 := rt v17) (pc1 := 188) [(.iload 4, .null, 0, 0), (.iload 5, .null, 0, 0)] [] (by decide +kernel) rfl trivial ?_
              refine xr_ic_gt (tgt := 199) (off := 11) (by decide +kernel) (by decide) (fun hc => ?_) (fun hc => ?_)
              · replace h := h.1 hc
                refine xr_blk (lv1 := [(6, .int y18), (0, .ref 80), (1, .int x1), (2, .int x2), (3, .int x3), (4, .int x4), (5, .int x5)]) (st1 := [.int (-3)]) (S1 := rt v17) (pc1 := 201) [(.bipush (-3), .int (-3), 0, 0)] [] (by decide +kernel) rfl trivial ?_
                exact xr_iret (by decide +kernel) rfl ⟨_, _, rfl, rfl, h⟩
              · replace h := h.2 hc
                refine xr_blk (lv1 := [(6, .int y18), (0, .ref 80), (1, .int x1), (2, .int x2), (3, .int x3), (4, .int x4), (5, .int x5)]) (st1 := [.int (nI 200), .int x5]) (S1 := rt v17) (pc1 := 196) [(.iload 5, .null, 0, 0), (.sipush 200, .int (nI 200), 0, 0)] [] (by decide +kernel) rfl trivial ?_
                refine xr_ic_lt (tgt := 202) (off := 6) (by decide +kernel) (by decide) (fun hc => ?_) (fun hc => ?_)
                · replace h := h.1 hc
                  exact x_R.sub [1, 2, 3, 4, 5, 6] rfl h
                · replace h := h.2 hc
                  refine xr_blk (lv1 := [(6, .int y18), (0, .ref 80), (1, .int x1), (2, .int x2), (3, .int x3), (4, .int x4), (5, .int x5)]) (st1 := [.int (-3)]) (S1 := rt v17) (pc1 := 201) [(.bipush (-3), .int (-3), 0, 0)] [] (by decide +kernel) rfl trivial ?_
                  exact xr_iret (by decide +kernel) rfl ⟨_, _, rfl, rfl, h⟩
        · replace h := h.2 hc
          refine xr_blk (lv1 := [(6, .int y18), (0, .ref 80), (1, .int x1), (2, .int x2), (3, .int x3), (4, .int x4), (5, .int x5)]) (st1 := [.int (nI 199), .int (nI 0), .int x4]) (S1 := rt v17) (pc1 := 165) [(.iload 4, .null, 0, 0), (.iconst 0, .int (nI 0), 0, 0), (.sipush 199, .int (nI 199), 0, 0)] [] (by decide +kernel) rfl trivial ?_
          refine xk_SI (As := [.int x4, .int (nI 0), .int (nI 199)]) (rest := []) (idx := 200) (i0 := 200) (m1 := 152) (ps := [1616, 1617]) (by decide +kernel) (by decide +kernel) (by decide) rfl (Nat.le_of_ble_eq_true rfl) rfl h (fun y20 v19 h => ?_)
          refine xr_if_ne (tgt := 202) (off := 34) (by decide +kernel) (by decide) (fun hc => ?_) (fun hc => ?_)
          · replace h := h.1 hc
            exact x_R.sub [1, 2, 3, 4, 5, 6] rfl h
          · replace h := h.2 hc
            refine xr_goto (tgt := 199) (off := 28) (by decide +kernel) (by decide) ?_
            refine xr_blk (lv1 := [(6, .int y18), (0, .ref 80), (1, .int x1), (2, .int x2), (3, .int x3), (4, .int x4), (5, .int x5)]) (st1 := [.int (-3)]) (S1 := rt v19) (pc1 := 201) [(.bipush (-3), .int (-3), 0, 0)] [] (by decide +kernel) rfl trivial ?_
            exact xr_iret (by decide +kernel) rfl ⟨_, _, rfl, rfl, h⟩
      · replace h := h.2 hc
        refine xr_blk (lv1 := [(6, .int y18), (0, .ref 80), (1, .int x1), (2, .int x2), (3, .int x3), (4, .int x4), (5, .int x5)]) (st1 := [.int (-2)]) (S1 := rt v17) (pc1 := 153) [(.bipush (-2), .int (-2), 0, 0)] [] (by decide +kernel) rfl trivial ?_
        exact xr_iret (by decide +kernel) rfl ⟨_, _, rfl, rfl, h⟩
  · replace h := h.2 hc
    refine xr_blk (lv1 := [(0, .ref 80), (1, .int x1), (2, .int x2), (3, .int x3), (4, .int x4), (5, .int x5)]) (st1 := [.int ((gI v 80 22) - (nI 1)), .int (nI 0), .int x2]) (S1 := rt (v_I v 80 0 (nI 0))) (pc1 := 17) [(.iload_n 2, .null, 0, 0), (.iconst 0, .int (nI 0), 0, 0), (.aload_n 0, .null, 0, 0), (.getfield 228, .null, 12, 22), (.iconst 1, .int (nI 1), 0, 0), (.isub, .null, 0, 0)] [] (by decide +kernel) rfl trivial ?_
    refine xk_SI (As := [.int x2, .int (nI 0), .int ((gI v 80 22) - (nI 1))]) (rest := []) (idx := 200) (i0 := 200) (m1 := 152) (ps := [1616, 1617]) (by decide +kernel) (by decide +kernel) (by decide) rfl (Nat.le_of_ble_eq_true rfl) rfl h (fun y22 v21 h => ?_)
    refine xr_if_eq (tgt := 43) (off := 23) (by decide +kernel) (by decide) (fun hc => ?_) (fun hc => ?_)
    · replace h := h.1 hc
      exact x_R.sub [0, 1, 2, 3, 4, 5] rfl h
    · replace h := h.2 hc
      obtain ⟨hb23, h⟩ := h
      refine xr_blk (lv1 := [(0, .ref 80), (1, .int x1), (2, .int x2), (3, .int x3), (4, .int x4), (5, .int x5)]) (st1 := [.int (((gA v21 92) (x2).toNatClampNeg) - (nI 1)), .int (nI 0), .int x3]) (S1 := rt v21) (pc1 := 33) [(.iload_n 3, .null, 0, 0), (.iconst 0, .int (nI 0), 0, 0), (.aload_n 0, .null, 0, 0), (.getfield 47, .null, 12, 16), (.iload_n 2, .null, 0, 0), (.iaload, .null, 0, 0), (.iconst 1, .int (nI 1), 0, 0), (.isub, .null, 0, 0)] [(x2, 8)] (by decide +kernel) rfl ⟨hb23, trivial⟩ ?_
      refine xk_SI (As := [.int x3, .int (nI 0), .int (((gA v21 92) (x2).toNatClampNeg) - (nI 1))]) (rest := []) (idx := 200) (i0 := 200) (m1 := 152) (ps := [1616, 1617]) (by decide +kernel) (by decide +kernel) (by decide) rfl (Nat.le_of_ble_eq_true rfl) rfl h (fun y25 v24 h => ?_)
      refine xr_if_eq (tgt := 43) (off := 7) (by decide +kernel) (by decide) (fun hc => ?_) (fun hc => ?_)
      · replace h := h.1 hc
        exact x_R.sub [0, 1, 2, 3, 4, 5] rfl h
      · replace h := h.2 hc
        refine xr_blk (lv1 := [(0, .ref 80), (1, .int x1), (2, .int x2), (3, .int x3), (4, .int x4), (5, .int x5)]) (st1 := [.int (nI 1)]) (S1 := rt v24) (pc1 := 40) [(.iconst 1, .int (nI 1), 0, 0)] [] (by decide +kernel) rfl trivial ?_
        refine xr_goto (tgt := 144) (off := 104) (by decide +kernel) (by decide) ?_
        refine xr_blk (lv1 := [(6, .int (nI 1)), (0, .ref 80), (1, .int x1), (2, .int x2), (3, .int x3), (4, .int x4), (5, .int x5)]) (st1 := [.int (nI 1)]) (S1 := rt v24) (pc1 := 148) [(.istore 6, .null, 0, 0), (.iload 6, .null, 0, 0)] [] (by decide +kernel) rfl trivial ?_
        refine xr_if_ne (tgt := 154) (off := 6) (by decide +kernel) (by decide) (fun hc => ?_) (fun hc => ?_)
        · replace h := h.1 hc
          refine xr_blk (lv1 := [(6, .int (nI 1)), (0, .ref 80), (1, .int x1), (2, .int x2), (3, .int x3), (4, .int x4), (5, .int x5)]) (st1 := [.int (nI 3), .int x1]) (S1 := rt v24) (pc1 := 156) [(.iload_n 1, .null, 0, 0), (.iconst 3, .int (nI 3), 0, 0)] [] (by decide +kernel) rfl trivial ?_
          refine xr_ic_ne (tgt := 174) (off := 18) (by decide +kernel) (by decide) (fun hc => ?_) (fun hc => ?_)
          · replace h := h.1 hc
            refine xr_blk (lv1 := [(6, .int (nI 1)), (0, .ref 80), (1, .int x1), (2, .int x2), (3, .int x3), (4, .int x4), (5, .int x5)]) (st1 := [.int (nI 2), .int x1]) (S1 := rt v24) (pc1 := 176) [(.iload_n 1, .null, 0, 0), (.iconst 2, .int (nI 2), 0, 0)] [] (by decide +kernel) rfl trivial ?_
            refine xr_ic_eq (tgt := 202) (off := 26) (by decide +kernel) (by decide) (fun hc => ?_) (fun hc => ?_)
            · replace h := h.1 hc
              exact x_R.sub [1, 2, 3, 4, 5, 6] rfl h
            · replace h := h.2 hc
              refine xr_blk (lv1 := [(6, .int (nI 1)), (0, .ref 80), (1, .int x1), (2, .int x2), (3, .int x3), (4, .int x4), (5, .int x5)]) (st1 := [.int x4]) (S1 := rt v24) (pc1 := 181) [(.iload 4, .null, 0, 0)] [] (by decide +kernel) rfl trivial ?_
              refine xr_if_lt (tgt := 199) (off := 18) (by decide +kernel) (by decide) (fun hc => ?_) (fun hc => ?_)
              · replace h := h.1 hc
                refine xr_blk (lv1 := [(6, .int (nI 1)), (0, .ref 80), (1, .int x1), (2, .int x2), (3, .int x3), (4, .int x4), (5, .int x5)]) (st1 := [.int (-3)]) (S1 := rt v24) (pc1 := 201) [(.bipush (-3), .int (-3), 0, 0)] [] (by decide +kernel) rfl trivial ?_
                exact xr_iret (by decide +kernel) rfl ⟨_, _, rfl, rfl, h⟩
              · replace h := h.2 hc
                refine xr_blk (lv1 := [(6, .int (nI 1)), (0, .ref 80), (1, .int x1), (2, .int x2), (3, .int x3), (4, .int x4), (5, .int x5)]) (st1 := [.int x5, .int x4]) (S1 := rt v24) (pc1 := 188) [(.iload 4, .null, 0, 0), (.iload 5, .null, 0, 0)] [] (by decide +kernel) rfl trivial ?_
                refine xr_ic_gt (tgt := 199) (off := 11) (by decide +kernel) (by decide) (fun hc => ?_) (fun hc => ?_)
                · replace h := h.1 hc
                  refine xr_blk (lv1 := [(6, .int (nI 1)), (0, .ref 80), (1, .int x1), (2, .int x2), (3, .int x3), (4, .int x4), (5, .int x5)]) (st1 := [.int (-3)]) (S1 := rt v24) (pc1 := 201) [(.bipush (-3), .int (-3), 0, 0)] [] (by decide +kernel) rfl trivial ?_
                  exact xr_iret (by decide +kernel) rfl ⟨_, _, rfl, rfl, h⟩
                · replace h := h.2 hc
                  refine xr_blk (lv1 := [(6, .int (nI 1)), (0, .ref 80), (1, .int x1), (2, .int x2), (3, .int x3), (4, .int x4), (5, .int x5)]) (st1 := [.int (nI 200), .int x5]) (S1 := rt v24) (pc1 := 196) [(.iload 5, .null, 0, 0), (.sipush 200, .int (nI 200), 0, 0)] [] (by decide +kernel) rfl trivial ?_
                  refine xr_ic_lt (tgt := 202) (off := 6) (by decide +kernel) (by decide) (fun hc => ?_) (fun hc => ?_)
                  · replace h := h.1 hc
                    exact x_R.sub [1, 2, 3, 4, 5, 6] rfl h
                  · replace h := h.2 hc
                    refine xr_blk (lv1 := [(6, .int (nI 1)), (0, .ref 80), (1, .int x1), (2, .int x2), (3, .int x3), (4, .int x4), (5, .int x5)]) (st1 := [.int (-3)]) (S1 := rt v24) (pc1 := 201) [(.bipush (-3), .int (-3), 0, 0)] [] (by decide +kernel) rfl trivial ?_
                    exact xr_iret (by decide +kernel) rfl ⟨_, _, rfl, rfl, h⟩
          · replace h := h.2 hc
            refine xr_blk (lv1 := [(6, .int (nI 1)), (0, .ref 80), (1, .int x1), (2, .int x2), (3, .int x3), (4, .int x4), (5, .int x5)]) (st1 := [.int (nI 199), .int (nI 0), .int x4]) (S1 := rt v24) (pc1 := 165) [(.iload 4, .null, 0, 0), (.iconst 0, .int (nI 0), 0, 0), (.sipush 199, .int (nI 199), 0, 0)] [] (by decide +kernel) rfl trivial ?_
            refine xk_SI (As := [.int x4, .int (nI 0), .int (nI 199)]) (rest := []) (idx := 200) (i0 := 200) (m1 := 152) (ps := [1616, 1617]) (by decide +kernel) (by decide +kernel) (by decide) rfl (Nat.le_of_ble_eq_true rfl) rfl h (fun y27 v26 h => ?_)
            refine xr_if_ne (tgt := 202) (off := 34) (by decide +kernel) (by decide) (fun hc => ?_) (fun hc => ?_)
            · replace h := h.1 hc
              exact x_R.sub [1, 2, 3, 4, 5, 6] rfl h
            · replace h := h.2 hc
              refine xr_goto (tgt := 199) (off := 28) (by decide +kernel) (by decide) ?_
              refine xr_blk (lv1 := [(6, .int (nI 1)), (0, .ref 80), (1, .int x1), (2, .int x2), (3, .int x3), (4, .int x4), (5, .int x5)]) (st1 := [.int (-3)]) (S1 := rt v26) (pc1 := 201) [(.bipush (-3), .int (-3), 0, 0)] [] (by decide +kernel) rfl trivial ?_
              exact xr_iret (by decide +kernel) rfl ⟨_, _, rfl, rfl, h⟩
        · replace h := h.2 hc
          refine xr_blk (lv1 := [(6, .int (nI 1)), (0, .ref 80), (1, .int x1), (2, .int x2), (3, .int x3), (4, .int x4), (5, .int x5)]) (st1 := [.int (-2)]) (S1 := rt v24) (pc1 := 153) [(.bipush (-2), .int (-2), 0, 0)] [] (by decide +kernel) rfl trivial ?_
          exact xr_iret (by decide +kernel) rfl ⟨_, _, rfl, rfl, h⟩
set_option maxRecDepth 100000 in
theorem w_X12_fact_43 {E : Nat × (Nat → Int32)} {d : Nat} {v : xV} {x1 : Int32} {x2 : Int32} {x3 : Int32} {x4 : Int32} {x5 : Int32} {Q : Int32 → xV → Prop} (h : ((¬ (nI 0) = (nI 0) → ((¬ x1 = (nI 3) → ((x1 = (nI 2) → RI E (d + 1) 197 202 [(0, .ref 80), (1, .int x1), (2, .int x2), (3, .int x3), (4, .int x4), (5, .int x5)] v Q) ∧ (¬ x1 = (nI 2) → ((x4 < (nI 0) → Q (-3 : Int32) v) ∧ (¬ x4 < (nI 0) → ((x5 < x4 → Q (-3 : Int32) v) ∧ (¬ x5 < x4 → ((x5 < (nI 200) → RI E (d + 1) 197 202 [(0, .ref 80), (1, .int x1), (2, .int x2), (3, .int x3), (4, .int x4), (5, .int x5)] v Q) ∧ (¬ x5 < (nI 200) → Q (-3 : Int32) v))))))))) ∧ (x1 = (nI 3) → KI E d 152 [.int x4, .int (nI 0), .int (nI 199)] v (fun y2 v1 => ((¬ y2 = (nI 0) → RI E (d + 1) 197 202 [(0, .ref 80), (1, .int x1), (2, .int x2), (3, .int x3), (4, .int x4), (5, .int x5)] v1 Q) ∧ (y2 = (nI 0) → Q (-3 : Int32) v1)))))) ∧ ((nI 0) = (nI 0) → Q (-2 : Int32) v))) : RI E (d + 1) 197 43 [(0, .ref 80), (1, .int x1), (2, .int x2), (3, .int x3), (4, .int x4), (5, .int x5)] v Q := by
  unfold RI
  refine xr_blk (lv1 := [(0, .ref 80), (1, .int x1), (2, .int x2), (3, .int x3), (4, .int x4), (5, .int x5)]) (st1 := [.int (nI 0)]) (S1 := rt v) (pc1 := 44) [(.iconst 0, .int (nI 0), 0, 0)] [] (by decide +kernel) rfl trivial ?_
  refine xr_goto (tgt := 144) (off := 100) (by decide +kernel) (by decide) ?_
  refine xr_blk (lv1 := [(6, .int (nI 0)), (0, .ref 80), (1, .int x1), (2, .int x2), (3, .int x3), (4, .int x4), (5, .int x5)]) (st1 := [.int (nI 0)]) (S1 := rt v) (pc1 := 148) [(.istore 6, .null, 0, 0), (.iload 6, .null, 0, 0)] [] (by decide +kernel) rfl trivial ?_
  refine xr_if_ne (tgt := 154) (off := 6) (by decide +kernel) (by decide) (fun hc => ?_) (fun hc => ?_)
  · replace h := h.1 hc
    refine xr_blk (lv1 := [(6, .int (nI 0)), (0, .ref 80), (1, .int x1), (2, .int x2), (3, .int x3), (4, .int x4), (5, .int x5)]) (st1 := [.int (nI 3), .int x1]) (S1 := rt v) (pc1 := 156) [(.iload_n 1, .null, 0, 0), (.iconst 3, .int (nI 3), 0, 0)] [] (by decide +kernel) rfl trivial ?_
    refine xr_ic_ne (tgt := 174) (off := 18) (by decide +kernel) (by decide) (fun hc => ?_) (fun hc => ?_)
    · replace h := h.1 hc
      refine xr_blk (lv1 := [(6, .int (nI 0)), (0, .ref 80), (1, .int x1), (2, .int x2), (3, .int x3), (4, .int x4), (5, .int x5)]) (st1 := [.int (nI 2), .int x1]) (S1 := rt v) (pc1 := 176) [(.iload_n 1, .null, 0, 0), (.iconst 2, .int (nI 2), 0, 0)] [] (by decide +kernel) rfl trivial ?_
      refine xr_ic_eq (tgt := 202) (off := 26) (by decide +kernel) (by decide) (fun hc => ?_) (fun hc => ?_)
      · replace h := h.1 hc
        exact x_R.sub [1, 2, 3, 4, 5, 6] rfl h
      · replace h := h.2 hc
        refine xr_blk (lv1 := [(6, .int (nI 0)), (0, .ref 80), (1, .int x1), (2, .int x2), (3, .int x3), (4, .int x4), (5, .int x5)]) (st1 := [.int x4]) (S1 := rt v) (pc1 := 181) [(.iload 4, .null, 0, 0)] [] (by decide +kernel) rfl trivial ?_
        refine xr_if_lt (tgt := 199) (off := 18) (by decide +kernel) (by decide) (fun hc => ?_) (fun hc => ?_)
        · replace h := h.1 hc
          refine xr_blk (lv1 := [(6, .int (nI 0)), (0, .ref 80), (1, .int x1), (2, .int x2), (3, .int x3), (4, .int x4), (5, .int x5)]) (st1 := [.int (-3)]) (S1 := rt v) (pc1 := 201) [(.bipush (-3), .int (-3), 0, 0)] [] (by decide +kernel) rfl trivial ?_
          exact xr_iret (by decide +kernel) rfl ⟨_, _, rfl, rfl, h⟩
        · replace h := h.2 hc
          refine xr_blk (lv1 := [(6, .int (nI 0)), (0, .ref 80), (1, .int x1), (2, .int x2), (3, .int x3), (4, .int x4), (5, .int x5)]) (st1 := [.int x5, .int x4]) (S1 := rt v) (pc1 := 188) [(.iload 4, .null, 0, 0), (.iload 5, .null, 0, 0)] [] (by decide +kernel) rfl trivial ?_
          refine xr_ic_gt (tgt := 199) (off := 11) (by decide +kernel) (by decide) (fun hc => ?_) (fun hc => ?_)
          · replace h := h.1 hc
            refine xr_blk (lv1 := [(6, .int (nI 0)), (0, .ref 80), (1, .int x1), (2, .int x2), (3, .int x3), (4, .int x4), (5, .int x5)]) (st1 := [.int (-3)]) (S1 := rt v) (pc1 := 201) [(.bipush (-3), .int (-3), 0, 0)] [] (by decide +kernel) rfl trivial ?_
            exact xr_iret (by decide +kernel) rfl ⟨_, _, rfl, rfl, h⟩
          · replace h := h.2 hc
            refine xr_blk (lv1 := [(6, .int (nI 0)), (0, .ref 80), (1, .int x1), (2, .int x2), (3, .int x3), (4, .int x4), (5, .int x5)]) (st1 := [.int (nI 200), .int x5]) (S1 := rt v) (pc1 := 196) [(.iload 5, .null, 0, 0), (.sipush 200, .int (nI 200), 0, 0)] [] (by decide +kernel) rfl trivial ?_
            refine xr_ic_lt (tgt := 202) (off := 6) (by decide +kernel) (by decide) (fun hc => ?_) (fun hc => ?_)
            · replace h := h.1 hc
              exact x_R.sub [1, 2, 3, 4, 5, 6] rfl h
            · replace h := h.2 hc
              refine xr_blk (lv1 := [(6, .int (nI 0)), (0, .ref 80), (1, .int x1), (2, .int x2), (3, .int x3), (4, .int x4), (5, .int x5)]) (st1 := [.int (-3)]) (S1 := rt v) (pc1 := 201) [(.bipush (-3), .int (-3), 0, 0)] [] (by decide +kernel) rfl trivial ?_
              exact xr_iret (by decide +kernel) rfl ⟨_, _, rfl, rfl, h⟩
    · replace h := h.2 hc
      refine xr_blk (lv1 := [(6, .int (nI 0)), (0, .ref 80), (1, .int x1), (2, .int x2), (3, .int x3), (4, .int x4), (5, .int x5)]) (st1 := [.int (nI 199), .int (nI 0), .int x4]) (S1 := rt v) (pc1 := 165) [(.iload 4, .null, 0, 0), (.iconst 0, .int (nI 0), 0, 0), (.sipush 199, .int (nI 199), 0, 0)] [] (by decide +kernel) rfl trivial ?_
      refine xk_SI (As := [.int x4, .int (nI 0), .int (nI 199)]) (rest := []) (idx := 200) (i0 := 200) (m1 := 152) (ps := [1616, 1617]) (by decide +kernel) (by decide +kernel) (by decide) rfl (Nat.le_of_ble_eq_true rfl) rfl h (fun y2 v1 h => ?_)
      refine xr_if_ne (tgt := 202) (off := 34) (by decide +kernel) (by decide) (fun hc => ?_) (fun hc => ?_)
      · replace h := h.1 hc
        exact x_R.sub [1, 2, 3, 4, 5, 6] rfl h
      · replace h := h.2 hc
        refine xr_goto (tgt := 199) (off := 28) (by decide +kernel) (by decide) ?_
        refine xr_blk (lv1 := [(6, .int (nI 0)), (0, .ref 80), (1, .int x1), (2, .int x2), (3, .int x3), (4, .int x4), (5, .int x5)]) (st1 := [.int (-3)]) (S1 := rt v1) (pc1 := 201) [(.bipush (-3), .int (-3), 0, 0)] [] (by decide +kernel) rfl trivial ?_
        exact xr_iret (by decide +kernel) rfl ⟨_, _, rfl, rfl, h⟩
  · replace h := h.2 hc
    refine xr_blk (lv1 := [(6, .int (nI 0)), (0, .ref 80), (1, .int x1), (2, .int x2), (3, .int x3), (4, .int x4), (5, .int x5)]) (st1 := [.int (-2)]) (S1 := rt v) (pc1 := 153) [(.bipush (-2), .int (-2), 0, 0)] [] (by decide +kernel) rfl trivial ?_
    exact xr_iret (by decide +kernel) rfl ⟨_, _, rfl, rfl, h⟩
set_option maxRecDepth 100000 in
theorem w_X12_fact_90 {E : Nat × (Nat → Int32)} {d : Nat} {v : xV} {x1 : Int32} {x2 : Int32} {x3 : Int32} {x4 : Int32} {x5 : Int32} {Q : Int32 → xV → Prop} (h : ((¬ (nI 0) = (nI 0) → ((¬ x1 = (nI 3) → ((x1 = (nI 2) → RI E (d + 1) 197 202 [(0, .ref 80), (1, .int x1), (2, .int x2), (3, .int x3), (4, .int x4), (5, .int x5)] v Q) ∧ (¬ x1 = (nI 2) → ((x4 < (nI 0) → Q (-3 : Int32) v) ∧ (¬ x4 < (nI 0) → ((x5 < x4 → Q (-3 : Int32) v) ∧ (¬ x5 < x4 → ((x5 < (nI 200) → RI E (d + 1) 197 202 [(0, .ref 80), (1, .int x1), (2, .int x2), (3, .int x3), (4, .int x4), (5, .int x5)] v Q) ∧ (¬ x5 < (nI 200) → Q (-3 : Int32) v))))))))) ∧ (x1 = (nI 3) → KI E d 152 [.int x4, .int (nI 0), .int (nI 199)] v (fun y2 v1 => ((¬ y2 = (nI 0) → RI E (d + 1) 197 202 [(0, .ref 80), (1, .int x1), (2, .int x2), (3, .int x3), (4, .int x4), (5, .int x5)] v1 Q) ∧ (y2 = (nI 0) → Q (-3 : Int32) v1)))))) ∧ ((nI 0) = (nI 0) → Q (-2 : Int32) v))) : RI E (d + 1) 197 90 [(0, .ref 80), (1, .int x1), (2, .int x2), (3, .int x3), (4, .int x4), (5, .int x5)] v Q := by
  unfold RI
  refine xr_blk (lv1 := [(0, .ref 80), (1, .int x1), (2, .int x2), (3, .int x3), (4, .int x4), (5, .int x5)]) (st1 := [.int (nI 0)]) (S1 := rt v) (pc1 := 91) [(.iconst 0, .int (nI 0), 0, 0)] [] (by decide +kernel) rfl trivial ?_
  refine xr_goto (tgt := 144) (off := 53) (by decide +kernel) (by decide) ?_
  refine xr_blk (lv1 := [(6, .int (nI 0)), (0, .ref 80), (1, .int x1), (2, .int x2), (3, .int x3), (4, .int x4), (5, .int x5)]) (st1 := [.int (nI 0)]) (S1 := rt v) (pc1 := 148) [(.istore 6, .null, 0, 0), (.iload 6, .null, 0, 0)] [] (by decide +kernel) rfl trivial ?_
  refine xr_if_ne (tgt := 154) (off := 6) (by decide +kernel) (by decide) (fun hc => ?_) (fun hc => ?_)
  · replace h := h.1 hc
    refine xr_blk (lv1 := [(6, .int (nI 0)), (0, .ref 80), (1, .int x1), (2, .int x2), (3, .int x3), (4, .int x4), (5, .int x5)]) (st1 := [.int (nI 3), .int x1]) (S1 := rt v) (pc1 := 156) [(.iload_n 1, .null, 0, 0), (.iconst 3, .int (nI 3), 0, 0)] [] (by decide +kernel) rfl trivial ?_
    refine xr_ic_ne (tgt := 174) (off := 18) (by decide +kernel) (by decide) (fun hc => ?_) (fun hc => ?_)
    · replace h := h.1 hc
      refine xr_blk (lv1 := [(6, .int (nI 0)), (0, .ref 80), (1, .int x1), (2, .int x2), (3, .int x3), (4, .int x4), (5, .int x5)]) (st1 := [.int (nI 2), .int x1]) (S1 := rt v) (pc1 := 176) [(.iload_n 1, .null, 0, 0), (.iconst 2, .int (nI 2), 0, 0)] [] (by decide +kernel) rfl trivial ?_
      refine xr_ic_eq (tgt := 202) (off := 26) (by decide +kernel) (by decide) (fun hc => ?_) (fun hc => ?_)
      · replace h := h.1 hc
        exact x_R.sub [1, 2, 3, 4, 5, 6] rfl h
      · replace h := h.2 hc
        refine xr_blk (lv1 := [(6, .int (nI 0)), (0, .ref 80), (1, .int x1), (2, .int x2), (3, .int x3), (4, .int x4), (5, .int x5)]) (st1 := [.int x4]) (S1 := rt v) (pc1 := 181) [(.iload 4, .null, 0, 0)] [] (by decide +kernel) rfl trivial ?_
        refine xr_if_lt (tgt := 199) (off := 18) (by decide +kernel) (by decide) (fun hc => ?_) (fun hc => ?_)
        · replace h := h.1 hc
          refine xr_blk (lv1 := [(6, .int (nI 0)), (0, .ref 80), (1, .int x1), (2, .int x2), (3, .int x3), (4, .int x4), (5, .int x5)]) (st1 := [.int (-3)]) (S1 := rt v) (pc1 := 201) [(.bipush (-3), .int (-3), 0, 0)] [] (by decide +kernel) rfl trivial ?_
          exact xr_iret (by decide +kernel) rfl ⟨_, _, rfl, rfl, h⟩
        · replace h := h.2 hc
          refine xr_blk (lv1 := [(6, .int (nI 0)), (0, .ref 80), (1, .int x1), (2, .int x2), (3, .int x3), (4, .int x4), (5, .int x5)]) (st1 := [.int x5, .int x4]) (S1 := rt v) (pc1 := 188) [(.iload 4, .null, 0, 0), (.iload 5, .null, 0, 0)] [] (by decide +kernel) rfl trivial ?_
          refine xr_ic_gt (tgt := 199) (off := 11) (by decide +kernel) (by decide) (fun hc => ?_) (fun hc => ?_)
          · replace h := h.1 hc
            refine xr_blk (lv1 := [(6, .int (nI 0)), (0, .ref 80), (1, .int x1), (2, .int x2), (3, .int x3), (4, .int x4), (5, .int x5)]) (st1 := [.int (-3)]) (S1 := rt v) (pc1 := 201) [(.bipush (-3), .int (-3), 0, 0)] [] (by decide +kernel) rfl trivial ?_
            exact xr_iret (by decide +kernel) rfl ⟨_, _, rfl, rfl, h⟩
          · replace h := h.2 hc
            refine xr_blk (lv1 := [(6, .int (nI 0)), (0, .ref 80), (1, .int x1), (2, .int x2), (3, .int x3), (4, .int x4), (5, .int x5)]) (st1 := [.int (nI 200), .int x5]) (S1 := rt v) (pc1 := 196) [(.iload 5, .null, 0, 0), (.sipush 200, .int (nI 200), 0, 0)] [] (by decide +kernel) rfl trivial ?_
            refine xr_ic_lt (tgt := 202) (off := 6) (by decide +kernel) (by decide) (fun hc => ?_) (fun hc => ?_)
            · replace h := h.1 hc
              exact x_R.sub [1, 2, 3, 4, 5, 6] rfl h
            · replace h := h.2 hc
              refine xr_blk (lv1 := [(6, .int (nI 0)), (0, .ref 80), (1, .int x1), (2, .int x2), (3, .int x3), (4, .int x4), (5, .int x5)]) (st1 := [.int (-3)]) (S1 := rt v) (pc1 := 201) [(.bipush (-3), .int (-3), 0, 0)] [] (by decide +kernel) rfl trivial ?_
              exact xr_iret (by decide +kernel) rfl ⟨_, _, rfl, rfl, h⟩
    · replace h := h.2 hc
      refine xr_blk (lv1 := [(6, .int (nI 0)), (0, .ref 80), (1, .int x1), (2, .int x2), (3, .int x3), (4, .int x4), (5, .int x5)]) (st1 := [.int (nI 199), .int (nI 0), .int x4]) (S1 := rt v) (pc1 := 165) [(.iload 4, .null, 0, 0), (.iconst 0, .int (nI 0), 0, 0), (.sipush 199, .int (nI 199), 0, 0)] [] (by decide +kernel) rfl trivial ?_
      refine xk_SI (As := [.int x4, .int (nI 0), .int (nI 199)]) (rest := []) (idx := 200) (i0 := 200) (m1 := 152) (ps := [1616, 1617]) (by decide +kernel) (by decide +kernel) (by decide) rfl (Nat.le_of_ble_eq_true rfl) rfl h (fun y2 v1 h => ?_)
      refine xr_if_ne (tgt := 202) (off := 34) (by decide +kernel) (by decide) (fun hc => ?_) (fun hc => ?_)
      · replace h := h.1 hc
        exact x_R.sub [1, 2, 3, 4, 5, 6] rfl h
      · replace h := h.2 hc
        refine xr_goto (tgt := 199) (off := 28) (by decide +kernel) (by decide) ?_
        refine xr_blk (lv1 := [(6, .int (nI 0)), (0, .ref 80), (1, .int x1), (2, .int x2), (3, .int x3), (4, .int x4), (5, .int x5)]) (st1 := [.int (-3)]) (S1 := rt v1) (pc1 := 201) [(.bipush (-3), .int (-3), 0, 0)] [] (by decide +kernel) rfl trivial ?_
        exact xr_iret (by decide +kernel) rfl ⟨_, _, rfl, rfl, h⟩
  · replace h := h.2 hc
    refine xr_blk (lv1 := [(6, .int (nI 0)), (0, .ref 80), (1, .int x1), (2, .int x2), (3, .int x3), (4, .int x4), (5, .int x5)]) (st1 := [.int (-2)]) (S1 := rt v) (pc1 := 153) [(.bipush (-2), .int (-2), 0, 0)] [] (by decide +kernel) rfl trivial ?_
    exact xr_iret (by decide +kernel) rfl ⟨_, _, rfl, rfl, h⟩
set_option maxRecDepth 100000 in
theorem w_X12_fact_121 {E : Nat × (Nat → Int32)} {d : Nat} {v : xV} {x1 : Int32} {x2 : Int32} {x3 : Int32} {x4 : Int32} {x5 : Int32} {Q : Int32 → xV → Prop} (h : ((¬ (nI 0) = (nI 0) → ((¬ x1 = (nI 3) → ((x1 = (nI 2) → RI E (d + 1) 197 202 [(0, .ref 80), (1, .int x1), (2, .int x2), (3, .int x3), (4, .int x4), (5, .int x5)] v Q) ∧ (¬ x1 = (nI 2) → ((x4 < (nI 0) → Q (-3 : Int32) v) ∧ (¬ x4 < (nI 0) → ((x5 < x4 → Q (-3 : Int32) v) ∧ (¬ x5 < x4 → ((x5 < (nI 200) → RI E (d + 1) 197 202 [(0, .ref 80), (1, .int x1), (2, .int x2), (3, .int x3), (4, .int x4), (5, .int x5)] v Q) ∧ (¬ x5 < (nI 200) → Q (-3 : Int32) v))))))))) ∧ (x1 = (nI 3) → KI E d 152 [.int x4, .int (nI 0), .int (nI 199)] v (fun y2 v1 => ((¬ y2 = (nI 0) → RI E (d + 1) 197 202 [(0, .ref 80), (1, .int x1), (2, .int x2), (3, .int x3), (4, .int x4), (5, .int x5)] v1 Q) ∧ (y2 = (nI 0) → Q (-3 : Int32) v1)))))) ∧ ((nI 0) = (nI 0) → Q (-2 : Int32) v))) : RI E (d + 1) 197 121 [(0, .ref 80), (1, .int x1), (2, .int x2), (3, .int x3), (4, .int x4), (5, .int x5)] v Q := by
  unfold RI
  refine xr_blk (lv1 := [(0, .ref 80), (1, .int x1), (2, .int x2), (3, .int x3), (4, .int x4), (5, .int x5)]) (st1 := [.int (nI 0)]) (S1 := rt v) (pc1 := 122) [(.iconst 0, .int (nI 0), 0, 0)] [] (by decide +kernel) rfl trivial ?_
  refine xr_goto (tgt := 144) (off := 22) (by decide +kernel) (by decide) ?_
  refine xr_blk (lv1 := [(6, .int (nI 0)), (0, .ref 80), (1, .int x1), (2, .int x2), (3, .int x3), (4, .int x4), (5, .int x5)]) (st1 := [.int (nI 0)]) (S1 := rt v) (pc1 := 148) [(.istore 6, .null, 0, 0), (.iload 6, .null, 0, 0)] [] (by decide +kernel) rfl trivial ?_
  refine xr_if_ne (tgt := 154) (off := 6) (by decide +kernel) (by decide) (fun hc => ?_) (fun hc => ?_)
  · replace h := h.1 hc
    refine xr_blk (lv1 := [(6, .int (nI 0)), (0, .ref 80), (1, .int x1), (2, .int x2), (3, .int x3), (4, .int x4), (5, .int x5)]) (st1 := [.int (nI 3), .int x1]) (S1 := rt v) (pc1 := 156) [(.iload_n 1, .null, 0, 0), (.iconst 3, .int (nI 3), 0, 0)] [] (by decide +kernel) rfl trivial ?_
    refine xr_ic_ne (tgt := 174) (off := 18) (by decide +kernel) (by decide) (fun hc => ?_) (fun hc => ?_)
    · replace h := h.1 hc
      refine xr_blk (lv1 := [(6, .int (nI 0)), (0, .ref 80), (1, .int x1), (2, .int x2), (3, .int x3), (4, .int x4), (5, .int x5)]) (st1 := [.int (nI 2), .int x1]) (S1 := rt v) (pc1 := 176) [(.iload_n 1, .null, 0, 0), (.iconst 2, .int (nI 2), 0, 0)] [] (by decide +kernel) rfl trivial ?_
      refine xr_ic_eq (tgt := 202) (off := 26) (by decide +kernel) (by decide) (fun hc => ?_) (fun hc => ?_)
      · replace h := h.1 hc
        exact x_R.sub [1, 2, 3, 4, 5, 6] rfl h
      · replace h := h.2 hc
        refine xr_blk (lv1 := [(6, .int (nI 0)), (0, .ref 80), (1, .int x1), (2, .int x2), (3, .int x3), (4, .int x4), (5, .int x5)]) (st1 := [.int x4]) (S1 := rt v) (pc1 := 181) [(.iload 4, .null, 0, 0)] [] (by decide +kernel) rfl trivial ?_
        refine xr_if_lt (tgt := 199) (off := 18) (by decide +kernel) (by decide) (fun hc => ?_) (fun hc => ?_)
        · replace h := h.1 hc
          refine xr_blk (lv1 := [(6, .int (nI 0)), (0, .ref 80), (1, .int x1), (2, .int x2), (3, .int x3), (4, .int x4), (5, .int x5)]) (st1 := [.int (-3)]) (S1 := rt v) (pc1 := 201) [(.bipush (-3), .int (-3), 0, 0)] [] (by decide +kernel) rfl trivial ?_
          exact xr_iret (by decide +kernel) rfl ⟨_, _, rfl, rfl, h⟩
        · replace h := h.2 hc
          refine xr_blk (lv1 := [(6, .int (nI 0)), (0, .ref 80), (1, .int x1), (2, .int x2), (3, .int x3), (4, .int x4), (5, .int x5)]) (st1 := [.int x5, .int x4]) (S1 := rt v) (pc1 := 188) [(.iload 4, .null, 0, 0), (.iload 5, .null, 0, 0)] [] (by decide +kernel) rfl trivial ?_
          refine xr_ic_gt (tgt := 199) (off := 11) (by decide +kernel) (by decide) (fun hc => ?_) (fun hc => ?_)
          · replace h := h.1 hc
            refine xr_blk (lv1 := [(6, .int (nI 0)), (0, .ref 80), (1, .int x1), (2, .int x2), (3, .int x3), (4, .int x4), (5, .int x5)]) (st1 := [.int (-3)]) (S1 := rt v) (pc1 := 201) [(.bipush (-3), .int (-3), 0, 0)] [] (by decide +kernel) rfl trivial ?_
            exact xr_iret (by decide +kernel) rfl ⟨_, _, rfl, rfl, h⟩
          · replace h := h.2 hc
            refine xr_blk (lv1 := [(6, .int (nI 0)), (0, .ref 80), (1, .int x1), (2, .int x2), (3, .int x3), (4, .int x4), (5, .int x5)]) (st1 := [.int (nI 200), .int x5]) (S1 := rt v) (pc1 := 196) [(.iload 5, .null, 0, 0), (.sipush 200, .int (nI 200), 0, 0)] [] (by decide +kernel) rfl trivial ?_
            refine xr_ic_lt (tgt := 202) (off := 6) (by decide +kernel) (by decide) (fun hc => ?_) (fun hc => ?_)
            · replace h := h.1 hc
              exact x_R.sub [1, 2, 3, 4, 5, 6] rfl h
            · replace h := h.2 hc
              refine xr_blk (lv1 := [(6, .int (nI 0)), (0, .ref 80), (1, .int x1), (2, .int x2), (3, .int x3), (4, .int x4), (5, .int x5)]) (st1 := [.int (-3)]) (S1 := rt v) (pc1 := 201) [(.bipush (-3), .int (-3), 0, 0)] [] (by decide +kernel) rfl trivial ?_
              exact xr_iret (by decide +kernel) rfl ⟨_, _, rfl, rfl, h⟩
    · replace h := h.2 hc
      refine xr_blk (lv1 := [(6, .int (nI 0)), (0, .ref 80), (1, .int x1), (2, .int x2), (3, .int x3), (4, .int x4), (5, .int x5)]) (st1 := [.int (nI 199), .int (nI 0), .int x4]) (S1 := rt v) (pc1 := 165) [(.iload 4, .null, 0, 0), (.iconst 0, .int (nI 0), 0, 0), (.sipush 199, .int (nI 199), 0, 0)] [] (by decide +kernel) rfl trivial ?_
      refine xk_SI (As := [.int x4, .int (nI 0), .int (nI 199)]) (rest := []) (idx := 200) (i0 := 200) (m1 := 152) (ps := [1616, 1617]) (by decide +kernel) (by decide +kernel) (by decide) rfl (Nat.le_of_ble_eq_true rfl) rfl h (fun y2 v1 h => ?_)
      refine xr_if_ne (tgt := 202) (off := 34) (by decide +kernel) (by decide) (fun hc => ?_) (fun hc => ?_)
      · replace h := h.1 hc
        exact x_R.sub [1, 2, 3, 4, 5, 6] rfl h
      · replace h := h.2 hc
        refine xr_goto (tgt := 199) (off := 28) (by decide +kernel) (by decide) ?_
        refine xr_blk (lv1 := [(6, .int (nI 0)), (0, .ref 80), (1, .int x1), (2, .int x2), (3, .int x3), (4, .int x4), (5, .int x5)]) (st1 := [.int (-3)]) (S1 := rt v1) (pc1 := 201) [(.bipush (-3), .int (-3), 0, 0)] [] (by decide +kernel) rfl trivial ?_
        exact xr_iret (by decide +kernel) rfl ⟨_, _, rfl, rfl, h⟩
  · replace h := h.2 hc
    refine xr_blk (lv1 := [(6, .int (nI 0)), (0, .ref 80), (1, .int x1), (2, .int x2), (3, .int x3), (4, .int x4), (5, .int x5)]) (st1 := [.int (-2)]) (S1 := rt v) (pc1 := 153) [(.bipush (-2), .int (-2), 0, 0)] [] (by decide +kernel) rfl trivial ?_
    exact xr_iret (by decide +kernel) rfl ⟨_, _, rfl, rfl, h⟩
set_option maxRecDepth 100000 in
theorem w_X12_fact_143 {E : Nat × (Nat → Int32)} {d : Nat} {v : xV} {x1 : Int32} {x2 : Int32} {x3 : Int32} {x4 : Int32} {x5 : Int32} {Q : Int32 → xV → Prop} (h : ((¬ (nI 0) = (nI 0) → ((¬ x1 = (nI 3) → ((x1 = (nI 2) → RI E (d + 1) 197 202 [(0, .ref 80), (1, .int x1), (2, .int x2), (3, .int x3), (4, .int x4), (5, .int x5)] v Q) ∧ (¬ x1 = (nI 2) → ((x4 < (nI 0) → Q (-3 : Int32) v) ∧ (¬ x4 < (nI 0) → ((x5 < x4 → Q (-3 : Int32) v) ∧ (¬ x5 < x4 → ((x5 < (nI 200) → RI E (d + 1) 197 202 [(0, .ref 80), (1, .int x1), (2, .int x2), (3, .int x3), (4, .int x4), (5, .int x5)] v Q) ∧ (¬ x5 < (nI 200) → Q (-3 : Int32) v))))))))) ∧ (x1 = (nI 3) → KI E d 152 [.int x4, .int (nI 0), .int (nI 199)] v (fun y2 v1 => ((¬ y2 = (nI 0) → RI E (d + 1) 197 202 [(0, .ref 80), (1, .int x1), (2, .int x2), (3, .int x3), (4, .int x4), (5, .int x5)] v1 Q) ∧ (y2 = (nI 0) → Q (-3 : Int32) v1)))))) ∧ ((nI 0) = (nI 0) → Q (-2 : Int32) v))) : RI E (d + 1) 197 143 [(0, .ref 80), (1, .int x1), (2, .int x2), (3, .int x3), (4, .int x4), (5, .int x5)] v Q := by
  unfold RI
  refine xr_blk (lv1 := [(6, .int (nI 0)), (0, .ref 80), (1, .int x1), (2, .int x2), (3, .int x3), (4, .int x4), (5, .int x5)]) (st1 := [.int (nI 0)]) (S1 := rt v) (pc1 := 148) [(.iconst 0, .int (nI 0), 0, 0), (.istore 6, .null, 0, 0), (.iload 6, .null, 0, 0)] [] (by decide +kernel) rfl trivial ?_
  refine xr_if_ne (tgt := 154) (off := 6) (by decide +kernel) (by decide) (fun hc => ?_) (fun hc => ?_)
  · replace h := h.1 hc
    refine xr_blk (lv1 := [(6, .int (nI 0)), (0, .ref 80), (1, .int x1), (2, .int x2), (3, .int x3), (4, .int x4), (5, .int x5)]) (st1 := [.int (nI 3), .int x1]) (S1 := rt v) (pc1 := 156) [(.iload_n 1, .null, 0, 0), (.iconst 3, .int (nI 3), 0, 0)] [] (by decide +kernel) rfl trivial ?_
    refine xr_ic_ne (tgt := 174) (off := 18) (by decide +kernel) (by decide) (fun hc => ?_) (fun hc => ?_)
    · replace h := h.1 hc
      refine xr_blk (lv1 := [(6, .int (nI 0)), (0, .ref 80), (1, .int x1), (2, .int x2), (3, .int x3), (4, .int x4), (5, .int x5)]) (st1 := [.int (nI 2), .int x1]) (S1 := rt v) (pc1 := 176) [(.iload_n 1, .null, 0, 0), (.iconst 2, .int (nI 2), 0, 0)] [] (by decide +kernel) rfl trivial ?_
      refine xr_ic_eq (tgt := 202) (off := 26) (by decide +kernel) (by decide) (fun hc => ?_) (fun hc => ?_)
      · replace h := h.1 hc
        exact x_R.sub [1, 2, 3, 4, 5, 6] rfl h
      · replace h := h.2 hc
        refine xr_blk (lv1 := [(6, .int (nI 0)), (0, .ref 80), (1, .int x1), (2, .int x2), (3, .int x3), (4, .int x4), (5, .int x5)]) (st1 := [.int x4]) (S1 := rt v) (pc1 := 181) [(.iload 4, .null, 0, 0)] [] (by decide +kernel) rfl trivial ?_
        refine xr_if_lt (tgt := 199) (off := 18) (by decide +kernel) (by decide) (fun hc => ?_) (fun hc => ?_)
        · replace h := h.1 hc
          refine xr_blk (lv1 := [(6, .int (nI 0)), (0, .ref 80), (1, .int x1), (2, .int x2), (3, .int x3), (4, .int x4), (5, .int x5)]) (st1 := [.int (-3)]) (S1 := rt v) (pc1 := 201) [(.bipush (-3), .int (-3), 0, 0)] [] (by decide +kernel) rfl trivial ?_
          exact xr_iret (by decide +kernel) rfl ⟨_, _, rfl, rfl, h⟩
        · replace h := h.2 hc
          refine xr_blk (lv1 := [(6, .int (nI 0)), (0, .ref 80), (1, .int x1), (2, .int x2), (3, .int x3), (4, .int x4), (5, .int x5)]) (st1 := [.int x5, .int x4]) (S1 := rt v) (pc1 := 188) [(.iload 4, .null, 0, 0), (.iload 5, .null, 0, 0)] [] (by decide +kernel) rfl trivial ?_
          refine xr_ic_gt (tgt := 199) (off := 11) (by decide +kernel) (by decide) (fun hc => ?_) (fun hc => ?_)
          · replace h := h.1 hc
            refine xr_blk (lv1 := [(6, .int (nI 0)), (0, .ref 80), (1, .int x1), (2, .int x2), (3, .int x3), (4, .int x4), (5, .int x5)]) (st1 := [.int (-3)]) (S1 := rt v) (pc1 := 201) [(.bipush (-3), .int (-3), 0, 0)] [] (by decide +kernel) rfl trivial ?_
            exact xr_iret (by decide +kernel) rfl ⟨_, _, rfl, rfl, h⟩
          · replace h := h.2 hc
            refine xr_blk (lv1 := [(6, .int (nI 0)), (0, .ref 80), (1, .int x1), (2, .int x2), (3, .int x3), (4, .int x4), (5, .int x5)]) (st1 := [.int (nI 200), .int x5]) (S1 := rt v) (pc1 := 196) [(.iload 5, .null, 0, 0), (.sipush 200, .int (nI 200), 0, 0)] [] (by decide +kernel) rfl trivial ?_
            refine xr_ic_lt (tgt := 202) (off := 6) (by decide +kernel) (by decide) (fun hc => ?_) (fun hc => ?_)
            · replace h := h.1 hc
              exact x_R.sub [1, 2, 3, 4, 5, 6] rfl h
            · replace h := h.2 hc
              refine xr_blk (lv1 := [(6, .int (nI 0)), (0, .ref 80), (1, .int x1), (2, .int x2), (3, .int x3), (4, .int x4), (5, .int x5)]) (st1 := [.int (-3)]) (S1 := rt v) (pc1 := 201) [(.bipush (-3), .int (-3), 0, 0)] [] (by decide +kernel) rfl trivial ?_
              exact xr_iret (by decide +kernel) rfl ⟨_, _, rfl, rfl, h⟩
    · replace h := h.2 hc
      refine xr_blk (lv1 := [(6, .int (nI 0)), (0, .ref 80), (1, .int x1), (2, .int x2), (3, .int x3), (4, .int x4), (5, .int x5)]) (st1 := [.int (nI 199), .int (nI 0), .int x4]) (S1 := rt v) (pc1 := 165) [(.iload 4, .null, 0, 0), (.iconst 0, .int (nI 0), 0, 0), (.sipush 199, .int (nI 199), 0, 0)] [] (by decide +kernel) rfl trivial ?_
      refine xk_SI (As := [.int x4, .int (nI 0), .int (nI 199)]) (rest := []) (idx := 200) (i0 := 200) (m1 := 152) (ps := [1616, 1617]) (by decide +kernel) (by decide +kernel) (by decide) rfl (Nat.le_of_ble_eq_true rfl) rfl h (fun y2 v1 h => ?_)
      refine xr_if_ne (tgt := 202) (off := 34) (by decide +kernel) (by decide) (fun hc => ?_) (fun hc => ?_)
      · replace h := h.1 hc
        exact x_R.sub [1, 2, 3, 4, 5, 6] rfl h
      · replace h := h.2 hc
        refine xr_goto (tgt := 199) (off := 28) (by decide +kernel) (by decide) ?_
        refine xr_blk (lv1 := [(6, .int (nI 0)), (0, .ref 80), (1, .int x1), (2, .int x2), (3, .int x3), (4, .int x4), (5, .int x5)]) (st1 := [.int (-3)]) (S1 := rt v1) (pc1 := 201) [(.bipush (-3), .int (-3), 0, 0)] [] (by decide +kernel) rfl trivial ?_
        exact xr_iret (by decide +kernel) rfl ⟨_, _, rfl, rfl, h⟩
  · replace h := h.2 hc
    refine xr_blk (lv1 := [(6, .int (nI 0)), (0, .ref 80), (1, .int x1), (2, .int x2), (3, .int x3), (4, .int x4), (5, .int x5)]) (st1 := [.int (-2)]) (S1 := rt v) (pc1 := 153) [(.bipush (-2), .int (-2), 0, 0)] [] (by decide +kernel) rfl trivial ?_
    exact xr_iret (by decide +kernel) rfl ⟨_, _, rfl, rfl, h⟩
set_option maxRecDepth 100000 in
theorem w_X12_fact_202 {E : Nat × (Nat → Int32)} {d : Nat} {v : xV} {x1 : Int32} {x2 : Int32} {x3 : Int32} {x4 : Int32} {x5 : Int32} {Q : Int32 → xV → Prop} (h : ((¬ (gI v 80 70) = (nI 80) → vp_in (gI v 80 70) 80 ∧ vp_in (gI v 80 70) 80 ∧ vp_in (gI v 80 70) 80 ∧ vp_in (gI v 80 70) 80 ∧ vp_in (gI v 80 70) 80 ∧ vp_in (gI v 80 70) 80 ∧ Q (((gI v 80 70) + (nI 1)) - (nI 1)) (v_I (v_A (v_A (v_A (v_A (v_A (v_A v 121 (upd (gA v 121) ((gI v 80 70)).toNatClampNeg x1)) 122 (upd (gA v 122) ((gI v 80 70)).toNatClampNeg x2)) 123 (upd (gA v 123) ((gI v 80 70)).toNatClampNeg x3)) 124 (upd (gA v 124) ((gI v 80 70)).toNatClampNeg x4)) 125 (upd (gA v 125) ((gI v 80 70)).toNatClampNeg x5)) 126 (upd (gA v 126) ((gI v 80 70)).toNatClampNeg (gI v 80 5))) 80 70 ((gI v 80 70) + (nI 1)))) ∧ ((gI v 80 70) = (nI 80) → Q (-4 : Int32) v))) : RI E (d + 1) 197 202 [(0, .ref 80), (1, .int x1), (2, .int x2), (3, .int x3), (4, .int x4), (5, .int x5)] v Q := by
  unfold RI
  refine xr_blk (lv1 := [(0, .ref 80), (1, .int x1), (2, .int x2), (3, .int x3), (4, .int x4), (5, .int x5)]) (st1 := [.int (nI 80), .int (gI v 80 70)]) (S1 := rt v) (pc1 := 208) [(.aload_n 0, .null, 0, 0), (.getfield 377, .null, 12, 70), (.bipush 80, .int (nI 80), 0, 0)] [] (by decide +kernel) rfl trivial ?_
  refine xr_ic_ne (tgt := 214) (off := 6) (by decide +kernel) (by decide) (fun hc => ?_) (fun hc => ?_)
  · replace h := h.1 hc
    obtain ⟨hb1, h⟩ := h
    obtain ⟨hb2, h⟩ := h
    obtain ⟨hb3, h⟩ := h
    obtain ⟨hb4, h⟩ := h
    obtain ⟨hb5, h⟩ := h
    obtain ⟨hb6, h⟩ := h
    refine xr_blk (lv1 := [(0, .ref 80), (1, .int x1), (2, .int x2), (3, .int x3), (4, .int x4), (5, .int x5)]) (st1 := [.int (((gI v 80 70) + (nI 1)) - (nI 1))]) (S1 := rt (v_I (v_A (v_A (v_A (v_A (v_A (v_A v 121 (upd (gA v 121) ((gI v 80 70)).toNatClampNeg x1)) 122 (upd (gA v 122) ((gI v 80 70)).toNatClampNeg x2)) 123 (upd (gA v 123) ((gI v 80 70)).toNatClampNeg x3)) 124 (upd (gA v 124) ((gI v 80 70)).toNatClampNeg x4)) 125 (upd (gA v 125) ((gI v 80 70)).toNatClampNeg x5)) 126 (upd (gA v 126) ((gI v 80 70)).toNatClampNeg (gI v 80 5))) 80 70 ((gI v 80 70) + (nI 1)))) (pc1 := 295) [(.aload_n 0, .null, 0, 0), (.getfield 136, .null, 12, 64), (.aload_n 0, .null, 0, 0), (.getfield 377, .null, 12, 70), (.iload_n 1, .null, 0, 0), (.iastore, .null, 0, 0), (.aload_n 0, .null, 0, 0), (.getfield 139, .null, 12, 65), (.aload_n 0, .null, 0, 0), (.getfield 377, .null, 12, 70), (.iload_n 2, .null, 0, 0), (.iastore, .null, 0, 0), (.aload_n 0, .null, 0, 0), (.getfield 142, .null, 12, 66), (.aload_n 0, .null, 0, 0), (.getfield 377, .null, 12, 70), (.iload_n 3, .null, 0, 0), (.iastore, .null, 0, 0), (.aload_n 0, .null, 0, 0), (.getfield 145, .null, 12, 67), (.aload_n 0, .null, 0, 0), (.getfield 377, .null, 12, 70), (.iload 4, .null, 0, 0), (.iastore, .null, 0, 0), (.aload_n 0, .null, 0, 0), (.getfield 148, .null, 12, 68), (.aload_n 0, .null, 0, 0), (.getfield 377, .null, 12, 70), (.iload 5, .null, 0, 0), (.iastore, .null, 0, 0), (.aload_n 0, .null, 0, 0), (.getfield 151, .null, 12, 69), (.aload_n 0, .null, 0, 0), (.getfield 377, .null, 12, 70), (.aload_n 0, .null, 0, 0), (.getfield 204, .null, 12, 5), (.iastore, .null, 0, 0), (.aload_n 0, .null, 0, 0), (.dup, .null, 0, 0), (.getfield 377, .null, 12, 70), (.iconst 1, .int (nI 1), 0, 0), (.iadd, .null, 0, 0), (.putfield 377, .null, 12, 70), (.aload_n 0, .null, 0, 0), (.getfield 377, .null, 12, 70), (.iconst 1, .int (nI 1), 0, 0), (.isub, .null, 0, 0)] [((gI v 80 70), 80), ((gI v 80 70), 80), ((gI v 80 70), 80), ((gI v 80 70), 80), ((gI v 80 70), 80), ((gI v 80 70), 80)] (by decide +kernel) rfl ⟨hb1, hb2, hb3, hb4, hb5, hb6, trivial⟩ ?_
    exact xr_iret (by decide +kernel) rfl ⟨_, _, rfl, rfl, h⟩
  · replace h := h.2 hc
    refine xr_blk (lv1 := [(0, .ref 80), (1, .int x1), (2, .int x2), (3, .int x3), (4, .int x4), (5, .int x5)]) (st1 := [.int (-4)]) (S1 := rt v) (pc1 := 213) [(.bipush (-4), .int (-4), 0, 0)] [] (by decide +kernel) rfl trivial ?_
    exact xr_iret (by decide +kernel) rfl ⟨_, _, rfl, rfl, h⟩
theorem ok_197 : x_mOK 197 := ⟨x_tm8 (List.mem_of_getElem? (i := 18) rfl) rfl, 114, by decide +kernel⟩
/-! X12_layerVar: method 198, ScrawlHouseModel.layerVar(II)I -/
set_option maxRecDepth 100000 in
theorem w_X12_layerVar_0 {E : Nat × (Nat → Int32)} {d : Nat} {v : xV} {x0 : Int32} {x1 : Int32} {Q : Int32 → xV → Prop} (h : Q (((nI 20) + ((nI 4) * x0)) + x1) v) : RI E d 198 0 [(0, .int x0), (1, .int x1)] v Q := by
  unfold RI
  refine xr_blk (lv1 := [(0, .int x0), (1, .int x1)]) (st1 := [.int (((nI 20) + ((nI 4) * x0)) + x1)]) (S1 := rt v) (pc1 := 8) [(.bipush 20, .int (nI 20), 0, 0), (.iconst 4, .int (nI 4), 0, 0), (.iload_n 0, .null, 0, 0), (.imul, .null, 0, 0), (.iadd, .null, 0, 0), (.iload_n 1, .null, 0, 0), (.iadd, .null, 0, 0)] [] (by decide +kernel) rfl trivial ?_
  exact xr_iret (by decide +kernel) rfl ⟨_, _, rfl, rfl, h⟩
theorem ok_198 : x_mOK 198 := ⟨x_tm8 (List.mem_of_getElem? (i := 37) rfl) rfl, 114, by decide +kernel⟩
/-! X12_keepYears: method 199, ScrawlHouseModel.keepYears(III)V -/
set_option maxRecDepth 100000 in
theorem w_X12_keepYears_0 {E : Nat × (Nat → Int32)} {d : Nat} {v : xV} {x1 : Int32} {x2 : Int32} {x3 : Int32} {Q : xV → Prop} (h : RV E d 199 3 [(0, .ref 80), (1, .int x1), (2, .int x2), (3, .int x3), (4, .int (nI 0))] v Q) : RV E d 199 0 [(0, .ref 80), (1, .int x1), (2, .int x2), (3, .int x3)] v Q := by
  unfold RV
  refine xr_blk (lv1 := [(4, .int (nI 0)), (0, .ref 80), (1, .int x1), (2, .int x2), (3, .int x3)]) (st1 := []) (S1 := rt v) (pc1 := 3) [(.iconst 0, .int (nI 0), 0, 0), (.istore 4, .null, 0, 0)] [] (by decide +kernel) rfl trivial ?_
  exact x_R.sub [1, 2, 3, 4, 0] rfl h
set_option maxRecDepth 100000 in
theorem w_X12_keepYears_3 {E : Nat × (Nat → Int32)} {d : Nat} {v : xV} {x1 : Int32} {x2 : Int32} {x3 : Int32} {x4 : Int32} {Q : xV → Prop} (h : (((nI 200) ≤ x4 → Q v) ∧ (¬ (nI 200) ≤ x4 → ((x4 < x2 → RV E d 199 23 [(0, .ref 80), (1, .int x1), (2, .int x2), (3, .int x3), (4, .int x4)] v Q) ∧ (¬ x4 < x2 → ((x4 ≤ x3 → RV E d 199 3 [(0, .ref 80), (1, .int x1), (2, .int x2), (3, .int x3), (4, .int (x4 + (nI 1)))] v Q) ∧ (¬ x4 ≤ x3 → RV E d 199 23 [(0, .ref 80), (1, .int x1), (2, .int x2), (3, .int x3), (4, .int x4)] v Q))))))) : RV E d 199 3 [(0, .ref 80), (1, .int x1), (2, .int x2), (3, .int x3), (4, .int x4)] v Q := by
  unfold RV
  refine xr_blk (lv1 := [(0, .ref 80), (1, .int x1), (2, .int x2), (3, .int x3), (4, .int x4)]) (st1 := [.int (nI 200), .int x4]) (S1 := rt v) (pc1 := 8) [(.iload 4, .null, 0, 0), (.sipush 200, .int (nI 200), 0, 0)] [] (by decide +kernel) rfl trivial ?_
  refine xr_ic_ge (tgt := 43) (off := 35) (by decide +kernel) (by decide) (fun hc => ?_) (fun hc => ?_)
  · replace h := h.1 hc
    exact xr_ret0 (by decide +kernel) rfl ⟨_, rfl, rfl, h⟩
  · replace h := h.2 hc
    refine xr_blk (lv1 := [(0, .ref 80), (1, .int x1), (2, .int x2), (3, .int x3), (4, .int x4)]) (st1 := [.int x2, .int x4]) (S1 := rt v) (pc1 := 14) [(.iload 4, .null, 0, 0), (.iload_n 2, .null, 0, 0)] [] (by decide +kernel) rfl trivial ?_
    refine xr_ic_lt (tgt := 23) (off := 9) (by decide +kernel) (by decide) (fun hc => ?_) (fun hc => ?_)
    · replace h := h.1 hc
      exact x_R.sub [0, 1, 2, 3, 4] rfl h
    · replace h := h.2 hc
      refine xr_blk (lv1 := [(0, .ref 80), (1, .int x1), (2, .int x2), (3, .int x3), (4, .int x4)]) (st1 := [.int x3, .int x4]) (S1 := rt v) (pc1 := 20) [(.iload 4, .null, 0, 0), (.iload_n 3, .null, 0, 0)] [] (by decide +kernel) rfl trivial ?_
      refine xr_ic_le (tgt := 37) (off := 17) (by decide +kernel) (by decide) (fun hc => ?_) (fun hc => ?_)
      · replace h := h.1 hc
        refine xr_blk (lv1 := [(4, .int (x4 + (nI 1))), (0, .ref 80), (1, .int x1), (2, .int x2), (3, .int x3)]) (st1 := []) (S1 := rt v) (pc1 := 40) [(.iinc 4 1, .int (nI 1), 0, 0)] [] (by decide +kernel) rfl trivial ?_
        refine xr_goto (tgt := 3) (off := -37) (by decide +kernel) (by decide) ?_
        exact x_R.sub [1, 2, 3, 4, 0] rfl h
      · replace h := h.2 hc
        exact x_R.sub [0, 1, 2, 3, 4] rfl h
set_option maxRecDepth 100000 in
theorem w_X12_keepYears_23 {E : Nat × (Nat → Int32)} {d : Nat} {v : xV} {x1 : Int32} {x2 : Int32} {x3 : Int32} {x4 : Int32} {Q : xV → Prop} (h : vp_in (((nI 200) * x1) + x4) 10400 ∧ RV E d 199 3 [(0, .ref 80), (1, .int x1), (2, .int x2), (3, .int x3), (4, .int (x4 + (nI 1)))] (v_A v 127 (upd (gA v 127) ((((nI 200) * x1) + x4)).toNatClampNeg (nI 0))) Q) : RV E d 199 23 [(0, .ref 80), (1, .int x1), (2, .int x2), (3, .int x3), (4, .int x4)] v Q := by
  unfold RV
  obtain ⟨hb1, h⟩ := h
  refine xr_blk (lv1 := [(4, .int (x4 + (nI 1))), (0, .ref 80), (1, .int x1), (2, .int x2), (3, .int x3)]) (st1 := []) (S1 := rt (v_A v 127 (upd (gA v 127) ((((nI 200) * x1) + x4)).toNatClampNeg (nI 0)))) (pc1 := 40) [(.aload_n 0, .null, 0, 0), (.getfield 154, .null, 12, 71), (.sipush 200, .int (nI 200), 0, 0), (.iload_n 1, .null, 0, 0), (.imul, .null, 0, 0), (.iload 4, .null, 0, 0), (.iadd, .null, 0, 0), (.iconst 0, .int (nI 0), 0, 0), (.bastore, .null, 0, 0), (.iinc 4 1, .int (nI 1), 0, 0)] [((((nI 200) * x1) + x4), 10400), ((nI 0), 2)] (by decide +kernel) rfl ⟨hb1, x_inl (by decide), trivial⟩ ?_
  refine xr_goto (tgt := 3) (off := -37) (by decide +kernel) (by decide) ?_
  exact x_R.sub [1, 2, 3, 4, 0] rfl h
theorem ok_199 : x_mOK 199 := ⟨x_tm8 (List.mem_of_getElem? (i := 41) rfl) rfl, 114, by decide +kernel⟩
/-! X12_leastYear: method 200, ScrawlHouseModel.leastYear(I)I -/
set_option maxRecDepth 100000 in
theorem w_X12_leastYear_0 {E : Nat × (Nat → Int32)} {d : Nat} {v : xV} {x1 : Int32} {Q : Int32 → xV → Prop} (h : RI E d 200 2 [(0, .ref 80), (1, .int x1), (2, .int (nI 0))] v Q) : RI E d 200 0 [(0, .ref 80), (1, .int x1)] v Q := by
  unfold RI
  refine xr_blk (lv1 := [(2, .int (nI 0)), (0, .ref 80), (1, .int x1)]) (st1 := []) (S1 := rt v) (pc1 := 2) [(.iconst 0, .int (nI 0), 0, 0), (.istore_n 2, .null, 0, 0)] [] (by decide +kernel) rfl trivial ?_
  exact x_R.sub [1, 2, 0] rfl h
set_option maxRecDepth 100000 in
theorem w_X12_leastYear_2 {E : Nat × (Nat → Int32)} {d : Nat} {v : xV} {x1 : Int32} {x2 : Int32} {Q : Int32 → xV → Prop} (h : (((nI 200) ≤ x2 → Q x2 v) ∧ (¬ (nI 200) ≤ x2 → vp_in (((nI 200) * x1) + x2) 10400 ∧ ((¬ ((gA v 127) ((((nI 200) * x1) + x2)).toNatClampNeg) = (nI 0) → Q x2 v) ∧ (((gA v 127) ((((nI 200) * x1) + x2)).toNatClampNeg) = (nI 0) → RI E d 200 2 [(0, .ref 80), (1, .int x1), (2, .int (x2 + (nI 1)))] v Q))))) : RI E d 200 2 [(0, .ref 80), (1, .int x1), (2, .int x2)] v Q := by
  unfold RI
  refine xr_blk (lv1 := [(0, .ref 80), (1, .int x1), (2, .int x2)]) (st1 := [.int (nI 200), .int x2]) (S1 := rt v) (pc1 := 6) [(.iload_n 2, .null, 0, 0), (.sipush 200, .int (nI 200), 0, 0)] [] (by decide +kernel) rfl trivial ?_
  refine xr_ic_ge (tgt := 30) (off := 24) (by decide +kernel) (by decide) (fun hc => ?_) (fun hc => ?_)
  · replace h := h.1 hc
    refine xr_blk (lv1 := [(0, .ref 80), (1, .int x1), (2, .int x2)]) (st1 := [.int x2]) (S1 := rt v) (pc1 := 31) [(.iload_n 2, .null, 0, 0)] [] (by decide +kernel) rfl trivial ?_
    exact xr_iret (by decide +kernel) rfl ⟨_, _, rfl, rfl, h⟩
  · replace h := h.2 hc
    obtain ⟨hb1, h⟩ := h
    refine xr_blk (lv1 := [(0, .ref 80), (1, .int x1), (2, .int x2)]) (st1 := [.int ((gA v 127) ((((nI 200) * x1) + x2)).toNatClampNeg)]) (S1 := rt v) (pc1 := 21) [(.aload_n 0, .null, 0, 0), (.getfield 154, .null, 12, 71), (.sipush 200, .int (nI 200), 0, 0), (.iload_n 1, .null, 0, 0), (.imul, .null, 0, 0), (.iload_n 2, .null, 0, 0), (.iadd, .null, 0, 0), (.baload, .null, 0, 0)] [((((nI 200) * x1) + x2), 10400)] (by decide +kernel) rfl ⟨hb1, trivial⟩ ?_
    refine xr_if_ne (tgt := 30) (off := 9) (by decide +kernel) (by decide) (fun hc => ?_) (fun hc => ?_)
    · replace h := h.1 hc
      refine xr_blk (lv1 := [(0, .ref 80), (1, .int x1), (2, .int x2)]) (st1 := [.int x2]) (S1 := rt v) (pc1 := 31) [(.iload_n 2, .null, 0, 0)] [] (by decide +kernel) rfl trivial ?_
      exact xr_iret (by decide +kernel) rfl ⟨_, _, rfl, rfl, h⟩
    · replace h := h.2 hc
      refine xr_blk (lv1 := [(2, .int (x2 + (nI 1))), (0, .ref 80), (1, .int x1)]) (st1 := []) (S1 := rt v) (pc1 := 27) [(.iinc 2 1, .int (nI 1), 0, 0)] [] (by decide +kernel) rfl trivial ?_
      refine xr_goto (tgt := 2) (off := -25) (by decide +kernel) (by decide) ?_
      exact x_R.sub [1, 2, 0] rfl h
theorem ok_200 : x_mOK 200 := ⟨x_tm8 (List.mem_of_getElem? (i := 57) rfl) rfl, 114, by decide +kernel⟩

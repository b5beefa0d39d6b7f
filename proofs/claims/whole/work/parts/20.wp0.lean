/-! X0_add: method 1, ScrawlHouse$Facts.add(IIIIII)I -/
set_option maxRecDepth 100000 in
theorem w_X0_add_0 {E : Nat × (Nat → Int32)} {d : Nat} {v : xV} {x1 : Int32} {x2 : Int32} {x3 : Int32} {x4 : Int32} {x5 : Int32} {x6 : Int32} {Q : Int32 → xV → Prop} (h : (((gI v 60 6) < (nI 80) → vp_in (gI v 60 6) 80 ∧ vp_in (gI v 60 6) 80 ∧ vp_in (gI v 60 6) 80 ∧ vp_in (gI v 60 6) 80 ∧ vp_in (gI v 60 6) 80 ∧ vp_in (gI v 60 6) 80 ∧ Q (((gI v 60 6) + (nI 1)) - (nI 1)) (v_I (v_A (v_A (v_A (v_A (v_A (v_A v 61 (upd (gA v 61) ((gI v 60 6)).toNatClampNeg x1)) 62 (upd (gA v 62) ((gI v 60 6)).toNatClampNeg x2)) 63 (upd (gA v 63) ((gI v 60 6)).toNatClampNeg x3)) 64 (upd (gA v 64) ((gI v 60 6)).toNatClampNeg x4)) 65 (upd (gA v 65) ((gI v 60 6)).toNatClampNeg x5)) 66 (upd (gA v 66) ((gI v 60 6)).toNatClampNeg x6)) 60 6 ((gI v 60 6) + (nI 1)))) ∧ (¬ (gI v 60 6) < (nI 80) → Q (-1 : Int32) v))) : RI E d 1 0 [(0, .ref 60), (1, .int x1), (2, .int x2), (3, .int x3), (4, .int x4), (5, .int x5), (6, .int x6)] v Q := by
  unfold RI
  refine xr_blk (lv1 := [(0, .ref 60), (1, .int x1), (2, .int x2), (3, .int x3), (4, .int x4), (5, .int x5), (6, .int x6)]) (st1 := [.int (nI 80), .int (gI v 60 6)]) (S1 := rt v) (pc1 := 6) [(.aload_n 0, .null, 0, 0), (.getfield 30, .null, 0, 6), (.bipush 80, .int (nI 80), 0, 0)] [] (by decide +kernel) rfl trivial ?_
  refine xr_ic_lt (tgt := 11) (off := 5) (by decide +kernel) (by decide) (fun hc => ?_) (fun hc => ?_)
  · replace h := h.1 hc
    obtain ⟨hb1, h⟩ := h
    obtain ⟨hb2, h⟩ := h
    obtain ⟨hb3, h⟩ := h
    obtain ⟨hb4, h⟩ := h
    obtain ⟨hb5, h⟩ := h
    obtain ⟨hb6, h⟩ := h
    refine xr_blk (lv1 := [(0, .ref 60), (1, .int x1), (2, .int x2), (3, .int x3), (4, .int x4), (5, .int x5), (6, .int x6)]) (st1 := [.int (((gI v 60 6) + (nI 1)) - (nI 1))]) (S1 := rt (v_I (v_A (v_A (v_A (v_A (v_A (v_A v 61 (upd (gA v 61) ((gI v 60 6)).toNatClampNeg x1)) 62 (upd (gA v 62) ((gI v 60 6)).toNatClampNeg x2)) 63 (upd (gA v 63) ((gI v 60 6)).toNatClampNeg x3)) 64 (upd (gA v 64) ((gI v 60 6)).toNatClampNeg x4)) 65 (upd (gA v 65) ((gI v 60 6)).toNatClampNeg x5)) 66 (upd (gA v 66) ((gI v 60 6)).toNatClampNeg x6)) 60 6 ((gI v 60 6) + (nI 1)))) (pc1 := 90) [(.aload_n 0, .null, 0, 0), (.getfield 9, .null, 0, 0), (.aload_n 0, .null, 0, 0), (.getfield 30, .null, 0, 6), (.iload_n 1, .null, 0, 0), (.iastore, .null, 0, 0), (.aload_n 0, .null, 0, 0), (.getfield 15, .null, 0, 1), (.aload_n 0, .null, 0, 0), (.getfield 30, .null, 0, 6), (.iload_n 2, .null, 0, 0), (.iastore, .null, 0, 0), (.aload_n 0, .null, 0, 0), (.getfield 18, .null, 0, 2), (.aload_n 0, .null, 0, 0), (.getfield 30, .null, 0, 6), (.iload_n 3, .null, 0, 0), (.iastore, .null, 0, 0), (.aload_n 0, .null, 0, 0), (.getfield 21, .null, 0, 3), (.aload_n 0, .null, 0, 0), (.getfield 30, .null, 0, 6), (.iload 4, .null, 0, 0), (.iastore, .null, 0, 0), (.aload_n 0, .null, 0, 0), (.getfield 24, .null, 0, 4), (.aload_n 0, .null, 0, 0), (.getfield 30, .null, 0, 6), (.iload 5, .null, 0, 0), (.iastore, .null, 0, 0), (.aload_n 0, .null, 0, 0), (.getfield 27, .null, 0, 5), (.aload_n 0, .null, 0, 0), (.getfield 30, .null, 0, 6), (.iload 6, .null, 0, 0), (.iastore, .null, 0, 0), (.aload_n 0, .null, 0, 0), (.dup, .null, 0, 0), (.getfield 30, .null, 0, 6), (.iconst 1, .int (nI 1), 0, 0), (.iadd, .null, 0, 0), (.putfield 30, .null, 0, 6), (.aload_n 0, .null, 0, 0), (.getfield 30, .null, 0, 6), (.iconst 1, .int (nI 1), 0, 0), (.isub, .null, 0, 0)] [((gI v 60 6), 80), ((gI v 60 6), 80), ((gI v 60 6), 80), ((gI v 60 6), 80), ((gI v 60 6), 80), ((gI v 60 6), 80)] (by decide +kernel) rfl ⟨hb1, hb2, hb3, hb4, hb5, hb6, trivial⟩ ?_
    exact xr_iret (by decide +kernel) rfl ⟨_, _, rfl, rfl, h⟩
  · replace h := h.2 hc
    refine xr_blk (lv1 := [(0, .ref 60), (1, .int x1), (2, .int x2), (3, .int x3), (4, .int x4), (5, .int x5), (6, .int x6)]) (st1 := [.int (-1)]) (S1 := rt v) (pc1 := 10) [(.iconst (-1), .int (-1), 0, 0)] [] (by decide +kernel) rfl trivial ?_
    exact xr_iret (by decide +kernel) rfl ⟨_, _, rfl, rfl, h⟩
theorem ok_1 : x_mOK 1 := ⟨x_tm5 (List.mem_of_getElem? (i := 107) rfl) rfl, 111, by decide +kernel⟩
/-! X0_knownCount: method 2, ScrawlHouse$Facts.knownCount(I)I -/
set_option maxRecDepth 100000 in
theorem w_X0_knownCount_0 {E : Nat × (Nat → Int32)} {d : Nat} {v : xV} {x1 : Int32} {Q : Int32 → xV → Prop} (h : RI E d 2 4 [(0, .ref 60), (1, .int x1), (2, .int (nI 0)), (3, .int (nI 0))] v Q) : RI E d 2 0 [(0, .ref 60), (1, .int x1)] v Q := by
  unfold RI
  refine xr_blk (lv1 := [(3, .int (nI 0)), (2, .int (nI 0)), (0, .ref 60), (1, .int x1)]) (st1 := []) (S1 := rt v) (pc1 := 4) [(.iconst 0, .int (nI 0), 0, 0), (.istore_n 2, .null, 0, 0), (.iconst 0, .int (nI 0), 0, 0), (.istore_n 3, .null, 0, 0)] [] (by decide +kernel) rfl trivial ?_
  exact x_R.sub [2, 3, 1, 0] rfl h
set_option maxRecDepth 100000 in
theorem w_X0_knownCount_4 {E : Nat × (Nat → Int32)} {d : Nat} {v : xV} {x1 : Int32} {x2 : Int32} {x3 : Int32} {Q : Int32 → xV → Prop} (h : (((gI v 60 6) ≤ x3 → Q x2 v) ∧ (¬ (gI v 60 6) ≤ x3 → vp_in x3 80 ∧ ((x1 < ((gA v 66) (x3).toNatClampNeg) → Q x2 v) ∧ (¬ x1 < ((gA v 66) (x3).toNatClampNeg) → ∀ y2 : Int32, y2 = (x3 + (nI 1)) → RI E d 2 4 [(0, .ref 60), (1, .int x1), (2, .int y2), (3, .int (x3 + (nI 1)))] v Q))))) : RI E d 2 4 [(0, .ref 60), (1, .int x1), (2, .int x2), (3, .int x3)] v Q := by
  unfold RI
  refine xr_blk (lv1 := [(0, .ref 60), (1, .int x1), (2, .int x2), (3, .int x3)]) (st1 := [.int (gI v 60 6), .int x3]) (S1 := rt v) (pc1 := 9) [(.iload_n 3, .null, 0, 0), (.aload_n 0, .null, 0, 0), (.getfield 30, .null, 0, 6)] [] (by decide +kernel) rfl trivial ?_
  refine xr_ic_ge (tgt := 32) (off := 23) (by decide +kernel) (by decide) (fun hc => ?_) (fun hc => ?_)
  · replace h := h.1 hc
    refine xr_blk (lv1 := [(0, .ref 60), (1, .int x1), (2, .int x2), (3, .int x3)]) (st1 := [.int x2]) (S1 := rt v) (pc1 := 33) [(.iload_n 2, .null, 0, 0)] [] (by decide +kernel) rfl trivial ?_
    exact xr_iret (by decide +kernel) rfl ⟨_, _, rfl, rfl, h⟩
  · replace h := h.2 hc
    obtain ⟨hb1, h⟩ := h
    refine xr_blk (lv1 := [(0, .ref 60), (1, .int x1), (2, .int x2), (3, .int x3)]) (st1 := [.int x1, .int ((gA v 66) (x3).toNatClampNeg)]) (S1 := rt v) (pc1 := 19) [(.aload_n 0, .null, 0, 0), (.getfield 27, .null, 0, 5), (.iload_n 3, .null, 0, 0), (.iaload, .null, 0, 0), (.iload_n 1, .null, 0, 0)] [(x3, 80)] (by decide +kernel) rfl ⟨hb1, trivial⟩ ?_
    refine xr_ic_gt (tgt := 32) (off := 13) (by decide +kernel) (by decide) (fun hc => ?_) (fun hc => ?_)
    · replace h := h.1 hc
      refine xr_blk (lv1 := [(0, .ref 60), (1, .int x1), (2, .int x2), (3, .int x3)]) (st1 := [.int x2]) (S1 := rt v) (pc1 := 33) [(.iload_n 2, .null, 0, 0)] [] (by decide +kernel) rfl trivial ?_
      exact xr_iret (by decide +kernel) rfl ⟨_, _, rfl, rfl, h⟩
    · replace h := h.2 hc
      refine xr_blk (lv1 := [(0, .ref 60), (1, .int x1), (2, .int x2), (3, .int x3)]) (st1 := [.int (x3 + (nI 1))]) (S1 := rt v) (pc1 := 25) [(.iload_n 3, .null, 0, 0), (.iconst 1, .int (nI 1), 0, 0), (.iadd, .null, 0, 0)] [] (by decide +kernel) rfl trivial ?_
      refine xr_topi (fun y2 ey2 => ?_)
      replace h := h y2 ey2
      refine xr_blk (lv1 := [(3, .int (x3 + (nI 1))), (2, .int y2), (0, .ref 60), (1, .int x1)]) (st1 := []) (S1 := rt v) (pc1 := 29) [(.istore_n 2, .null, 0, 0), (.iinc 3 1, .int (nI 1), 0, 0)] [] (by decide +kernel) rfl trivial ?_
      refine xr_goto (tgt := 4) (off := -25) (by decide +kernel) (by decide) ?_
      exact x_R.sub [2, 3, 1, 0] rfl h
theorem ok_2 : x_mOK 2 := ⟨x_tm4 (List.mem_of_getElem? (i := 236) rfl) rfl, 111, by decide +kernel⟩
/-! X1_addScrawl: method 4, ScrawlHouse$Finds.addScrawl(IIII)I -/
set_option maxRecDepth 100000 in
theorem w_X1_addScrawl_0 {E : Nat × (Nat → Int32)} {d : Nat} {v : xV} {x1 : Int32} {x2 : Int32} {x3 : Int32} {x4 : Int32} {Q : Int32 → xV → Prop} (h : (((nI 20) ≤ (gI v 25 12) → Q (-1 : Int32) v) ∧ (¬ (nI 20) ≤ (gI v 25 12) → ((x3 < (nI 1) → Q (-1 : Int32) v) ∧ (¬ x3 < (nI 1) → ((x3 ≤ (nI 24) → vp_in (gI v 25 12) 20 ∧ vp_in (gI v 25 12) 20 ∧ vp_in (gI v 25 12) 20 ∧ vp_in (gI v 25 12) 20 ∧ Q (((gI v 25 12) + (nI 1)) - (nI 1)) (v_I (v_A (v_A (v_A (v_A v 26 (upd (gA v 26) ((gI v 25 12)).toNatClampNeg x1)) 27 (upd (gA v 27) ((gI v 25 12)).toNatClampNeg x2)) 28 (upd (gA v 28) ((gI v 25 12)).toNatClampNeg x3)) 29 (upd (gA v 29) ((gI v 25 12)).toNatClampNeg x4)) 25 12 ((gI v 25 12) + (nI 1)))) ∧ (¬ x3 ≤ (nI 24) → Q (-1 : Int32) v))))))) : RI E d 4 0 [(0, .ref 25), (1, .int x1), (2, .int x2), (3, .int x3), (4, .int x4)] v Q := by
  unfold RI
  refine xr_blk (lv1 := [(0, .ref 25), (1, .int x1), (2, .int x2), (3, .int x3), (4, .int x4)]) (st1 := [.int (nI 20), .int (gI v 25 12)]) (S1 := rt v) (pc1 := 6) [(.aload_n 0, .null, 0, 0), (.getfield 48, .null, 1, 12), (.bipush 20, .int (nI 20), 0, 0)] [] (by decide +kernel) rfl trivial ?_
  refine xr_ic_ge (tgt := 20) (off := 14) (by decide +kernel) (by decide) (fun hc => ?_) (fun hc => ?_)
  · replace h := h.1 hc
    refine xr_blk (lv1 := [(0, .ref 25), (1, .int x1), (2, .int x2), (3, .int x3), (4, .int x4)]) (st1 := [.int (-1)]) (S1 := rt v) (pc1 := 21) [(.iconst (-1), .int (-1), 0, 0)] [] (by decide +kernel) rfl trivial ?_
    exact xr_iret (by decide +kernel) rfl ⟨_, _, rfl, rfl, h⟩
  · replace h := h.2 hc
    refine xr_blk (lv1 := [(0, .ref 25), (1, .int x1), (2, .int x2), (3, .int x3), (4, .int x4)]) (st1 := [.int (nI 1), .int x3]) (S1 := rt v) (pc1 := 11) [(.iload_n 3, .null, 0, 0), (.iconst 1, .int (nI 1), 0, 0)] [] (by decide +kernel) rfl trivial ?_
    refine xr_ic_lt (tgt := 20) (off := 9) (by decide +kernel) (by decide) (fun hc => ?_) (fun hc => ?_)
    · replace h := h.1 hc
      refine xr_blk (lv1 := [(0, .ref 25), (1, .int x1), (2, .int x2), (3, .int x3), (4, .int x4)]) (st1 := [.int (-1)]) (S1 := rt v) (pc1 := 21) [(.iconst (-1), .int (-1), 0, 0)] [] (by decide +kernel) rfl trivial ?_
      exact xr_iret (by decide +kernel) rfl ⟨_, _, rfl, rfl, h⟩
    · replace h := h.2 hc
      refine xr_blk (lv1 := [(0, .ref 25), (1, .int x1), (2, .int x2), (3, .int x3), (4, .int x4)]) (st1 := [.int (nI 24), .int x3]) (S1 := rt v) (pc1 := 17) [(.iload_n 3, .null, 0, 0), (.bipush 24, .int (nI 24), 0, 0)] [] (by decide +kernel) rfl trivial ?_
      refine xr_ic_le (tgt := 22) (off := 5) (by decide +kernel) (by decide) (fun hc => ?_) (fun hc => ?_)
      · replace h := h.1 hc
        obtain ⟨hb1, h⟩ := h
        obtain ⟨hb2, h⟩ := h
        obtain ⟨hb3, h⟩ := h
        obtain ⟨hb4, h⟩ := h
        refine xr_blk (lv1 := [(0, .ref 25), (1, .int x1), (2, .int x2), (3, .int x3), (4, .int x4)]) (st1 := [.int (((gI v 25 12) + (nI 1)) - (nI 1))]) (S1 := rt (v_I (v_A (v_A (v_A (v_A v 26 (upd (gA v 26) ((gI v 25 12)).toNatClampNeg x1)) 27 (upd (gA v 27) ((gI v 25 12)).toNatClampNeg x2)) 28 (upd (gA v 28) ((gI v 25 12)).toNatClampNeg x3)) 29 (upd (gA v 29) ((gI v 25 12)).toNatClampNeg x4)) 25 12 ((gI v 25 12) + (nI 1)))) (pc1 := 79) [(.aload_n 0, .null, 0, 0), (.getfield 9, .null, 1, 0), (.aload_n 0, .null, 0, 0), (.getfield 48, .null, 1, 12), (.iload_n 1, .null, 0, 0), (.iastore, .null, 0, 0), (.aload_n 0, .null, 0, 0), (.getfield 15, .null, 1, 1), (.aload_n 0, .null, 0, 0), (.getfield 48, .null, 1, 12), (.iload_n 2, .null, 0, 0), (.iastore, .null, 0, 0), (.aload_n 0, .null, 0, 0), (.getfield 18, .null, 1, 2), (.aload_n 0, .null, 0, 0), (.getfield 48, .null, 1, 12), (.iload_n 3, .null, 0, 0), (.iastore, .null, 0, 0), (.aload_n 0, .null, 0, 0), (.getfield 21, .null, 1, 3), (.aload_n 0, .null, 0, 0), (.getfield 48, .null, 1, 12), (.iload 4, .null, 0, 0), (.iastore, .null, 0, 0), (.aload_n 0, .null, 0, 0), (.dup, .null, 0, 0), (.getfield 48, .null, 1, 12), (.iconst 1, .int (nI 1), 0, 0), (.iadd, .null, 0, 0), (.putfield 48, .null, 1, 12), (.aload_n 0, .null, 0, 0), (.getfield 48, .null, 1, 12), (.iconst 1, .int (nI 1), 0, 0), (.isub, .null, 0, 0)] [((gI v 25 12), 20), ((gI v 25 12), 20), ((gI v 25 12), 20), ((gI v 25 12), 20)] (by decide +kernel) rfl ⟨hb1, hb2, hb3, hb4, trivial⟩ ?_
        exact xr_iret (by decide +kernel) rfl ⟨_, _, rfl, rfl, h⟩
      · replace h := h.2 hc
        refine xr_blk (lv1 := [(0, .ref 25), (1, .int x1), (2, .int x2), (3, .int x3), (4, .int x4)]) (st1 := [.int (-1)]) (S1 := rt v) (pc1 := 21) [(.iconst (-1), .int (-1), 0, 0)] [] (by decide +kernel) rfl trivial ?_
        exact xr_iret (by decide +kernel) rfl ⟨_, _, rfl, rfl, h⟩
theorem ok_4 : x_mOK 4 := ⟨x_tm4 (List.mem_of_getElem? (i := 41) rfl) rfl, 108, by decide +kernel⟩
/-! X1_addPhoto: method 5, ScrawlHouse$Finds.addPhoto(ILScrawlHouse$Tape;I)Z -/
set_option maxRecDepth 100000 in
theorem w_X1_addPhoto_0 {E : Nat × (Nat → Int32)} {d : Nat} {v : xV} {x1 : Int32} {x3 : Int32} {Q : Int32 → xV → Prop} (h : KI E d 7 [.ref 25, .int x1] v (fun y2 v1 => ((y2 = (nI 0) → Q (nI 0) v1) ∧ (¬ y2 = (nI 0) → (((nI 60) ≤ (gI v1 25 13) → Q (nI 0) v1) ∧ (¬ (nI 60) ≤ (gI v1 25 13) → vp_in x1 20 ∧ (((gI v1 1 1) = ((nI 2) * ((gA v1 28) (x1).toNatClampNeg)) → RI E (d + 1) 5 37 [(0, .ref 25), (1, .int x1), (2, .ref 1), (3, .int x3), (4, .int (nI 0))] v1 Q) ∧ (¬ (gI v1 1 1) = ((nI 2) * ((gA v1 28) (x1).toNatClampNeg)) → Q (nI 0) v1)))))))) : RI E (d + 1) 5 0 [(0, .ref 25), (1, .int x1), (2, .ref 1), (3, .int x3)] v Q := by
  unfold RI
  refine xr_blk (lv1 := [(0, .ref 25), (1, .int x1), (2, .ref 1), (3, .int x3)]) (st1 := [.int x1, .ref 25]) (S1 := rt v) (pc1 := 2) [(.aload_n 0, .null, 0, 0), (.iload_n 1, .null, 0, 0)] [] (by decide +kernel) rfl trivial ?_
  refine xk_VI (As := [.int x1]) (bb := 25) (rest := []) (idx := 58) (i0 := 58) (m1 := 7) (ps := [870, 871, 872]) (by decide +kernel) (by decide +kernel) (by decide) rfl ((gK_s (by decide)).trans (by decide +kernel)) (by decide) (Nat.le_of_ble_eq_true rfl) rfl h (fun y2 v1 h => ?_)
  refine xr_if_eq (tgt := 32) (off := 27) (by decide +kernel) (by decide) (fun hc => ?_) (fun hc => ?_)
  · replace h := h.1 hc
    refine xr_blk (lv1 := [(0, .ref 25), (1, .int x1), (2, .ref 1), (3, .int x3)]) (st1 := [.int (nI 0)]) (S1 := rt v1) (pc1 := 33) [(.iconst 0, .int (nI 0), 0, 0)] [] (by decide +kernel) rfl trivial ?_
    exact xr_zret (by decide +kernel) rfl x_in2_0 ⟨_, _, rfl, rfl, h⟩
  · replace h := h.2 hc
    refine xr_blk (lv1 := [(0, .ref 25), (1, .int x1), (2, .ref 1), (3, .int x3)]) (st1 := [.int (nI 60), .int (gI v1 25 13)]) (S1 := rt v1) (pc1 := 14) [(.aload_n 0, .null, 0, 0), (.getfield 52, .null, 1, 13), (.bipush 60, .int (nI 60), 0, 0)] [] (by decide +kernel) rfl trivial ?_
    refine xr_ic_ge (tgt := 32) (off := 18) (by decide +kernel) (by decide) (fun hc => ?_) (fun hc => ?_)
    · replace h := h.1 hc
      refine xr_blk (lv1 := [(0, .ref 25), (1, .int x1), (2, .ref 1), (3, .int x3)]) (st1 := [.int (nI 0)]) (S1 := rt v1) (pc1 := 33) [(.iconst 0, .int (nI 0), 0, 0)] [] (by decide +kernel) rfl trivial ?_
      exact xr_zret (by decide +kernel) rfl x_in2_0 ⟨_, _, rfl, rfl, h⟩
    · replace h := h.2 hc
      obtain ⟨hb3, h⟩ := h
      refine xr_blk (lv1 := [(0, .ref 25), (1, .int x1), (2, .ref 1), (3, .int x3)]) (st1 := [.int ((nI 2) * ((gA v1 28) (x1).toNatClampNeg)), .int (gI v1 1 1)]) (S1 := rt v1) (pc1 := 29) [(.aload_n 2, .null, 0, 0), (.getfield 62, .null, 8, 1), (.iconst 2, .int (nI 2), 0, 0), (.aload_n 0, .null, 0, 0), (.getfield 18, .null, 1, 2), (.iload_n 1, .null, 0, 0), (.iaload, .null, 0, 0), (.imul, .null, 0, 0)] [(x1, 20)] (by decide +kernel) rfl ⟨hb3, trivial⟩ ?_
      refine xr_ic_eq (tgt := 34) (off := 5) (by decide +kernel) (by decide) (fun hc => ?_) (fun hc => ?_)
      · replace h := h.1 hc
        refine xr_blk (lv1 := [(4, .int (nI 0)), (0, .ref 25), (1, .int x1), (2, .ref 1), (3, .int x3)]) (st1 := []) (S1 := rt v1) (pc1 := 37) [(.iconst 0, .int (nI 0), 0, 0), (.istore 4, .null, 0, 0)] [] (by decide +kernel) rfl trivial ?_
        exact x_R.sub [1, 2, 3, 4, 0] rfl h
      · replace h := h.2 hc
        refine xr_blk (lv1 := [(0, .ref 25), (1, .int x1), (2, .ref 1), (3, .int x3)]) (st1 := [.int (nI 0)]) (S1 := rt v1) (pc1 := 33) [(.iconst 0, .int (nI 0), 0, 0)] [] (by decide +kernel) rfl trivial ?_
        exact xr_zret (by decide +kernel) rfl x_in2_0 ⟨_, _, rfl, rfl, h⟩
set_option maxRecDepth 100000 in
theorem w_X1_addPhoto_37 {E : Nat × (Nat → Int32)} {d : Nat} {v : xV} {x1 : Int32} {x3 : Int32} {x4 : Int32} {Q : Int32 → xV → Prop} (h : vp_in x1 20 ∧ ((((gA v 28) (x1).toNatClampNeg) ≤ x4 → RI E (d + 1) 5 81 [(0, .ref 25), (1, .int x1), (2, .ref 1), (3, .int x3), (4, .int (nI 0))] v Q) ∧ (¬ ((gA v 28) (x1).toNatClampNeg) ≤ x4 → KI E d 78 [.ref 1, .int ((nI 2) * x4)] v (fun y3 v2 => KI E d 78 [.ref 1, .int (((nI 2) * x4) + (nI 1))] v2 (fun y5 v4 => (((y3 &&& y5) = (nI 0) → RI E (d + 1) 5 37 [(0, .ref 25), (1, .int x1), (2, .ref 1), (3, .int x3), (4, .int (x4 + (nI 1)))] v4 Q) ∧ (¬ (y3 &&& y5) = (nI 0) → Q (nI 0) v4))))))) : RI E (d + 1) 5 37 [(0, .ref 25), (1, .int x1), (2, .ref 1), (3, .int x3), (4, .int x4)] v Q := by
  unfold RI
  obtain ⟨hb1, h⟩ := h
  refine xr_blk (lv1 := [(0, .ref 25), (1, .int x1), (2, .ref 1), (3, .int x3), (4, .int x4)]) (st1 := [.int ((gA v 28) (x1).toNatClampNeg), .int x4]) (S1 := rt v) (pc1 := 45) [(.iload 4, .null, 0, 0), (.aload_n 0, .null, 0, 0), (.getfield 18, .null, 1, 2), (.iload_n 1, .null, 0, 0), (.iaload, .null, 0, 0)] [(x1, 20)] (by decide +kernel) rfl ⟨hb1, trivial⟩ ?_
  refine xr_ic_ge (tgt := 78) (off := 33) (by decide +kernel) (by decide) (fun hc => ?_) (fun hc => ?_)
  · replace h := h.1 hc
    refine xr_blk (lv1 := [(4, .int (nI 0)), (0, .ref 25), (1, .int x1), (2, .ref 1), (3, .int x3)]) (st1 := []) (S1 := rt v) (pc1 := 81) [(.iconst 0, .int (nI 0), 0, 0), (.istore 4, .null, 0, 0)] [] (by decide +kernel) rfl trivial ?_
    exact x_R.sub [1, 2, 3, 4, 0] rfl h
  · replace h := h.2 hc
    refine xr_blk (lv1 := [(0, .ref 25), (1, .int x1), (2, .ref 1), (3, .int x3), (4, .int x4)]) (st1 := [.int ((nI 2) * x4), .ref 1]) (S1 := rt v) (pc1 := 53) [(.aload_n 2, .null, 0, 0), (.iconst 2, .int (nI 2), 0, 0), (.iload 4, .null, 0, 0), (.imul, .null, 0, 0)] [] (by decide +kernel) rfl trivial ?_
    refine xk_VI (As := [.int ((nI 2) * x4)]) (bb := 1) (rest := []) (idx := 67) (i0 := 67) (m1 := 78) (ps := [874, 677, 678]) (by decide +kernel) (by decide +kernel) (by decide) rfl ((gK_s (by decide)).trans (by decide +kernel)) (by decide) (Nat.le_of_ble_eq_true rfl) rfl h (fun y3 v2 h => ?_)
    refine xr_blk (lv1 := [(0, .ref 25), (1, .int x1), (2, .ref 1), (3, .int x3), (4, .int x4)]) (st1 := [.int (((nI 2) * x4) + (nI 1)), .ref 1, .int y3]) (S1 := rt v2) (pc1 := 63) [(.aload_n 2, .null, 0, 0), (.iconst 2, .int (nI 2), 0, 0), (.iload 4, .null, 0, 0), (.imul, .null, 0, 0), (.iconst 1, .int (nI 1), 0, 0), (.iadd, .null, 0, 0)] [] (by decide +kernel) rfl trivial ?_
    refine xk_VI (As := [.int (((nI 2) * x4) + (nI 1))]) (bb := 1) (rest := [.int y3]) (idx := 67) (i0 := 67) (m1 := 78) (ps := [874, 677, 678]) (by decide +kernel) (by decide +kernel) (by decide) rfl ((gK_s (by decide)).trans (by decide +kernel)) (by decide) (Nat.le_of_ble_eq_true rfl) rfl h (fun y5 v4 h => ?_)
    refine xr_blk (lv1 := [(0, .ref 25), (1, .int x1), (2, .ref 1), (3, .int x3), (4, .int x4)]) (st1 := [.int (y3 &&& y5)]) (S1 := rt v4) (pc1 := 67) [(.iand, .null, 0, 0)] [] (by decide +kernel) rfl trivial ?_
    refine xr_if_eq (tgt := 72) (off := 5) (by decide +kernel) (by decide) (fun hc => ?_) (fun hc => ?_)
    · replace h := h.1 hc
      refine xr_blk (lv1 := [(4, .int (x4 + (nI 1))), (0, .ref 25), (1, .int x1), (2, .ref 1), (3, .int x3)]) (st1 := []) (S1 := rt v4) (pc1 := 75) [(.iinc 4 1, .int (nI 1), 0, 0)] [] (by decide +kernel) rfl trivial ?_
      refine xr_goto (tgt := 37) (off := -38) (by decide +kernel) (by decide) ?_
      exact x_R.sub [1, 2, 3, 4, 0] rfl h
    · replace h := h.2 hc
      refine xr_blk (lv1 := [(0, .ref 25), (1, .int x1), (2, .ref 1), (3, .int x3), (4, .int x4)]) (st1 := [.int (nI 0)]) (S1 := rt v4) (pc1 := 71) [(.iconst 0, .int (nI 0), 0, 0)] [] (by decide +kernel) rfl trivial ?_
      exact xr_zret (by decide +kernel) rfl x_in2_0 ⟨_, _, rfl, rfl, h⟩
set_option maxRecDepth 100000 in
theorem w_X1_addPhoto_81 {E : Nat × (Nat → Int32)} {d : Nat} {v : xV} {x1 : Int32} {x3 : Int32} {x4 : Int32} {Q : Int32 → xV → Prop} (h : vp_in x1 20 ∧ ((((gA v 28) (x1).toNatClampNeg) ≤ x4 → vp_in (gI v 25 13) 60 ∧ vp_in (gI v 25 13) 60 ∧ Q (nI 1) (v_I (v_A (v_A v 30 (upd (gA v 30) ((gI v 25 13)).toNatClampNeg x1)) 31 (upd (gA v 31) ((gI v 25 13)).toNatClampNeg x3)) 25 13 ((gI v 25 13) + (nI 1)))) ∧ (¬ ((gA v 28) (x1).toNatClampNeg) ≤ x4 → KI E d 78 [.ref 1, .int ((nI 2) * x4)] v (fun y5 v4 => vp_in (((gI v 25 13) * (nI 24)) + x4) 1440 ∧ KI E d 78 [.ref 1, .int (((nI 2) * x4) + (nI 1))] (v_A v4 32 (upd (gA v4 32) ((((gI v 25 13) * (nI 24)) + x4)).toNatClampNeg y5)) (fun y8 v7 => vp_in (((gI v4 25 13) * (nI 24)) + x4) 1440 ∧ RI E (d + 1) 5 81 [(0, .ref 25), (1, .int x1), (2, .ref 1), (3, .int x3), (4, .int (x4 + (nI 1)))] (v_A v7 33 (upd (gA v7 33) ((((gI v4 25 13) * (nI 24)) + x4)).toNatClampNeg y8)) Q))))) : RI E (d + 1) 5 81 [(0, .ref 25), (1, .int x1), (2, .ref 1), (3, .int x3), (4, .int x4)] v Q := by
  unfold RI
  obtain ⟨hb1, h⟩ := h
  refine xr_blk (lv1 := [(0, .ref 25), (1, .int x1), (2, .ref 1), (3, .int x3), (4, .int x4)]) (st1 := [.int ((gA v 28) (x1).toNatClampNeg), .int x4]) (S1 := rt v) (pc1 := 89) [(.iload 4, .null, 0, 0), (.aload_n 0, .null, 0, 0), (.getfield 18, .null, 1, 2), (.iload_n 1, .null, 0, 0), (.iaload, .null, 0, 0)] [(x1, 20)] (by decide +kernel) rfl ⟨hb1, trivial⟩ ?_
  refine xr_ic_ge (tgt := 146) (off := 57) (by decide +kernel) (by decide) (fun hc => ?_) (fun hc => ?_)
  · replace h := h.1 hc
    obtain ⟨hb2, h⟩ := h
    obtain ⟨hb3, h⟩ := h
    refine xr_blk (lv1 := [(0, .ref 25), (1, .int x1), (2, .ref 1), (3, .int x3), (4, .int x4)]) (st1 := [.int (nI 1)]) (S1 := rt (v_I (v_A (v_A v 30 (upd (gA v 30) ((gI v 25 13)).toNatClampNeg x1)) 31 (upd (gA v 31) ((gI v 25 13)).toNatClampNeg x3)) 25 13 ((gI v 25 13) + (nI 1)))) (pc1 := 177) [(.aload_n 0, .null, 0, 0), (.getfield 24, .null, 1, 4), (.aload_n 0, .null, 0, 0), (.getfield 52, .null, 1, 13), (.iload_n 1, .null, 0, 0), (.iastore, .null, 0, 0), (.aload_n 0, .null, 0, 0), (.getfield 27, .null, 1, 5), (.aload_n 0, .null, 0, 0), (.getfield 52, .null, 1, 13), (.iload_n 3, .null, 0, 0), (.iastore, .null, 0, 0), (.aload_n 0, .null, 0, 0), (.dup, .null, 0, 0), (.getfield 52, .null, 1, 13), (.iconst 1, .int (nI 1), 0, 0), (.iadd, .null, 0, 0), (.putfield 52, .null, 1, 13), (.iconst 1, .int (nI 1), 0, 0)] [((gI v 25 13), 60), ((gI v 25 13), 60)] (by decide +kernel) rfl ⟨hb2, hb3, trivial⟩ ?_
    exact xr_zret (by decide +kernel) rfl x_in2_1 ⟨_, _, rfl, rfl, h⟩
  · replace h := h.2 hc
    refine xr_blk (lv1 := [(0, .ref 25), (1, .int x1), (2, .ref 1), (3, .int x3), (4, .int x4)]) (st1 := [.int ((nI 2) * x4), .ref 1, .int (((gI v 25 13) * (nI 24)) + x4), .ref 32]) (S1 := rt v) (pc1 := 111) [(.aload_n 0, .null, 0, 0), (.getfield 30, .null, 1, 6), (.aload_n 0, .null, 0, 0), (.getfield 52, .null, 1, 13), (.bipush 24, .int (nI 24), 0, 0), (.imul, .null, 0, 0), (.iload 4, .null, 0, 0), (.iadd, .null, 0, 0), (.aload_n 2, .null, 0, 0), (.iconst 2, .int (nI 2), 0, 0), (.iload 4, .null, 0, 0), (.imul, .null, 0, 0)] [] (by decide +kernel) rfl trivial ?_
    refine xk_VI (As := [.int ((nI 2) * x4)]) (bb := 1) (rest := [.int (((gI v 25 13) * (nI 24)) + x4), .ref 32]) (idx := 67) (i0 := 67) (m1 := 78) (ps := [874, 677, 678]) (by decide +kernel) (by decide +kernel) (by decide) rfl ((gK_s (by decide)).trans (by decide +kernel)) (by decide) (Nat.le_of_ble_eq_true rfl) rfl h (fun y5 v4 h => ?_)
    obtain ⟨hb6, h⟩ := h
    refine xr_blk (lv1 := [(0, .ref 25), (1, .int x1), (2, .ref 1), (3, .int x3), (4, .int x4)]) (st1 := [.int (((nI 2) * x4) + (nI 1)), .ref 1, .int (((gI v4 25 13) * (nI 24)) + x4), .ref 33]) (S1 := rt (v_A v4 32 (upd (gA v4 32) ((((gI v 25 13) * (nI 24)) + x4)).toNatClampNeg y5))) (pc1 := 136) [(.iastore, .null, 0, 0), (.aload_n 0, .null, 0, 0), (.getfield 33, .null, 1, 7), (.aload_n 0, .null, 0, 0), (.getfield 52, .null, 1, 13), (.bipush 24, .int (nI 24), 0, 0), (.imul, .null, 0, 0), (.iload 4, .null, 0, 0), (.iadd, .null, 0, 0), (.aload_n 2, .null, 0, 0), (.iconst 2, .int (nI 2), 0, 0), (.iload 4, .null, 0, 0), (.imul, .null, 0, 0), (.iconst 1, .int (nI 1), 0, 0), (.iadd, .null, 0, 0)] [((((gI v 25 13) * (nI 24)) + x4), 1440)] (by decide +kernel) rfl ⟨hb6, trivial⟩ ?_
    refine xk_VI (As := [.int (((nI 2) * x4) + (nI 1))]) (bb := 1) (rest := [.int (((gI v4 25 13) * (nI 24)) + x4), .ref 33]) (idx := 67) (i0 := 67) (m1 := 78) (ps := [874, 677, 678]) (by decide +kernel) (by decide +kernel) (by decide) rfl ((gK_s (by decide)).trans (by decide +kernel)) (by decide) (Nat.le_of_ble_eq_true rfl) rfl h (fun y8 v7 h => ?_)
    obtain ⟨hb9, h⟩ := h
    refine xr_blk (lv1 := [(4, .int (x4 + (nI 1))), (0, .ref 25), (1, .int x1), (2, .ref 1), (3, .int x3)]) (st1 := []) (S1 := rt (v_A v7 33 (upd (gA v7 33) ((((gI v4 25 13) * (nI 24)) + x4)).toNatClampNeg y8))) (pc1 := 143) [(.iastore, .null, 0, 0), (.iinc 4 1, .int (nI 1), 0, 0)] [((((gI v4 25 13) * (nI 24)) + x4), 1440)] (by decide +kernel) rfl ⟨hb9, trivial⟩ ?_
    refine xr_goto (tgt := 81) (off := -62) (by decide +kernel) (by decide) ?_
    exact x_R.sub [1, 2, 3, 4, 0] rfl h
theorem ok_5 : x_mOK 5 := ⟨x_tm4 (List.mem_of_getElem? (i := 49) rfl) rfl, 108, by decide +kernel⟩
/-! X1_addDrawing: method 6, ScrawlHouse$Finds.addDrawing(IILScrawlHouse$Tape;I)Z -/
set_option maxRecDepth 100000 in
theorem w_X1_addDrawing_0 {E : Nat × (Nat → Int32)} {d : Nat} {v : xV} {x1 : Int32} {x2 : Int32} {x4 : Int32} {Q : Int32 → xV → Prop} (h : KI E d 7 [.ref 25, .int x1] v (fun y2 v1 => ((y2 = (nI 0) → Q (nI 0) v1) ∧ (¬ y2 = (nI 0) → ((x2 < (nI 0) → Q (nI 0) v1) ∧ (¬ x2 < (nI 0) → (((nI 4) ≤ x2 → Q (nI 0) v1) ∧ (¬ (nI 4) ≤ x2 → (((nI 40) ≤ (gI v1 25 14) → Q (nI 0) v1) ∧ (¬ (nI 40) ≤ (gI v1 25 14) → vp_in x1 20 ∧ (((gI v1 1 1) = ((gA v1 28) (x1).toNatClampNeg) → RI E (d + 1) 6 44 [(0, .ref 25), (1, .int x1), (2, .int x2), (3, .ref 1), (4, .int x4), (5, .int (nI 0))] v1 Q) ∧ (¬ (gI v1 1 1) = ((gA v1 28) (x1).toNatClampNeg) → Q (nI 0) v1)))))))))))) : RI E (d + 1) 6 0 [(0, .ref 25), (1, .int x1), (2, .int x2), (3, .ref 1), (4, .int x4)] v Q := by
  unfold RI
  refine xr_blk (lv1 := [(0, .ref 25), (1, .int x1), (2, .int x2), (3, .ref 1), (4, .int x4)]) (st1 := [.int x1, .ref 25]) (S1 := rt v) (pc1 := 2) [(.aload_n 0, .null, 0, 0), (.iload_n 1, .null, 0, 0)] [] (by decide +kernel) rfl trivial ?_
  refine xk_VI (As := [.int x1]) (bb := 25) (rest := []) (idx := 58) (i0 := 58) (m1 := 7) (ps := [870, 871, 872]) (by decide +kernel) (by decide +kernel) (by decide) rfl ((gK_s (by decide)).trans (by decide +kernel)) (by decide) (Nat.le_of_ble_eq_true rfl) rfl h (fun y2 v1 h => ?_)
  refine xr_if_eq (tgt := 39) (off := 34) (by decide +kernel) (by decide) (fun hc => ?_) (fun hc => ?_)
  · replace h := h.1 hc
    refine xr_blk (lv1 := [(0, .ref 25), (1, .int x1), (2, .int x2), (3, .ref 1), (4, .int x4)]) (st1 := [.int (nI 0)]) (S1 := rt v1) (pc1 := 40) [(.iconst 0, .int (nI 0), 0, 0)] [] (by decide +kernel) rfl trivial ?_
    exact xr_zret (by decide +kernel) rfl x_in2_0 ⟨_, _, rfl, rfl, h⟩
  · replace h := h.2 hc
    refine xr_blk (lv1 := [(0, .ref 25), (1, .int x1), (2, .int x2), (3, .ref 1), (4, .int x4)]) (st1 := [.int x2]) (S1 := rt v1) (pc1 := 9) [(.iload_n 2, .null, 0, 0)] [] (by decide +kernel) rfl trivial ?_
    refine xr_if_lt (tgt := 39) (off := 30) (by decide +kernel) (by decide) (fun hc => ?_) (fun hc => ?_)
    · replace h := h.1 hc
      refine xr_blk (lv1 := [(0, .ref 25), (1, .int x1), (2, .int x2), (3, .ref 1), (4, .int x4)]) (st1 := [.int (nI 0)]) (S1 := rt v1) (pc1 := 40) [(.iconst 0, .int (nI 0), 0, 0)] [] (by decide +kernel) rfl trivial ?_
      exact xr_zret (by decide +kernel) rfl x_in2_0 ⟨_, _, rfl, rfl, h⟩
    · replace h := h.2 hc
      refine xr_blk (lv1 := [(0, .ref 25), (1, .int x1), (2, .int x2), (3, .ref 1), (4, .int x4)]) (st1 := [.int (nI 4), .int x2]) (S1 := rt v1) (pc1 := 14) [(.iload_n 2, .null, 0, 0), (.iconst 4, .int (nI 4), 0, 0)] [] (by decide +kernel) rfl trivial ?_
      refine xr_ic_ge (tgt := 39) (off := 25) (by decide +kernel) (by decide) (fun hc => ?_) (fun hc => ?_)
      · replace h := h.1 hc
        refine xr_blk (lv1 := [(0, .ref 25), (1, .int x1), (2, .int x2), (3, .ref 1), (4, .int x4)]) (st1 := [.int (nI 0)]) (S1 := rt v1) (pc1 := 40) [(.iconst 0, .int (nI 0), 0, 0)] [] (by decide +kernel) rfl trivial ?_
        exact xr_zret (by decide +kernel) rfl x_in2_0 ⟨_, _, rfl, rfl, h⟩
      · replace h := h.2 hc
        refine xr_blk (lv1 := [(0, .ref 25), (1, .int x1), (2, .int x2), (3, .ref 1), (4, .int x4)]) (st1 := [.int (nI 40), .int (gI v1 25 14)]) (S1 := rt v1) (pc1 := 23) [(.aload_n 0, .null, 0, 0), (.getfield 55, .null, 1, 14), (.bipush 40, .int (nI 40), 0, 0)] [] (by decide +kernel) rfl trivial ?_
        refine xr_ic_ge (tgt := 39) (off := 16) (by decide +kernel) (by decide) (fun hc => ?_) (fun hc => ?_)
        · replace h := h.1 hc
          refine xr_blk (lv1 := [(0, .ref 25), (1, .int x1), (2, .int x2), (3, .ref 1), (4, .int x4)]) (st1 := [.int (nI 0)]) (S1 := rt v1) (pc1 := 40) [(.iconst 0, .int (nI 0), 0, 0)] [] (by decide +kernel) rfl trivial ?_
          exact xr_zret (by decide +kernel) rfl x_in2_0 ⟨_, _, rfl, rfl, h⟩
        · replace h := h.2 hc
          obtain ⟨hb3, h⟩ := h
          refine xr_blk (lv1 := [(0, .ref 25), (1, .int x1), (2, .int x2), (3, .ref 1), (4, .int x4)]) (st1 := [.int ((gA v1 28) (x1).toNatClampNeg), .int (gI v1 1 1)]) (S1 := rt v1) (pc1 := 36) [(.aload_n 3, .null, 0, 0), (.getfield 62, .null, 8, 1), (.aload_n 0, .null, 0, 0), (.getfield 18, .null, 1, 2), (.iload_n 1, .null, 0, 0), (.iaload, .null, 0, 0)] [(x1, 20)] (by decide +kernel) rfl ⟨hb3, trivial⟩ ?_
          refine xr_ic_eq (tgt := 41) (off := 5) (by decide +kernel) (by decide) (fun hc => ?_) (fun hc => ?_)
          · replace h := h.1 hc
            refine xr_blk (lv1 := [(5, .int (nI 0)), (0, .ref 25), (1, .int x1), (2, .int x2), (3, .ref 1), (4, .int x4)]) (st1 := []) (S1 := rt v1) (pc1 := 44) [(.iconst 0, .int (nI 0), 0, 0), (.istore 5, .null, 0, 0)] [] (by decide +kernel) rfl trivial ?_
            exact x_R.sub [1, 2, 3, 4, 5, 0] rfl h
          · replace h := h.2 hc
            refine xr_blk (lv1 := [(0, .ref 25), (1, .int x1), (2, .int x2), (3, .ref 1), (4, .int x4)]) (st1 := [.int (nI 0)]) (S1 := rt v1) (pc1 := 40) [(.iconst 0, .int (nI 0), 0, 0)] [] (by decide +kernel) rfl trivial ?_
            exact xr_zret (by decide +kernel) rfl x_in2_0 ⟨_, _, rfl, rfl, h⟩
set_option maxRecDepth 100000 in
theorem w_X1_addDrawing_44 {E : Nat × (Nat → Int32)} {d : Nat} {v : xV} {x1 : Int32} {x2 : Int32} {x4 : Int32} {x5 : Int32} {Q : Int32 → xV → Prop} (h : vp_in x1 20 ∧ ((((gA v 28) (x1).toNatClampNeg) ≤ x5 → RI E (d + 1) 6 89 [(0, .ref 25), (1, .int x1), (2, .int x2), (3, .ref 1), (4, .int x4), (5, .int (nI 0))] v Q) ∧ (¬ ((gA v 28) (x1).toNatClampNeg) ≤ x5 → KI E d 78 [.ref 1, .int x5] v (fun y3 v2 => KI E d 144 [.int y3] v2 (fun y5 v4 => ((¬ y5 = (nI 0) → RI E (d + 1) 6 44 [(0, .ref 25), (1, .int x1), (2, .int x2), (3, .ref 1), (4, .int x4), (5, .int (x5 + (nI 1)))] v4 Q) ∧ (y5 = (nI 0) → KI E d 78 [.ref 1, .int x5] v4 (fun y7 v6 => ((y7 = (nI 46) → RI E (d + 1) 6 44 [(0, .ref 25), (1, .int x1), (2, .int x2), (3, .ref 1), (4, .int x4), (5, .int (x5 + (nI 1)))] v6 Q) ∧ (¬ y7 = (nI 46) → Q (nI 0) v6)))))))))) : RI E (d + 1) 6 44 [(0, .ref 25), (1, .int x1), (2, .int x2), (3, .ref 1), (4, .int x4), (5, .int x5)] v Q := by
  unfold RI
  obtain ⟨hb1, h⟩ := h
  refine xr_blk (lv1 := [(0, .ref 25), (1, .int x1), (2, .int x2), (3, .ref 1), (4, .int x4), (5, .int x5)]) (st1 := [.int ((gA v 28) (x1).toNatClampNeg), .int x5]) (S1 := rt v) (pc1 := 52) [(.iload 5, .null, 0, 0), (.aload_n 0, .null, 0, 0), (.getfield 18, .null, 1, 2), (.iload_n 1, .null, 0, 0), (.iaload, .null, 0, 0)] [(x1, 20)] (by decide +kernel) rfl ⟨hb1, trivial⟩ ?_
  refine xr_ic_ge (tgt := 86) (off := 34) (by decide +kernel) (by decide) (fun hc => ?_) (fun hc => ?_)
  · replace h := h.1 hc
    refine xr_blk (lv1 := [(5, .int (nI 0)), (0, .ref 25), (1, .int x1), (2, .int x2), (3, .ref 1), (4, .int x4)]) (st1 := []) (S1 := rt v) (pc1 := 89) [(.iconst 0, .int (nI 0), 0, 0), (.istore 5, .null, 0, 0)] [] (by decide +kernel) rfl trivial ?_
    exact x_R.sub [1, 2, 3, 4, 5, 0] rfl h
  · replace h := h.2 hc
    refine xr_blk (lv1 := [(0, .ref 25), (1, .int x1), (2, .int x2), (3, .ref 1), (4, .int x4), (5, .int x5)]) (st1 := [.int x5, .ref 1]) (S1 := rt v) (pc1 := 58) [(.aload_n 3, .null, 0, 0), (.iload 5, .null, 0, 0)] [] (by decide +kernel) rfl trivial ?_
    refine xk_VI (As := [.int x5]) (bb := 1) (rest := []) (idx := 67) (i0 := 67) (m1 := 78) (ps := [874, 677, 678]) (by decide +kernel) (by decide +kernel) (by decide) rfl ((gK_s (by decide)).trans (by decide +kernel)) (by decide) (Nat.le_of_ble_eq_true rfl) rfl h (fun y3 v2 h => ?_)
    refine xk_NI (As := [.int y3]) (rest := []) (idx := 71) (i0 := 71) (m1 := 144) (ps := [681]) (by decide +kernel) (by decide +kernel) (by decide) rfl (Nat.le_of_ble_eq_true rfl) rfl h (fun y5 v4 h => ?_)
    refine xr_if_ne (tgt := 80) (off := 16) (by decide +kernel) (by decide) (fun hc => ?_) (fun hc => ?_)
    · replace h := h.1 hc
      refine xr_blk (lv1 := [(5, .int (x5 + (nI 1))), (0, .ref 25), (1, .int x1), (2, .int x2), (3, .ref 1), (4, .int x4)]) (st1 := []) (S1 := rt v4) (pc1 := 83) [(.iinc 5 1, .int (nI 1), 0, 0)] [] (by decide +kernel) rfl trivial ?_
      refine xr_goto (tgt := 44) (off := -39) (by decide +kernel) (by decide) ?_
      exact x_R.sub [1, 2, 3, 4, 5, 0] rfl h
    · replace h := h.2 hc
      refine xr_blk (lv1 := [(0, .ref 25), (1, .int x1), (2, .int x2), (3, .ref 1), (4, .int x4), (5, .int x5)]) (st1 := [.int x5, .ref 1]) (S1 := rt v4) (pc1 := 70) [(.aload_n 3, .null, 0, 0), (.iload 5, .null, 0, 0)] [] (by decide +kernel) rfl trivial ?_
      refine xk_VI (As := [.int x5]) (bb := 1) (rest := []) (idx := 67) (i0 := 67) (m1 := 78) (ps := [874, 677, 678]) (by decide +kernel) (by decide +kernel) (by decide) rfl ((gK_s (by decide)).trans (by decide +kernel)) (by decide) (Nat.le_of_ble_eq_true rfl) rfl h (fun y7 v6 h => ?_)
      refine xr_blk (lv1 := [(0, .ref 25), (1, .int x1), (2, .int x2), (3, .ref 1), (4, .int x4), (5, .int x5)]) (st1 := [.int (nI 46), .int y7]) (S1 := rt v6) (pc1 := 75) [(.bipush 46, .int (nI 46), 0, 0)] [] (by decide +kernel) rfl trivial ?_
      refine xr_ic_eq (tgt := 80) (off := 5) (by decide +kernel) (by decide) (fun hc => ?_) (fun hc => ?_)
      · replace h := h.1 hc
        refine xr_blk (lv1 := [(5, .int (x5 + (nI 1))), (0, .ref 25), (1, .int x1), (2, .int x2), (3, .ref 1), (4, .int x4)]) (st1 := []) (S1 := rt v6) (pc1 := 83) [(.iinc 5 1, .int (nI 1), 0, 0)] [] (by decide +kernel) rfl trivial ?_
        refine xr_goto (tgt := 44) (off := -39) (by decide +kernel) (by decide) ?_
        exact x_R.sub [1, 2, 3, 4, 5, 0] rfl h
      · replace h := h.2 hc
        refine xr_blk (lv1 := [(0, .ref 25), (1, .int x1), (2, .int x2), (3, .ref 1), (4, .int x4), (5, .int x5)]) (st1 := [.int (nI 0)]) (S1 := rt v6) (pc1 := 79) [(.iconst 0, .int (nI 0), 0, 0)] [] (by decide +kernel) rfl trivial ?_
        exact xr_zret (by decide +kernel) rfl x_in2_0 ⟨_, _, rfl, rfl, h⟩
set_option maxRecDepth 100000 in
theorem w_X1_addDrawing_89 {E : Nat × (Nat → Int32)} {d : Nat} {v : xV} {x1 : Int32} {x2 : Int32} {x4 : Int32} {x5 : Int32} {Q : Int32 → xV → Prop} (h : vp_in x1 20 ∧ ((((gA v 28) (x1).toNatClampNeg) ≤ x5 → vp_in (gI v 25 14) 40 ∧ vp_in (gI v 25 14) 40 ∧ vp_in (gI v 25 14) 40 ∧ Q (nI 1) (v_I (v_A (v_A (v_A v 34 (upd (gA v 34) ((gI v 25 14)).toNatClampNeg x1)) 35 (upd (gA v 35) ((gI v 25 14)).toNatClampNeg x2)) 36 (upd (gA v 36) ((gI v 25 14)).toNatClampNeg x4)) 25 14 ((gI v 25 14) + (nI 1)))) ∧ (¬ ((gA v 28) (x1).toNatClampNeg) ≤ x5 → KI E d 78 [.ref 1, .int x5] v (fun y6 v5 => ((¬ y6 = (nI 46) → KI E d 78 [.ref 1, .int x5] v5 (fun y8 v7 => vp_in (((gI v 25 14) * (nI 24)) + x5) 960 ∧ RI E (d + 1) 6 89 [(0, .ref 25), (1, .int x1), (2, .int x2), (3, .ref 1), (4, .int x4), (5, .int (x5 + (nI 1)))] (v_A v7 37 (upd (gA v7 37) ((((gI v 25 14) * (nI 24)) + x5)).toNatClampNeg (y8 - (nI 97)))) Q)) ∧ (y6 = (nI 46) → vp_in (((gI v 25 14) * (nI 24)) + x5) 960 ∧ RI E (d + 1) 6 89 [(0, .ref 25), (1, .int x1), (2, .int x2), (3, .ref 1), (4, .int x4), (5, .int (x5 + (nI 1)))] (v_A v5 37 (upd (gA v5 37) ((((gI v 25 14) * (nI 24)) + x5)).toNatClampNeg (-1 : Int32))) Q)))))) : RI E (d + 1) 6 89 [(0, .ref 25), (1, .int x1), (2, .int x2), (3, .ref 1), (4, .int x4), (5, .int x5)] v Q := by
  unfold RI
  obtain ⟨hb1, h⟩ := h
  refine xr_blk (lv1 := [(0, .ref 25), (1, .int x1), (2, .int x2), (3, .ref 1), (4, .int x4), (5, .int x5)]) (st1 := [.int ((gA v 28) (x1).toNatClampNeg), .int x5]) (S1 := rt v) (pc1 := 97) [(.iload 5, .null, 0, 0), (.aload_n 0, .null, 0, 0), (.getfield 18, .null, 1, 2), (.iload_n 1, .null, 0, 0), (.iaload, .null, 0, 0)] [(x1, 20)] (by decide +kernel) rfl ⟨hb1, trivial⟩ ?_
  refine xr_ic_ge (tgt := 145) (off := 48) (by decide +kernel) (by decide) (fun hc => ?_) (fun hc => ?_)
  · replace h := h.1 hc
    obtain ⟨hb2, h⟩ := h
    obtain ⟨hb3, h⟩ := h
    obtain ⟨hb4, h⟩ := h
    refine xr_blk (lv1 := [(0, .ref 25), (1, .int x1), (2, .int x2), (3, .ref 1), (4, .int x4), (5, .int x5)]) (st1 := [.int (nI 1)]) (S1 := rt (v_I (v_A (v_A (v_A v 34 (upd (gA v 34) ((gI v 25 14)).toNatClampNeg x1)) 35 (upd (gA v 35) ((gI v 25 14)).toNatClampNeg x2)) 36 (upd (gA v 36) ((gI v 25 14)).toNatClampNeg x4)) 25 14 ((gI v 25 14) + (nI 1)))) (pc1 := 187) [(.aload_n 0, .null, 0, 0), (.getfield 36, .null, 1, 8), (.aload_n 0, .null, 0, 0), (.getfield 55, .null, 1, 14), (.iload_n 1, .null, 0, 0), (.iastore, .null, 0, 0), (.aload_n 0, .null, 0, 0), (.getfield 39, .null, 1, 9), (.aload_n 0, .null, 0, 0), (.getfield 55, .null, 1, 14), (.iload_n 2, .null, 0, 0), (.iastore, .null, 0, 0), (.aload_n 0, .null, 0, 0), (.getfield 42, .null, 1, 10), (.aload_n 0, .null, 0, 0), (.getfield 55, .null, 1, 14), (.iload 4, .null, 0, 0), (.iastore, .null, 0, 0), (.aload_n 0, .null, 0, 0), (.dup, .null, 0, 0), (.getfield 55, .null, 1, 14), (.iconst 1, .int (nI 1), 0, 0), (.iadd, .null, 0, 0), (.putfield 55, .null, 1, 14), (.iconst 1, .int (nI 1), 0, 0)] [((gI v 25 14), 40), ((gI v 25 14), 40), ((gI v 25 14), 40)] (by decide +kernel) rfl ⟨hb2, hb3, hb4, trivial⟩ ?_
    exact xr_zret (by decide +kernel) rfl x_in2_1 ⟨_, _, rfl, rfl, h⟩
  · replace h := h.2 hc
    refine xr_blk (lv1 := [(0, .ref 25), (1, .int x1), (2, .int x2), (3, .ref 1), (4, .int x4), (5, .int x5)]) (st1 := [.int x5, .ref 1, .int (((gI v 25 14) * (nI 24)) + x5), .ref 37]) (S1 := rt v) (pc1 := 117) [(.aload_n 0, .null, 0, 0), (.getfield 45, .null, 1, 11), (.aload_n 0, .null, 0, 0), (.getfield 55, .null, 1, 14), (.bipush 24, .int (nI 24), 0, 0), (.imul, .null, 0, 0), (.iload 5, .null, 0, 0), (.iadd, .null, 0, 0), (.aload_n 3, .null, 0, 0), (.iload 5, .null, 0, 0)] [] (by decide +kernel) rfl trivial ?_
    refine xk_VI (As := [.int x5]) (bb := 1) (rest := [.int (((gI v 25 14) * (nI 24)) + x5), .ref 37]) (idx := 67) (i0 := 67) (m1 := 78) (ps := [874, 677, 678]) (by decide +kernel) (by decide +kernel) (by decide) rfl ((gK_s (by decide)).trans (by decide +kernel)) (by decide) (Nat.le_of_ble_eq_true rfl) rfl h (fun y6 v5 h => ?_)
    refine xr_blk (lv1 := [(0, .ref 25), (1, .int x1), (2, .int x2), (3, .ref 1), (4, .int x4), (5, .int x5)]) (st1 := [.int (nI 46), .int y6, .int (((gI v 25 14) * (nI 24)) + x5), .ref 37]) (S1 := rt v5) (pc1 := 122) [(.bipush 46, .int (nI 46), 0, 0)] [] (by decide +kernel) rfl trivial ?_
    refine xr_ic_ne (tgt := 129) (off := 7) (by decide +kernel) (by decide) (fun hc => ?_) (fun hc => ?_)
    · replace h := h.1 hc
      refine xr_blk (lv1 := [(0, .ref 25), (1, .int x1), (2, .int x2), (3, .ref 1), (4, .int x4), (5, .int x5)]) (st1 := [.int x5, .ref 1, .int (((gI v 25 14) * (nI 24)) + x5), .ref 37]) (S1 := rt v5) (pc1 := 132) [(.aload_n 3, .null, 0, 0), (.iload 5, .null, 0, 0)] [] (by decide +kernel) rfl trivial ?_
      refine xk_VI (As := [.int x5]) (bb := 1) (rest := [.int (((gI v 25 14) * (nI 24)) + x5), .ref 37]) (idx := 67) (i0 := 67) (m1 := 78) (ps := [874, 677, 678]) (by decide +kernel) (by decide +kernel) (by decide) rfl ((gK_s (by decide)).trans (by decide +kernel)) (by decide) (Nat.le_of_ble_eq_true rfl) rfl h (fun y8 v7 h => ?_)
      obtain ⟨hb9, h⟩ := h
      refine xr_blk (lv1 := [(5, .int (x5 + (nI 1))), (0, .ref 25), (1, .int x1), (2, .int x2), (3, .ref 1), (4, .int x4)]) (st1 := []) (S1 := rt (v_A v7 37 (upd (gA v7 37) ((((gI v 25 14) * (nI 24)) + x5)).toNatClampNeg (y8 - (nI 97))))) (pc1 := 142) [(.bipush 97, .int (nI 97), 0, 0), (.isub, .null, 0, 0), (.iastore, .null, 0, 0), (.iinc 5 1, .int (nI 1), 0, 0)] [((((gI v 25 14) * (nI 24)) + x5), 960)] (by decide +kernel) rfl ⟨hb9, trivial⟩ ?_
      refine xr_goto (tgt := 89) (off := -53) (by decide +kernel) (by decide) ?_
      exact x_R.sub [1, 2, 3, 4, 5, 0] rfl h
    · replace h := h.2 hc
      refine xr_blk (lv1 := [(0, .ref 25), (1, .int x1), (2, .int x2), (3, .ref 1), (4, .int x4), (5, .int x5)]) (st1 := [.int (-1), .int (((gI v 25 14) * (nI 24)) + x5), .ref 37]) (S1 := rt v5) (pc1 := 126) [(.iconst (-1), .int (-1), 0, 0)] [] (by decide +kernel) rfl trivial ?_
      refine xr_goto (tgt := 138) (off := 12) (by decide +kernel) (by decide) ?_
      obtain ⟨hb10, h⟩ := h
      refine xr_blk (lv1 := [(5, .int (x5 + (nI 1))), (0, .ref 25), (1, .int x1), (2, .int x2), (3, .ref 1), (4, .int x4)]) (st1 := []) (S1 := rt (v_A v5 37 (upd (gA v5 37) ((((gI v 25 14) * (nI 24)) + x5)).toNatClampNeg (-1 : Int32)))) (pc1 := 142) [(.iastore, .null, 0, 0), (.iinc 5 1, .int (nI 1), 0, 0)] [((((gI v 25 14) * (nI 24)) + x5), 960)] (by decide +kernel) rfl ⟨hb10, trivial⟩ ?_
      refine xr_goto (tgt := 89) (off := -53) (by decide +kernel) (by decide) ?_
      exact x_R.sub [1, 2, 3, 4, 5, 0] rfl h
theorem ok_6 : x_mOK 6 := ⟨x_tm4 (List.mem_of_getElem? (i := 62) rfl) rfl, 108, by decide +kernel⟩
/-! X1_isScrawl: method 7, ScrawlHouse$Finds.isScrawl(I)Z -/
set_option maxRecDepth 100000 in
theorem w_X1_isScrawl_0 {E : Nat × (Nat → Int32)} {d : Nat} {v : xV} {x1 : Int32} {Q : Int32 → xV → Prop} (h : ((x1 < (nI 0) → Q (nI 0) v) ∧ (¬ x1 < (nI 0) → (((gI v 25 12) ≤ x1 → Q (nI 0) v) ∧ (¬ (gI v 25 12) ≤ x1 → Q (nI 1) v))))) : RI E d 7 0 [(0, .ref 25), (1, .int x1)] v Q := by
  unfold RI
  refine xr_blk (lv1 := [(0, .ref 25), (1, .int x1)]) (st1 := [.int x1]) (S1 := rt v) (pc1 := 1) [(.iload_n 1, .null, 0, 0)] [] (by decide +kernel) rfl trivial ?_
  refine xr_if_lt (tgt := 16) (off := 15) (by decide +kernel) (by decide) (fun hc => ?_) (fun hc => ?_)
  · replace h := h.1 hc
    refine xr_blk (lv1 := [(0, .ref 25), (1, .int x1)]) (st1 := [.int (nI 0)]) (S1 := rt v) (pc1 := 17) [(.iconst 0, .int (nI 0), 0, 0)] [] (by decide +kernel) rfl trivial ?_
    exact xr_zret (by decide +kernel) rfl x_in2_0 ⟨_, _, rfl, rfl, h⟩
  · replace h := h.2 hc
    refine xr_blk (lv1 := [(0, .ref 25), (1, .int x1)]) (st1 := [.int (gI v 25 12), .int x1]) (S1 := rt v) (pc1 := 9) [(.iload_n 1, .null, 0, 0), (.aload_n 0, .null, 0, 0), (.getfield 48, .null, 1, 12)] [] (by decide +kernel) rfl trivial ?_
    refine xr_ic_ge (tgt := 16) (off := 7) (by decide +kernel) (by decide) (fun hc => ?_) (fun hc => ?_)
    · replace h := h.1 hc
      refine xr_blk (lv1 := [(0, .ref 25), (1, .int x1)]) (st1 := [.int (nI 0)]) (S1 := rt v) (pc1 := 17) [(.iconst 0, .int (nI 0), 0, 0)] [] (by decide +kernel) rfl trivial ?_
      exact xr_zret (by decide +kernel) rfl x_in2_0 ⟨_, _, rfl, rfl, h⟩
    · replace h := h.2 hc
      refine xr_blk (lv1 := [(0, .ref 25), (1, .int x1)]) (st1 := [.int (nI 1)]) (S1 := rt v) (pc1 := 13) [(.iconst 1, .int (nI 1), 0, 0)] [] (by decide +kernel) rfl trivial ?_
      refine xr_goto (tgt := 17) (off := 4) (by decide +kernel) (by decide) ?_
      exact xr_zret (by decide +kernel) rfl x_in2_1 ⟨_, _, rfl, rfl, h⟩
theorem ok_7 : x_mOK 7 := ⟨x_tm4 (List.mem_of_getElem? (i := 53) rfl) rfl, 108, by decide +kernel⟩
/-! X1_isKnown: method 8, ScrawlHouse$Finds.isKnown(II)Z -/
set_option maxRecDepth 100000 in
theorem w_X1_isKnown_0 {E : Nat × (Nat → Int32)} {d : Nat} {v : xV} {x1 : Int32} {x2 : Int32} {Q : Int32 → xV → Prop} (h : KI E d 7 [.ref 25, .int x1] v (fun y2 v1 => ((y2 = (nI 0) → Q (nI 0) v1) ∧ (¬ y2 = (nI 0) → vp_in x1 20 ∧ ((x2 < ((gA v1 29) (x1).toNatClampNeg) → Q (nI 0) v1) ∧ (¬ x2 < ((gA v1 29) (x1).toNatClampNeg) → Q (nI 1) v1)))))) : RI E (d + 1) 8 0 [(0, .ref 25), (1, .int x1), (2, .int x2)] v Q := by
  unfold RI
  refine xr_blk (lv1 := [(0, .ref 25), (1, .int x1), (2, .int x2)]) (st1 := [.int x1, .ref 25]) (S1 := rt v) (pc1 := 2) [(.aload_n 0, .null, 0, 0), (.iload_n 1, .null, 0, 0)] [] (by decide +kernel) rfl trivial ?_
  refine xk_VI (As := [.int x1]) (bb := 25) (rest := []) (idx := 58) (i0 := 58) (m1 := 7) (ps := [870, 871, 872]) (by decide +kernel) (by decide +kernel) (by decide) rfl ((gK_s (by decide)).trans (by decide +kernel)) (by decide) (Nat.le_of_ble_eq_true rfl) rfl h (fun y2 v1 h => ?_)
  refine xr_if_eq (tgt := 22) (off := 17) (by decide +kernel) (by decide) (fun hc => ?_) (fun hc => ?_)
  · replace h := h.1 hc
    refine xr_blk (lv1 := [(0, .ref 25), (1, .int x1), (2, .int x2)]) (st1 := [.int (nI 0)]) (S1 := rt v1) (pc1 := 23) [(.iconst 0, .int (nI 0), 0, 0)] [] (by decide +kernel) rfl trivial ?_
    exact xr_zret (by decide +kernel) rfl x_in2_0 ⟨_, _, rfl, rfl, h⟩
  · replace h := h.2 hc
    obtain ⟨hb3, h⟩ := h
    refine xr_blk (lv1 := [(0, .ref 25), (1, .int x1), (2, .int x2)]) (st1 := [.int x2, .int ((gA v1 29) (x1).toNatClampNeg)]) (S1 := rt v1) (pc1 := 15) [(.aload_n 0, .null, 0, 0), (.getfield 21, .null, 1, 3), (.iload_n 1, .null, 0, 0), (.iaload, .null, 0, 0), (.iload_n 2, .null, 0, 0)] [(x1, 20)] (by decide +kernel) rfl ⟨hb3, trivial⟩ ?_
    refine xr_ic_gt (tgt := 22) (off := 7) (by decide +kernel) (by decide) (fun hc => ?_) (fun hc => ?_)
    · replace h := h.1 hc
      refine xr_blk (lv1 := [(0, .ref 25), (1, .int x1), (2, .int x2)]) (st1 := [.int (nI 0)]) (S1 := rt v1) (pc1 := 23) [(.iconst 0, .int (nI 0), 0, 0)] [] (by decide +kernel) rfl trivial ?_
      exact xr_zret (by decide +kernel) rfl x_in2_0 ⟨_, _, rfl, rfl, h⟩
    · replace h := h.2 hc
      refine xr_blk (lv1 := [(0, .ref 25), (1, .int x1), (2, .int x2)]) (st1 := [.int (nI 1)]) (S1 := rt v1) (pc1 := 19) [(.iconst 1, .int (nI 1), 0, 0)] [] (by decide +kernel) rfl trivial ?_
      refine xr_goto (tgt := 23) (off := 4) (by decide +kernel) (by decide) ?_
      exact xr_zret (by decide +kernel) rfl x_in2_1 ⟨_, _, rfl, rfl, h⟩
theorem ok_8 : x_mOK 8 := ⟨x_tm4 (List.mem_of_getElem? (i := 71) rfl) rfl, 108, by decide +kernel⟩
/-! X1_knownCount: method 9, ScrawlHouse$Finds.knownCount(I)I -/
set_option maxRecDepth 100000 in
theorem w_X1_knownCount_0 {E : Nat × (Nat → Int32)} {d : Nat} {v : xV} {x1 : Int32} {Q : Int32 → xV → Prop} (h : RI E d 9 4 [(0, .ref 25), (1, .int x1), (2, .int (nI 0)), (3, .int (nI 0))] v Q) : RI E d 9 0 [(0, .ref 25), (1, .int x1)] v Q := by
  unfold RI
  refine xr_blk (lv1 := [(3, .int (nI 0)), (2, .int (nI 0)), (0, .ref 25), (1, .int x1)]) (st1 := []) (S1 := rt v) (pc1 := 4) [(.iconst 0, .int (nI 0), 0, 0), (.istore_n 2, .null, 0, 0), (.iconst 0, .int (nI 0), 0, 0), (.istore_n 3, .null, 0, 0)] [] (by decide +kernel) rfl trivial ?_
  exact x_R.sub [2, 3, 1, 0] rfl h
set_option maxRecDepth 100000 in
theorem w_X1_knownCount_4 {E : Nat × (Nat → Int32)} {d : Nat} {v : xV} {x1 : Int32} {x2 : Int32} {x3 : Int32} {Q : Int32 → xV → Prop} (h : (((gI v 25 12) ≤ x3 → Q x2 v) ∧ (¬ (gI v 25 12) ≤ x3 → vp_in x3 20 ∧ ((x1 < ((gA v 29) (x3).toNatClampNeg) → Q x2 v) ∧ (¬ x1 < ((gA v 29) (x3).toNatClampNeg) → ∀ y2 : Int32, y2 = (x3 + (nI 1)) → RI E d 9 4 [(0, .ref 25), (1, .int x1), (2, .int y2), (3, .int (x3 + (nI 1)))] v Q))))) : RI E d 9 4 [(0, .ref 25), (1, .int x1), (2, .int x2), (3, .int x3)] v Q := by
  unfold RI
  refine xr_blk (lv1 := [(0, .ref 25), (1, .int x1), (2, .int x2), (3, .int x3)]) (st1 := [.int (gI v 25 12), .int x3]) (S1 := rt v) (pc1 := 9) [(.iload_n 3, .null, 0, 0), (.aload_n 0, .null, 0, 0), (.getfield 48, .null, 1, 12)] [] (by decide +kernel) rfl trivial ?_
  refine xr_ic_ge (tgt := 32) (off := 23) (by decide +kernel) (by decide) (fun hc => ?_) (fun hc => ?_)
  · replace h := h.1 hc
    refine xr_blk (lv1 := [(0, .ref 25), (1, .int x1), (2, .int x2), (3, .int x3)]) (st1 := [.int x2]) (S1 := rt v) (pc1 := 33) [(.iload_n 2, .null, 0, 0)] [] (by decide +kernel) rfl trivial ?_
    exact xr_iret (by decide +kernel) rfl ⟨_, _, rfl, rfl, h⟩
  · replace h := h.2 hc
    obtain ⟨hb1, h⟩ := h
    refine xr_blk (lv1 := [(0, .ref 25), (1, .int x1), (2, .int x2), (3, .int x3)]) (st1 := [.int x1, .int ((gA v 29) (x3).toNatClampNeg)]) (S1 := rt v) (pc1 := 19) [(.aload_n 0, .null, 0, 0), (.getfield 21, .null, 1, 3), (.iload_n 3, .null, 0, 0), (.iaload, .null, 0, 0), (.iload_n 1, .null, 0, 0)] [(x3, 20)] (by decide +kernel) rfl ⟨hb1, trivial⟩ ?_
    refine xr_ic_gt (tgt := 32) (off := 13) (by decide +kernel) (by decide) (fun hc => ?_) (fun hc => ?_)
    · replace h := h.1 hc
      refine xr_blk (lv1 := [(0, .ref 25), (1, .int x1), (2, .int x2), (3, .int x3)]) (st1 := [.int x2]) (S1 := rt v) (pc1 := 33) [(.iload_n 2, .null, 0, 0)] [] (by decide +kernel) rfl trivial ?_
      exact xr_iret (by decide +kernel) rfl ⟨_, _, rfl, rfl, h⟩
    · replace h := h.2 hc
      refine xr_blk (lv1 := [(0, .ref 25), (1, .int x1), (2, .int x2), (3, .int x3)]) (st1 := [.int (x3 + (nI 1))]) (S1 := rt v) (pc1 := 25) [(.iload_n 3, .null, 0, 0), (.iconst 1, .int (nI 1), 0, 0), (.iadd, .null, 0, 0)] [] (by decide +kernel) rfl trivial ?_
      refine xr_topi (fun y2 ey2 => ?_)
      replace h := h y2 ey2
      refine xr_blk (lv1 := [(3, .int (x3 + (nI 1))), (2, .int y2), (0, .ref 25), (1, .int x1)]) (st1 := []) (S1 := rt v) (pc1 := 29) [(.istore_n 2, .null, 0, 0), (.iinc 3 1, .int (nI 1), 0, 0)] [] (by decide +kernel) rfl trivial ?_
      refine xr_goto (tgt := 4) (off := -25) (by decide +kernel) (by decide) ?_
      exact x_R.sub [2, 3, 1, 0] rfl h
theorem ok_9 : x_mOK 9 := ⟨x_tm4 (List.mem_of_getElem? (i := 218) rfl) rfl, 108, by decide +kernel⟩
/-! X1_lastPhoto: method 10, ScrawlHouse$Finds.lastPhoto(II)I -/
set_option maxRecDepth 100000 in
theorem w_X1_lastPhoto_0 {E : Nat × (Nat → Int32)} {d : Nat} {v : xV} {x1 : Int32} {x2 : Int32} {Q : Int32 → xV → Prop} (h : ∀ y1 : Int32, y1 = ((gI v 25 13) - (nI 1)) → RI E d 10 7 [(0, .ref 25), (1, .int x1), (2, .int x2), (3, .int y1)] v Q) : RI E d 10 0 [(0, .ref 25), (1, .int x1), (2, .int x2)] v Q := by
  unfold RI
  refine xr_blk (lv1 := [(0, .ref 25), (1, .int x1), (2, .int x2)]) (st1 := [.int ((gI v 25 13) - (nI 1))]) (S1 := rt v) (pc1 := 6) [(.aload_n 0, .null, 0, 0), (.getfield 52, .null, 1, 13), (.iconst 1, .int (nI 1), 0, 0), (.isub, .null, 0, 0)] [] (by decide +kernel) rfl trivial ?_
  refine xr_topi (fun y1 ey1 => ?_)
  replace h := h y1 ey1
  refine xr_blk (lv1 := [(3, .int y1), (0, .ref 25), (1, .int x1), (2, .int x2)]) (st1 := []) (S1 := rt v) (pc1 := 7) [(.istore_n 3, .null, 0, 0)] [] (by decide +kernel) rfl trivial ?_
  exact x_R.sub [1, 2, 3, 0] rfl h
set_option maxRecDepth 100000 in
theorem w_X1_lastPhoto_7 {E : Nat × (Nat → Int32)} {d : Nat} {v : xV} {x1 : Int32} {x2 : Int32} {x3 : Int32} {Q : Int32 → xV → Prop} (h : ((x3 < (nI 0) → Q (-1 : Int32) v) ∧ (¬ x3 < (nI 0) → vp_in x3 60 ∧ ((¬ ((gA v 30) (x3).toNatClampNeg) = x1 → RI E d 10 7 [(0, .ref 25), (1, .int x1), (2, .int x2), (3, .int (x3 + (-1 : Int32)))] v Q) ∧ (((gA v 30) (x3).toNatClampNeg) = x1 → vp_in x3 60 ∧ ((x2 < ((gA v 31) (x3).toNatClampNeg) → RI E d 10 7 [(0, .ref 25), (1, .int x1), (2, .int x2), (3, .int (x3 + (-1 : Int32)))] v Q) ∧ (¬ x2 < ((gA v 31) (x3).toNatClampNeg) → Q x3 v))))))) : RI E d 10 7 [(0, .ref 25), (1, .int x1), (2, .int x2), (3, .int x3)] v Q := by
  unfold RI
  refine xr_blk (lv1 := [(0, .ref 25), (1, .int x1), (2, .int x2), (3, .int x3)]) (st1 := [.int x3]) (S1 := rt v) (pc1 := 8) [(.iload_n 3, .null, 0, 0)] [] (by decide +kernel) rfl trivial ?_
  refine xr_if_lt (tgt := 39) (off := 31) (by decide +kernel) (by decide) (fun hc => ?_) (fun hc => ?_)
  · replace h := h.1 hc
    refine xr_blk (lv1 := [(0, .ref 25), (1, .int x1), (2, .int x2), (3, .int x3)]) (st1 := [.int (-1)]) (S1 := rt v) (pc1 := 40) [(.iconst (-1), .int (-1), 0, 0)] [] (by decide +kernel) rfl trivial ?_
    exact xr_iret (by decide +kernel) rfl ⟨_, _, rfl, rfl, h⟩
  · replace h := h.2 hc
    obtain ⟨hb1, h⟩ := h
    refine xr_blk (lv1 := [(0, .ref 25), (1, .int x1), (2, .int x2), (3, .int x3)]) (st1 := [.int x1, .int ((gA v 30) (x3).toNatClampNeg)]) (S1 := rt v) (pc1 := 18) [(.aload_n 0, .null, 0, 0), (.getfield 24, .null, 1, 4), (.iload_n 3, .null, 0, 0), (.iaload, .null, 0, 0), (.iload_n 1, .null, 0, 0)] [(x3, 60)] (by decide +kernel) rfl ⟨hb1, trivial⟩ ?_
    refine xr_ic_ne (tgt := 33) (off := 15) (by decide +kernel) (by decide) (fun hc => ?_) (fun hc => ?_)
    · replace h := h.1 hc
      refine xr_blk (lv1 := [(3, .int (x3 + (-1 : Int32))), (0, .ref 25), (1, .int x1), (2, .int x2)]) (st1 := []) (S1 := rt v) (pc1 := 36) [(.iinc 3 (-1), .int (-1), 0, 0)] [] (by decide +kernel) rfl trivial ?_
      refine xr_goto (tgt := 7) (off := -29) (by decide +kernel) (by decide) ?_
      exact x_R.sub [1, 2, 3, 0] rfl h
    · replace h := h.2 hc
      obtain ⟨hb2, h⟩ := h
      refine xr_blk (lv1 := [(0, .ref 25), (1, .int x1), (2, .int x2), (3, .int x3)]) (st1 := [.int x2, .int ((gA v 31) (x3).toNatClampNeg)]) (S1 := rt v) (pc1 := 28) [(.aload_n 0, .null, 0, 0), (.getfield 27, .null, 1, 5), (.iload_n 3, .null, 0, 0), (.iaload, .null, 0, 0), (.iload_n 2, .null, 0, 0)] [(x3, 60)] (by decide +kernel) rfl ⟨hb2, trivial⟩ ?_
      refine xr_ic_gt (tgt := 33) (off := 5) (by decide +kernel) (by decide) (fun hc => ?_) (fun hc => ?_)
      · replace h := h.1 hc
        refine xr_blk (lv1 := [(3, .int (x3 + (-1 : Int32))), (0, .ref 25), (1, .int x1), (2, .int x2)]) (st1 := []) (S1 := rt v) (pc1 := 36) [(.iinc 3 (-1), .int (-1), 0, 0)] [] (by decide +kernel) rfl trivial ?_
        refine xr_goto (tgt := 7) (off := -29) (by decide +kernel) (by decide) ?_
        exact x_R.sub [1, 2, 3, 0] rfl h
      · replace h := h.2 hc
        refine xr_blk (lv1 := [(0, .ref 25), (1, .int x1), (2, .int x2), (3, .int x3)]) (st1 := [.int x3]) (S1 := rt v) (pc1 := 32) [(.iload_n 3, .null, 0, 0)] [] (by decide +kernel) rfl trivial ?_
        exact xr_iret (by decide +kernel) rfl ⟨_, _, rfl, rfl, h⟩
theorem ok_10 : x_mOK 10 := ⟨x_tm4 (List.mem_of_getElem? (i := 80) rfl) rfl, 108, by decide +kernel⟩
/-! X1_lastDrawings: method 11, ScrawlHouse$Finds.lastDrawings(II[I)V -/
set_option maxRecDepth 100000 in
theorem w_X1_lastDrawings_0 {E : Nat × (Nat → Int32)} {d : Nat} {v : xV} {x1 : Int32} {x2 : Int32} {Q : xV → Prop} (h : KV E d 230 [.ref 50, .int (-1)] v (fun v1 => RV E (d + 1) 11 8 [(0, .ref 25), (1, .int x1), (2, .int x2), (3, .ref 50), (4, .int (nI 0))] v1 Q)) : RV E (d + 1) 11 0 [(0, .ref 25), (1, .int x1), (2, .int x2), (3, .ref 50)] v Q := by
  unfold RV
  refine xr_blk (lv1 := [(0, .ref 25), (1, .int x1), (2, .int x2), (3, .ref 50)]) (st1 := [.int (-1), .ref 50]) (S1 := rt v) (pc1 := 2) [(.aload_n 3, .null, 0, 0), (.iconst (-1), .int (-1), 0, 0)] [] (by decide +kernel) rfl trivial ?_
  refine xk_SV (As := [.ref 50, .int (-1)]) (rest := []) (idx := 74) (i0 := 74) (m1 := 230) (ps := [905, 197]) (by decide +kernel) (by decide +kernel) (by decide) rfl (Nat.le_of_ble_eq_true rfl) rfl h (fun v1 h => ?_)
  refine xr_blk (lv1 := [(4, .int (nI 0)), (0, .ref 25), (1, .int x1), (2, .int x2), (3, .ref 50)]) (st1 := []) (S1 := rt v1) (pc1 := 8) [(.iconst 0, .int (nI 0), 0, 0), (.istore 4, .null, 0, 0)] [] (by decide +kernel) rfl trivial ?_
  exact x_R.sub [1, 2, 3, 4, 0] rfl h
set_option maxRecDepth 100000 in
theorem w_X1_lastDrawings_8 {E : Nat × (Nat → Int32)} {d : Nat} {v : xV} {x1 : Int32} {x2 : Int32} {x4 : Int32} {Q : xV → Prop} (h : (((gI v 25 14) ≤ x4 → Q v) ∧ (¬ (gI v 25 14) ≤ x4 → vp_in x4 40 ∧ ∀ y2 : Int32, y2 = ((gA v 35) (x4).toNatClampNeg) → vp_in x4 40 ∧ ((¬ ((gA v 34) (x4).toNatClampNeg) = x1 → RV E (d + 1) 11 8 [(0, .ref 25), (1, .int x1), (2, .int x2), (3, .ref 50), (4, .int (x4 + (nI 1)))] v Q) ∧ (((gA v 34) (x4).toNatClampNeg) = x1 → vp_in x4 40 ∧ ((x2 < ((gA v 36) (x4).toNatClampNeg) → RV E (d + 1) 11 8 [(0, .ref 25), (1, .int x1), (2, .int x2), (3, .ref 50), (4, .int (x4 + (nI 1)))] v Q) ∧ (¬ x2 < ((gA v 36) (x4).toNatClampNeg) → (((Int32.ofNat 4) ≤ y2 → RV E (d + 1) 11 8 [(0, .ref 25), (1, .int x1), (2, .int x2), (3, .ref 50), (4, .int (x4 + (nI 1)))] v Q) ∧ (¬ (Int32.ofNat 4) ≤ y2 → vp_in y2 4 ∧ RV E (d + 1) 11 8 [(0, .ref 25), (1, .int x1), (2, .int x2), (3, .ref 50), (4, .int (x4 + (nI 1)))] (v_A v 50 (upd (gA v 50) (y2).toNatClampNeg x4)) Q))))))))) : RV E (d + 1) 11 8 [(0, .ref 25), (1, .int x1), (2, .int x2), (3, .ref 50), (4, .int x4)] v Q := by
  unfold RV
  refine xr_blk (lv1 := [(0, .ref 25), (1, .int x1), (2, .int x2), (3, .ref 50), (4, .int x4)]) (st1 := [.int (gI v 25 14), .int x4]) (S1 := rt v) (pc1 := 14) [(.iload 4, .null, 0, 0), (.aload_n 0, .null, 0, 0), (.getfield 55, .null, 1, 14)] [] (by decide +kernel) rfl trivial ?_
  refine xr_ic_ge (tgt := 67) (off := 53) (by decide +kernel) (by decide) (fun hc => ?_) (fun hc => ?_)
  · replace h := h.1 hc
    exact xr_ret0 (by decide +kernel) rfl ⟨_, rfl, rfl, h⟩
  · replace h := h.2 hc
    obtain ⟨hb1, h⟩ := h
    refine xr_blk (lv1 := [(0, .ref 25), (1, .int x1), (2, .int x2), (3, .ref 50), (4, .int x4)]) (st1 := [.int ((gA v 35) (x4).toNatClampNeg)]) (S1 := rt v) (pc1 := 24) [(.aload_n 0, .null, 0, 0), (.getfield 39, .null, 1, 9), (.iload 4, .null, 0, 0), (.iaload, .null, 0, 0)] [(x4, 40)] (by decide +kernel) rfl ⟨hb1, trivial⟩ ?_
    refine xr_topi (fun y2 ey2 => ?_)
    replace h := h y2 ey2
    obtain ⟨hb3, h⟩ := h
    refine xr_blk (lv1 := [(5, .int y2), (0, .ref 25), (1, .int x1), (2, .int x2), (3, .ref 50), (4, .int x4)]) (st1 := [.int x1, .int ((gA v 34) (x4).toNatClampNeg)]) (S1 := rt v) (pc1 := 34) [(.istore 5, .null, 0, 0), (.aload_n 0, .null, 0, 0), (.getfield 36, .null, 1, 8), (.iload 4, .null, 0, 0), (.iaload, .null, 0, 0), (.iload_n 1, .null, 0, 0)] [(x4, 40)] (by decide +kernel) rfl ⟨hb3, trivial⟩ ?_
    refine xr_ic_ne (tgt := 61) (off := 27) (by decide +kernel) (by decide) (fun hc => ?_) (fun hc => ?_)
    · replace h := h.1 hc
      refine xr_blk (lv1 := [(4, .int (x4 + (nI 1))), (5, .int y2), (0, .ref 25), (1, .int x1), (2, .int x2), (3, .ref 50)]) (st1 := []) (S1 := rt v) (pc1 := 64) [(.iinc 4 1, .int (nI 1), 0, 0)] [] (by decide +kernel) rfl trivial ?_
      refine xr_goto (tgt := 8) (off := -56) (by decide +kernel) (by decide) ?_
      exact x_R.sub [2, 3, 4, 5, 0] rfl h
    · replace h := h.2 hc
      obtain ⟨hb4, h⟩ := h
      refine xr_blk (lv1 := [(5, .int y2), (0, .ref 25), (1, .int x1), (2, .int x2), (3, .ref 50), (4, .int x4)]) (st1 := [.int x2, .int ((gA v 36) (x4).toNatClampNeg)]) (S1 := rt v) (pc1 := 45) [(.aload_n 0, .null, 0, 0), (.getfield 42, .null, 1, 10), (.iload 4, .null, 0, 0), (.iaload, .null, 0, 0), (.iload_n 2, .null, 0, 0)] [(x4, 40)] (by decide +kernel) rfl ⟨hb4, trivial⟩ ?_
      refine xr_ic_gt (tgt := 61) (off := 16) (by decide +kernel) (by decide) (fun hc => ?_) (fun hc => ?_)
      · replace h := h.1 hc
        refine xr_blk (lv1 := [(4, .int (x4 + (nI 1))), (5, .int y2), (0, .ref 25), (1, .int x1), (2, .int x2), (3, .ref 50)]) (st1 := []) (S1 := rt v) (pc1 := 64) [(.iinc 4 1, .int (nI 1), 0, 0)] [] (by decide +kernel) rfl trivial ?_
        refine xr_goto (tgt := 8) (off := -56) (by decide +kernel) (by decide) ?_
        exact x_R.sub [2, 3, 4, 5, 0] rfl h
      · replace h := h.2 hc
        refine xr_blk (lv1 := [(5, .int y2), (0, .ref 25), (1, .int x1), (2, .int x2), (3, .ref 50), (4, .int x4)]) (st1 := [.int (Int32.ofNat 4), .int y2]) (S1 := rt v) (pc1 := 52) [(.iload 5, .null, 0, 0), (.aload_n 3, .null, 0, 0), (.arraylength, .null, 0, 0)] [] (by decide +kernel) rfl trivial ?_
        refine xr_ic_ge (tgt := 61) (off := 9) (by decide +kernel) (by decide) (fun hc => ?_) (fun hc => ?_)
        · replace h := h.1 hc
          refine xr_blk (lv1 := [(4, .int (x4 + (nI 1))), (5, .int y2), (0, .ref 25), (1, .int x1), (2, .int x2), (3, .ref 50)]) (st1 := []) (S1 := rt v) (pc1 := 64) [(.iinc 4 1, .int (nI 1), 0, 0)] [] (by decide +kernel) rfl trivial ?_
          refine xr_goto (tgt := 8) (off := -56) (by decide +kernel) (by decide) ?_
          exact x_R.sub [2, 3, 4, 5, 0] rfl h
        · replace h := h.2 hc
          obtain ⟨hb5, h⟩ := h
          refine xr_blk (lv1 := [(4, .int (x4 + (nI 1))), (5, .int y2), (0, .ref 25), (1, .int x1), (2, .int x2), (3, .ref 50)]) (st1 := []) (S1 := rt (v_A v 50 (upd (gA v 50) (y2).toNatClampNeg x4))) (pc1 := 64) [(.aload_n 3, .null, 0, 0), (.iload 5, .null, 0, 0), (.iload 4, .null, 0, 0), (.iastore, .null, 0, 0), (.iinc 4 1, .int (nI 1), 0, 0)] [(y2, 4)] (by decide +kernel) rfl ⟨hb5, trivial⟩ ?_
          refine xr_goto (tgt := 8) (off := -56) (by decide +kernel) (by decide) ?_
          exact x_R.sub [2, 3, 4, 5, 0] rfl h
theorem ok_11 : x_mOK 11 := ⟨x_tm4 (List.mem_of_getElem? (i := 84) rfl) rfl, 108, by decide +kernel⟩
/-! X2_giveHands: method 13, ScrawlHouse$Folk.giveHands(I)V -/
set_option maxRecDepth 100000 in
theorem w_X2_giveHands_0 {E : Nat × (Nat → Int32)} {d : Nat} {v : xV} {x1 : Int32} {Q : xV → Prop} (h : KI E d 9 [.ref 25, .int x1] (v_I v 74 4 (nI 0)) (fun y2 v1 => RV E (d + 1) 13 16 [(0, .ref 74), (2, .int y2), (3, .int (nI 0))] v1 Q)) : RV E (d + 1) 13 0 [(0, .ref 74), (1, .int x1)] v Q := by
  unfold RV
  refine xr_blk (lv1 := [(0, .ref 74), (1, .int x1)]) (st1 := [.int x1, .ref 25]) (S1 := rt (v_I v 74 4 (nI 0))) (pc1 := 10) [(.aload_n 0, .null, 0, 0), (.iconst 0, .int (nI 0), 0, 0), (.putfield 15, .null, 2, 4), (.aload_n 0, .null, 0, 0), (.getfield 34, .null, 2, 0), (.iload_n 1, .null, 0, 0)] [] (by decide +kernel) rfl trivial ?_
  refine xk_VI (As := [.int x1]) (bb := 25) (rest := []) (idx := 46) (i0 := 46) (m1 := 9) (ps := [1133, 1036, 1037]) (by decide +kernel) (by decide +kernel) (by decide) rfl ((gK_s (by decide)).trans (by decide +kernel)) (by decide) (Nat.le_of_ble_eq_true rfl) rfl h (fun y2 v1 h => ?_)
  refine xr_blk (lv1 := [(3, .int (nI 0)), (2, .int y2), (0, .ref 74), (1, .int x1)]) (st1 := []) (S1 := rt v1) (pc1 := 16) [(.istore_n 2, .null, 0, 0), (.iconst 0, .int (nI 0), 0, 0), (.istore_n 3, .null, 0, 0)] [] (by decide +kernel) rfl trivial ?_
  exact x_R.sub [2, 1, 0] rfl h
set_option maxRecDepth 100000 in
theorem w_X2_giveHands_16 {E : Nat × (Nat → Int32)} {d : Nat} {v : xV} {x2 : Int32} {x3 : Int32} {Q : xV → Prop} (h : ((x2 ≤ x3 → Q v) ∧ (¬ x2 ≤ x3 → vp_in x3 20 ∧ vp_in x3 20 ∧ ((((gA v 48) (x3).toNatClampNeg) ≤ (nI 0) → RV E (d + 1) 13 16 [(0, .ref 74), (2, .int x2), (3, .int (x3 + (nI 1)))] (v_A v 75 (upd (gA v 75) (x3).toNatClampNeg (-1 : Int32))) Q) ∧ (¬ ((gA v 48) (x3).toNatClampNeg) ≤ (nI 0) → KI E d 14 [.ref 74, .int x3] (v_A v 75 (upd (gA v 75) (x3).toNatClampNeg (-1 : Int32))) (fun y4 v3 => vp_in x3 20 ∧ vp_in x3 20 ∧ RV E (d + 1) 13 16 [(0, .ref 74), (2, .int x2), (3, .int (x3 + (nI 1)))] (v_I (v_A v3 75 (upd (gA v3 75) (x3).toNatClampNeg y4)) 74 4 (if (gI v3 74 4) < (((upd (gA v3 75) (x3).toNatClampNeg y4) (x3).toNatClampNeg) + (nI 1)) then (((upd (gA v3 75) (x3).toNatClampNeg y4) (x3).toNatClampNeg) + (nI 1)) else (gI v3 74 4))) Q)))))) : RV E (d + 1) 13 16 [(0, .ref 74), (2, .int x2), (3, .int x3)] v Q := by
  unfold RV
  refine xr_blk (lv1 := [(0, .ref 74), (2, .int x2), (3, .int x3)]) (st1 := [.int x2, .int x3]) (S1 := rt v) (pc1 := 18) [(.iload_n 3, .null, 0, 0), (.iload_n 2, .null, 0, 0)] [] (by decide +kernel) rfl trivial ?_
  refine xr_ic_ge (tgt := 76) (off := 58) (by decide +kernel) (by decide) (fun hc => ?_) (fun hc => ?_)
  · replace h := h.1 hc
    exact xr_ret0 (by decide +kernel) rfl ⟨_, rfl, rfl, h⟩
  · replace h := h.2 hc
    obtain ⟨hb1, h⟩ := h
    obtain ⟨hb2, h⟩ := h
    refine xr_blk (lv1 := [(0, .ref 74), (2, .int x2), (3, .int x3)]) (st1 := [.int ((gA v 48) (x3).toNatClampNeg)]) (S1 := rt (v_A v 75 (upd (gA v 75) (x3).toNatClampNeg (-1 : Int32)))) (pc1 := 37) [(.aload_n 0, .null, 0, 0), (.getfield 9, .null, 2, 3), (.iload_n 3, .null, 0, 0), (.iconst (-1), .int (-1), 0, 0), (.iastore, .null, 0, 0), (.aload_n 0, .null, 0, 0), (.getfield 38, .null, 2, 1), (.getfield 52, .null, 7, 9), (.iload_n 3, .null, 0, 0), (.iaload, .null, 0, 0)] [(x3, 20), (x3, 20)] (by decide +kernel) rfl ⟨hb1, hb2, trivial⟩ ?_
    refine xr_if_le (tgt := 70) (off := 33) (by decide +kernel) (by decide) (fun hc => ?_) (fun hc => ?_)
    · replace h := h.1 hc
      refine xr_blk (lv1 := [(3, .int (x3 + (nI 1))), (0, .ref 74), (2, .int x2)]) (st1 := []) (S1 := rt (v_A v 75 (upd (gA v 75) (x3).toNatClampNeg (-1 : Int32)))) (pc1 := 73) [(.iinc 3 1, .int (nI 1), 0, 0)] [] (by decide +kernel) rfl trivial ?_
      refine xr_goto (tgt := 16) (off := -57) (by decide +kernel) (by decide) ?_
      exact x_R.sub [1, 2, 0] rfl h
    · replace h := h.2 hc
      refine xr_blk (lv1 := [(0, .ref 74), (2, .int x2), (3, .int x3)]) (st1 := [.int x3, .ref 74, .int x3, .ref 75]) (S1 := rt (v_A v 75 (upd (gA v 75) (x3).toNatClampNeg (-1 : Int32)))) (pc1 := 47) [(.aload_n 0, .null, 0, 0), (.getfield 9, .null, 2, 3), (.iload_n 3, .null, 0, 0), (.aload_n 0, .null, 0, 0), (.iload_n 3, .null, 0, 0)] [] (by decide +kernel) rfl trivial ?_
      refine xk_VI (As := [.int x3]) (bb := 74) (rest := [.int x3, .ref 75]) (idx := 57) (i0 := 57) (m1 := 14) (ps := [1134, 1136, 45]) (by decide +kernel) (by decide +kernel) (by decide) rfl ((gK_s (by decide)).trans (by decide +kernel)) (by decide) (Nat.le_of_ble_eq_true rfl) rfl h (fun y4 v3 h => ?_)
      obtain ⟨hb5, h⟩ := h
      obtain ⟨hb6, h⟩ := h
      refine xr_blk (lv1 := [(0, .ref 74), (2, .int x2), (3, .int x3)]) (st1 := [.int (((upd (gA v3 75) (x3).toNatClampNeg y4) (x3).toNatClampNeg) + (nI 1)), .int (gI v3 74 4), .ref 74]) (S1 := rt (v_A v3 75 (upd (gA v3 75) (x3).toNatClampNeg y4))) (pc1 := 64) [(.iastore, .null, 0, 0), (.aload_n 0, .null, 0, 0), (.aload_n 0, .null, 0, 0), (.getfield 15, .null, 2, 4), (.aload_n 0, .null, 0, 0), (.getfield 9, .null, 2, 3), (.iload_n 3, .null, 0, 0), (.iaload, .null, 0, 0), (.iconst 1, .int (nI 1), 0, 0), (.iadd, .null, 0, 0)] [(x3, 20), (x3, 20)] (by decide +kernel) rfl ⟨hb5, hb6, trivial⟩ ?_
      refine xr_mmax (idx := 60) (i0 := 60) (ps := [1147, 963]) (by decide +kernel) (by decide +kernel) (by decide) (Nat.le_of_ble_eq_true rfl) ?_
      refine xr_blk (lv1 := [(3, .int (x3 + (nI 1))), (0, .ref 74), (2, .int x2)]) (st1 := []) (S1 := rt (v_I (v_A v3 75 (upd (gA v3 75) (x3).toNatClampNeg y4)) 74 4 (if (gI v3 74 4) < (((upd (gA v3 75) (x3).toNatClampNeg y4) (x3).toNatClampNeg) + (nI 1)) then (((upd (gA v3 75) (x3).toNatClampNeg y4) (x3).toNatClampNeg) + (nI 1)) else (gI v3 74 4)))) (pc1 := 73) [(.putfield 15, .null, 2, 4), (.iinc 3 1, .int (nI 1), 0, 0)] [] (by decide +kernel) rfl trivial ?_
      refine xr_goto (tgt := 16) (off := -57) (by decide +kernel) (by decide) ?_
      exact x_R.sub [1, 2, 0] rfl h
theorem ok_13 : x_mOK 13 := ⟨x_tm5 (List.mem_of_getElem? (i := 72) rfl) rfl, 113, by decide +kernel⟩
/-! X2_leastHand: method 14, ScrawlHouse$Folk.leastHand(I)I -/
set_option maxRecDepth 100000 in
theorem w_X2_leastHand_0 {E : Nat × (Nat → Int32)} {d : Nat} {v : xV} {x1 : Int32} {Q : Int32 → xV → Prop} (h : RI E (d + 1) 14 2 [(0, .ref 74), (1, .int x1), (2, .int (nI 0))] v Q) : RI E (d + 1) 14 0 [(0, .ref 74), (1, .int x1)] v Q := by
  unfold RI
  refine xr_blk (lv1 := [(2, .int (nI 0)), (0, .ref 74), (1, .int x1)]) (st1 := []) (S1 := rt v) (pc1 := 2) [(.iconst 0, .int (nI 0), 0, 0), (.istore_n 2, .null, 0, 0)] [] (by decide +kernel) rfl trivial ?_
  exact x_R.sub [1, 2, 0] rfl h
set_option maxRecDepth 100000 in
theorem w_X2_leastHand_2 {E : Nat × (Nat → Int32)} {d : Nat} {v : xV} {x1 : Int32} {x2 : Int32} {Q : Int32 → xV → Prop} (h : (((gI v 74 4) ≤ x2 → Q (gI v 74 4) v) ∧ (¬ (gI v 74 4) ≤ x2 → KI E d 15 [.ref 74, .int x1, .int x2] v (fun y2 v1 => ((y2 = (nI 0) → RI E (d + 1) 14 2 [(0, .ref 74), (1, .int x1), (2, .int (x2 + (nI 1)))] v1 Q) ∧ (¬ y2 = (nI 0) → Q x2 v1)))))) : RI E (d + 1) 14 2 [(0, .ref 74), (1, .int x1), (2, .int x2)] v Q := by
  unfold RI
  refine xr_blk (lv1 := [(0, .ref 74), (1, .int x1), (2, .int x2)]) (st1 := [.int (gI v 74 4), .int x2]) (S1 := rt v) (pc1 := 7) [(.iload_n 2, .null, 0, 0), (.aload_n 0, .null, 0, 0), (.getfield 15, .null, 2, 4)] [] (by decide +kernel) rfl trivial ?_
  refine xr_ic_ge (tgt := 27) (off := 20) (by decide +kernel) (by decide) (fun hc => ?_) (fun hc => ?_)
  · replace h := h.1 hc
    refine xr_blk (lv1 := [(0, .ref 74), (1, .int x1), (2, .int x2)]) (st1 := [.int (gI v 74 4)]) (S1 := rt v) (pc1 := 31) [(.aload_n 0, .null, 0, 0), (.getfield 15, .null, 2, 4)] [] (by decide +kernel) rfl trivial ?_
    exact xr_iret (by decide +kernel) rfl ⟨_, _, rfl, rfl, h⟩
  · replace h := h.2 hc
    refine xr_blk (lv1 := [(0, .ref 74), (1, .int x1), (2, .int x2)]) (st1 := [.int x2, .int x1, .ref 74]) (S1 := rt v) (pc1 := 13) [(.aload_n 0, .null, 0, 0), (.iload_n 1, .null, 0, 0), (.iload_n 2, .null, 0, 0)] [] (by decide +kernel) rfl trivial ?_
    refine xk_VI (As := [.int x1, .int x2]) (bb := 74) (rest := []) (idx := 66) (i0 := 66) (m1 := 15) (ps := [1138, 1140, 46]) (by decide +kernel) (by decide +kernel) (by decide) rfl ((gK_s (by decide)).trans (by decide +kernel)) (by decide) (Nat.le_of_ble_eq_true rfl) rfl h (fun y2 v1 h => ?_)
    refine xr_if_eq (tgt := 21) (off := 5) (by decide +kernel) (by decide) (fun hc => ?_) (fun hc => ?_)
    · replace h := h.1 hc
      refine xr_blk (lv1 := [(2, .int (x2 + (nI 1))), (0, .ref 74), (1, .int x1)]) (st1 := []) (S1 := rt v1) (pc1 := 24) [(.iinc 2 1, .int (nI 1), 0, 0)] [] (by decide +kernel) rfl trivial ?_
      refine xr_goto (tgt := 2) (off := -22) (by decide +kernel) (by decide) ?_
      exact x_R.sub [1, 2, 0] rfl h
    · replace h := h.2 hc
      refine xr_blk (lv1 := [(0, .ref 74), (1, .int x1), (2, .int x2)]) (st1 := [.int x2]) (S1 := rt v1) (pc1 := 20) [(.iload_n 2, .null, 0, 0)] [] (by decide +kernel) rfl trivial ?_
      exact xr_iret (by decide +kernel) rfl ⟨_, _, rfl, rfl, h⟩
theorem ok_14 : x_mOK 14 := ⟨x_tm5 (List.mem_of_getElem? (i := 77) rfl) rfl, 113, by decide +kernel⟩
/-! X2_isOfHand: method 15, ScrawlHouse$Folk.isOfHand(II)Z -/
set_option maxRecDepth 100000 in
theorem w_X2_isOfHand_0 {E : Nat × (Nat → Int32)} {d : Nat} {v : xV} {x1 : Int32} {x2 : Int32} {Q : Int32 → xV → Prop} (h : RI E (d + 1) 15 5 [(0, .ref 74), (1, .int x1), (2, .int x2), (3, .int (nI 0)), (4, .int (nI 0))] v Q) : RI E (d + 1) 15 0 [(0, .ref 74), (1, .int x1), (2, .int x2)] v Q := by
  unfold RI
  refine xr_blk (lv1 := [(4, .int (nI 0)), (3, .int (nI 0)), (0, .ref 74), (1, .int x1), (2, .int x2)]) (st1 := []) (S1 := rt v) (pc1 := 5) [(.iconst 0, .int (nI 0), 0, 0), (.istore_n 3, .null, 0, 0), (.iconst 0, .int (nI 0), 0, 0), (.istore 4, .null, 0, 0)] [] (by decide +kernel) rfl trivial ?_
  exact x_R.sub [2, 3, 4, 1, 0] rfl h
set_option maxRecDepth 100000 in
theorem w_X2_isOfHand_5 {E : Nat × (Nat → Int32)} {d : Nat} {v : xV} {x1 : Int32} {x2 : Int32} {x3 : Int32} {x4 : Int32} {Q : Int32 → xV → Prop} (h : ((x1 ≤ x4 → vp_in x3 2 ∧ Q x3 v) ∧ (¬ x1 ≤ x4 → vp_in x4 20 ∧ ((¬ ((gA v 75) (x4).toNatClampNeg) = x2 → RI E (d + 1) 15 5 [(0, .ref 74), (1, .int x1), (2, .int x2), (3, .int x3), (4, .int (x4 + (nI 1)))] v Q) ∧ (((gA v 75) (x4).toNatClampNeg) = x2 → KI E d 75 [.ref 38, .int x1, .int x4] v (fun y3 v2 => ((y3 < (nI 0) → Q (nI 0) v2) ∧ (¬ y3 < (nI 0) → KI E d 93 [.ref 67, .int x1, .int x4] v2 (fun y5 v4 => ((y5 = (nI 0) → ((¬ x3 = (nI 0) → RI E (d + 1) 15 5 [(0, .ref 74), (1, .int x1), (2, .int x2), (3, .int (nI 1)), (4, .int (x4 + (nI 1)))] v4 Q) ∧ (x3 = (nI 0) → ((y3 < (nI 2) → RI E (d + 1) 15 5 [(0, .ref 74), (1, .int x1), (2, .int x2), (3, .int (nI 0)), (4, .int (x4 + (nI 1)))] v4 Q) ∧ (¬ y3 < (nI 2) → RI E (d + 1) 15 5 [(0, .ref 74), (1, .int x1), (2, .int x2), (3, .int (nI 1)), (4, .int (x4 + (nI 1)))] v4 Q))))) ∧ (¬ y5 = (nI 0) → Q (nI 0) v4))))))))))) : RI E (d + 1) 15 5 [(0, .ref 74), (1, .int x1), (2, .int x2), (3, .int x3), (4, .int x4)] v Q := by
  unfold RI
  refine xr_blk (lv1 := [(0, .ref 74), (1, .int x1), (2, .int x2), (3, .int x3), (4, .int x4)]) (st1 := [.int x1, .int x4]) (S1 := rt v) (pc1 := 8) [(.iload 4, .null, 0, 0), (.iload_n 1, .null, 0, 0)] [] (by decide +kernel) rfl trivial ?_
  refine xr_ic_ge (tgt := 76) (off := 68) (by decide +kernel) (by decide) (fun hc => ?_) (fun hc => ?_)
  · replace h := h.1 hc
    refine xr_blk (lv1 := [(0, .ref 74), (1, .int x1), (2, .int x2), (3, .int x3), (4, .int x4)]) (st1 := [.int x3]) (S1 := rt v) (pc1 := 77) [(.iload_n 3, .null, 0, 0)] [] (by decide +kernel) rfl trivial ?_
    obtain ⟨hz, h⟩ := h
    exact xr_zret (by decide +kernel) rfl hz ⟨_, _, rfl, rfl, h⟩
  · replace h := h.2 hc
    obtain ⟨hb1, h⟩ := h
    refine xr_blk (lv1 := [(0, .ref 74), (1, .int x1), (2, .int x2), (3, .int x3), (4, .int x4)]) (st1 := [.int x2, .int ((gA v 75) (x4).toNatClampNeg)]) (S1 := rt v) (pc1 := 19) [(.aload_n 0, .null, 0, 0), (.getfield 9, .null, 2, 3), (.iload 4, .null, 0, 0), (.iaload, .null, 0, 0), (.iload_n 2, .null, 0, 0)] [(x4, 20)] (by decide +kernel) rfl ⟨hb1, trivial⟩ ?_
    refine xr_ic_ne (tgt := 70) (off := 51) (by decide +kernel) (by decide) (fun hc => ?_) (fun hc => ?_)
    · replace h := h.1 hc
      refine xr_blk (lv1 := [(4, .int (x4 + (nI 1))), (0, .ref 74), (1, .int x1), (2, .int x2), (3, .int x3)]) (st1 := []) (S1 := rt v) (pc1 := 73) [(.iinc 4 1, .int (nI 1), 0, 0)] [] (by decide +kernel) rfl trivial ?_
      refine xr_goto (tgt := 5) (off := -68) (by decide +kernel) (by decide) ?_
      exact x_R.sub [1, 2, 3, 4, 0] rfl h
    · replace h := h.2 hc
      refine xr_blk (lv1 := [(0, .ref 74), (1, .int x1), (2, .int x2), (3, .int x3), (4, .int x4)]) (st1 := [.int x4, .int x1, .ref 38]) (S1 := rt v) (pc1 := 29) [(.aload_n 0, .null, 0, 0), (.getfield 38, .null, 2, 1), (.iload_n 1, .null, 0, 0), (.iload 4, .null, 0, 0)] [] (by decide +kernel) rfl trivial ?_
      refine xk_VI (As := [.int x1, .int x4]) (bb := 38) (rest := []) (idx := 70) (i0 := 70) (m1 := 75) (ps := [1142, 1024, 1025]) (by decide +kernel) (by decide +kernel) (by decide) rfl ((gK_s (by decide)).trans (by decide +kernel)) (by decide) (Nat.le_of_ble_eq_true rfl) rfl h (fun y3 v2 h => ?_)
      refine xr_blk (lv1 := [(5, .int y3), (0, .ref 74), (1, .int x1), (2, .int x2), (3, .int x3), (4, .int x4)]) (st1 := [.int y3]) (S1 := rt v2) (pc1 := 36) [(.istore 5, .null, 0, 0), (.iload 5, .null, 0, 0)] [] (by decide +kernel) rfl trivial ?_
      refine xr_if_lt (tgt := 52) (off := 16) (by decide +kernel) (by decide) (fun hc => ?_) (fun hc => ?_)
      · replace h := h.1 hc
        refine xr_blk (lv1 := [(5, .int y3), (0, .ref 74), (1, .int x1), (2, .int x2), (3, .int x3), (4, .int x4)]) (st1 := [.int (nI 0)]) (S1 := rt v2) (pc1 := 53) [(.iconst 0, .int (nI 0), 0, 0)] [] (by decide +kernel) rfl trivial ?_
        exact xr_zret (by decide +kernel) rfl x_in2_0 ⟨_, _, rfl, rfl, h⟩
      · replace h := h.2 hc
        refine xr_blk (lv1 := [(5, .int y3), (0, .ref 74), (1, .int x1), (2, .int x2), (3, .int x3), (4, .int x4)]) (st1 := [.int x4, .int x1, .ref 67]) (S1 := rt v2) (pc1 := 46) [(.aload_n 0, .null, 0, 0), (.getfield 42, .null, 2, 2), (.iload_n 1, .null, 0, 0), (.iload 4, .null, 0, 0)] [] (by decide +kernel) rfl trivial ?_
        refine xk_VI (As := [.int x1, .int x4]) (bb := 67) (rest := []) (idx := 73) (i0 := 73) (m1 := 93) (ps := [1143, 1144, 1145]) (by decide +kernel) (by decide +kernel) (by decide) rfl ((gK_s (by decide)).trans (by decide +kernel)) (by decide) (Nat.le_of_ble_eq_true rfl) rfl h (fun y5 v4 h => ?_)
        refine xr_if_eq (tgt := 54) (off := 5) (by decide +kernel) (by decide) (fun hc => ?_) (fun hc => ?_)
        · replace h := h.1 hc
          refine xr_blk (lv1 := [(5, .int y3), (0, .ref 74), (1, .int x1), (2, .int x2), (3, .int x3), (4, .int x4)]) (st1 := [.int x3]) (S1 := rt v4) (pc1 := 55) [(.iload_n 3, .null, 0, 0)] [] (by decide +kernel) rfl trivial ?_
          refine xr_if_ne (tgt := 64) (off := 9) (by decide +kernel) (by decide) (fun hc => ?_) (fun hc => ?_)
          · replace h := h.1 hc
            refine xr_blk (lv1 := [(5, .int y3), (0, .ref 74), (1, .int x1), (2, .int x2), (3, .int x3), (4, .int x4)]) (st1 := [.int (nI 1)]) (S1 := rt v4) (pc1 := 65) [(.iconst 1, .int (nI 1), 0, 0)] [] (by decide +kernel) rfl trivial ?_
            refine xr_goto (tgt := 69) (off := 4) (by decide +kernel) (by decide) ?_
            refine xr_blk (lv1 := [(4, .int (x4 + (nI 1))), (3, .int (nI 1)), (5, .int y3), (0, .ref 74), (1, .int x1), (2, .int x2)]) (st1 := []) (S1 := rt v4) (pc1 := 73) [(.istore_n 3, .null, 0, 0), (.iinc 4 1, .int (nI 1), 0, 0)] [] (by decide +kernel) rfl trivial ?_
            refine xr_goto (tgt := 5) (off := -68) (by decide +kernel) (by decide) ?_
            exact x_R.sub [3, 4, 5, 1, 0] rfl h
          · replace h := h.2 hc
            refine xr_blk (lv1 := [(5, .int y3), (0, .ref 74), (1, .int x1), (2, .int x2), (3, .int x3), (4, .int x4)]) (st1 := [.int (nI 2), .int y3]) (S1 := rt v4) (pc1 := 61) [(.iload 5, .null, 0, 0), (.iconst 2, .int (nI 2), 0, 0)] [] (by decide +kernel) rfl trivial ?_
            refine xr_ic_lt (tgt := 68) (off := 7) (by decide +kernel) (by decide) (fun hc => ?_) (fun hc => ?_)
            · replace h := h.1 hc
              refine xr_blk (lv1 := [(4, .int (x4 + (nI 1))), (3, .int (nI 0)), (5, .int y3), (0, .ref 74), (1, .int x1), (2, .int x2)]) (st1 := []) (S1 := rt v4) (pc1 := 73) [(.iconst 0, .int (nI 0), 0, 0), (.istore_n 3, .null, 0, 0), (.iinc 4 1, .int (nI 1), 0, 0)] [] (by decide +kernel) rfl trivial ?_
              refine xr_goto (tgt := 5) (off := -68) (by decide +kernel) (by decide) ?_
              exact x_R.sub [3, 4, 5, 1, 0] rfl h
            · replace h := h.2 hc
              refine xr_blk (lv1 := [(5, .int y3), (0, .ref 74), (1, .int x1), (2, .int x2), (3, .int x3), (4, .int x4)]) (st1 := [.int (nI 1)]) (S1 := rt v4) (pc1 := 65) [(.iconst 1, .int (nI 1), 0, 0)] [] (by decide +kernel) rfl trivial ?_
              refine xr_goto (tgt := 69) (off := 4) (by decide +kernel) (by decide) ?_
              refine xr_blk (lv1 := [(4, .int (x4 + (nI 1))), (3, .int (nI 1)), (5, .int y3), (0, .ref 74), (1, .int x1), (2, .int x2)]) (st1 := []) (S1 := rt v4) (pc1 := 73) [(.istore_n 3, .null, 0, 0), (.iinc 4 1, .int (nI 1), 0, 0)] [] (by decide +kernel) rfl trivial ?_
              refine xr_goto (tgt := 5) (off := -68) (by decide +kernel) (by decide) ?_
              exact x_R.sub [3, 4, 5, 1, 0] rfl h
        · replace h := h.2 hc
          refine xr_blk (lv1 := [(5, .int y3), (0, .ref 74), (1, .int x1), (2, .int x2), (3, .int x3), (4, .int x4)]) (st1 := [.int (nI 0)]) (S1 := rt v4) (pc1 := 53) [(.iconst 0, .int (nI 0), 0, 0)] [] (by decide +kernel) rfl trivial ?_
          exact xr_zret (by decide +kernel) rfl x_in2_0 ⟨_, _, rfl, rfl, h⟩
theorem ok_15 : x_mOK 15 := ⟨x_tm5 (List.mem_of_getElem? (i := 81) rfl) rfl, 113, by decide +kernel⟩
/-! X2_part: method 16, ScrawlHouse$Folk.part(II)V -/
set_option maxRecDepth 100000 in
theorem w_X2_part_0 {E : Nat × (Nat → Int32)} {d : Nat} {v : xV} {x1 : Int32} {x2 : Int32} {Q : xV → Prop} (h : KI E d 9 [.ref 25, .int x2] v (fun y2 v1 => KV E d 17 [.ref 74, .int x1, .int y2] v1 (fun v3 => RV E (d + 1) 16 20 [(0, .ref 74), (3, .int (nI 1))] (v_I v3 74 9 (nI 0)) Q))) : RV E (d + 1) 16 0 [(0, .ref 74), (1, .int x1), (2, .int x2)] v Q := by
  unfold RV
  refine xr_blk (lv1 := [(0, .ref 74), (1, .int x1), (2, .int x2)]) (st1 := [.int x2, .ref 25, .int x1, .ref 74]) (S1 := rt v) (pc1 := 7) [(.aload_n 0, .null, 0, 0), (.iload_n 1, .null, 0, 0), (.aload_n 0, .null, 0, 0), (.getfield 34, .null, 2, 0), (.iload_n 2, .null, 0, 0)] [] (by decide +kernel) rfl trivial ?_
  refine xk_VI (As := [.int x2]) (bb := 25) (rest := [.int x1, .ref 74]) (idx := 46) (i0 := 46) (m1 := 9) (ps := [1133, 1036, 1037]) (by decide +kernel) (by decide +kernel) (by decide) rfl ((gK_s (by decide)).trans (by decide +kernel)) (by decide) (Nat.le_of_ble_eq_true rfl) rfl h (fun y2 v1 h => ?_)
  refine xk_VV (As := [.int x1, .int y2]) (bb := 74) (rest := []) (idx := 78) (i0 := 78) (m1 := 17) (ps := [1197, 1199, 48]) (by decide +kernel) (by decide +kernel) (by decide) rfl ((gK_s (by decide)).trans (by decide +kernel)) (by decide) (Nat.le_of_ble_eq_true rfl) rfl h (fun v3 h => ?_)
  refine xr_blk (lv1 := [(3, .int (nI 1)), (0, .ref 74), (1, .int x1), (2, .int x2)]) (st1 := []) (S1 := rt (v_I v3 74 9 (nI 0))) (pc1 := 20) [(.aload_n 0, .null, 0, 0), (.iconst 0, .int (nI 0), 0, 0), (.putfield 31, .null, 2, 9), (.iconst 1, .int (nI 1), 0, 0), (.istore_n 3, .null, 0, 0)] [] (by decide +kernel) rfl trivial ?_
  exact x_R.sub [1, 0] rfl h
set_option maxRecDepth 100000 in
theorem w_X2_part_20 {E : Nat × (Nat → Int32)} {d : Nat} {v : xV} {x3 : Int32} {Q : xV → Prop} (h : (((gI v 74 8) < x3 → Q v) ∧ (¬ (gI v 74 8) < x3 → ((¬ (gI v 74 9) = (nI 0) → Q v) ∧ ((gI v 74 9) = (nI 0) → KI E d 20 [.ref 74, .int (nI 0), .int (nI 0), .int x3] v (fun y2 v1 => ((y2 = (nI 0) → RV E (d + 1) 16 20 [(0, .ref 74), (3, .int (x3 + (nI 1)))] v1 Q) ∧ (¬ y2 = (nI 0) → RV E (d + 1) 16 20 [(0, .ref 74), (3, .int (x3 + (nI 1)))] (v_I v1 74 9 x3) Q)))))))) : RV E (d + 1) 16 20 [(0, .ref 74), (3, .int x3)] v Q := by
  unfold RV
  refine xr_blk (lv1 := [(0, .ref 74), (3, .int x3)]) (st1 := [.int (gI v 74 8), .int x3]) (S1 := rt v) (pc1 := 25) [(.iload_n 3, .null, 0, 0), (.aload_n 0, .null, 0, 0), (.getfield 28, .null, 2, 8)] [] (by decide +kernel) rfl trivial ?_
  refine xr_ic_gt (tgt := 56) (off := 31) (by decide +kernel) (by decide) (fun hc => ?_) (fun hc => ?_)
  · replace h := h.1 hc
    exact xr_ret0 (by decide +kernel) rfl ⟨_, rfl, rfl, h⟩
  · replace h := h.2 hc
    refine xr_blk (lv1 := [(0, .ref 74), (3, .int x3)]) (st1 := [.int (gI v 74 9)]) (S1 := rt v) (pc1 := 32) [(.aload_n 0, .null, 0, 0), (.getfield 31, .null, 2, 9)] [] (by decide +kernel) rfl trivial ?_
    refine xr_if_ne (tgt := 56) (off := 24) (by decide +kernel) (by decide) (fun hc => ?_) (fun hc => ?_)
    · replace h := h.1 hc
      exact xr_ret0 (by decide +kernel) rfl ⟨_, rfl, rfl, h⟩
    · replace h := h.2 hc
      refine xr_blk (lv1 := [(0, .ref 74), (3, .int x3)]) (st1 := [.int x3, .int (nI 0), .int (nI 0), .ref 74]) (S1 := rt v) (pc1 := 39) [(.aload_n 0, .null, 0, 0), (.iconst 0, .int (nI 0), 0, 0), (.iconst 0, .int (nI 0), 0, 0), (.iload_n 3, .null, 0, 0)] [] (by decide +kernel) rfl trivial ?_
      refine xk_VI (As := [.int (nI 0), .int (nI 0), .int x3]) (bb := 74) (rest := []) (idx := 82) (i0 := 82) (m1 := 20) (ps := [1210, 1212, 51]) (by decide +kernel) (by decide +kernel) (by decide) rfl ((gK_s (by decide)).trans (by decide +kernel)) (by decide) (Nat.le_of_ble_eq_true rfl) rfl h (fun y2 v1 h => ?_)
      refine xr_if_eq (tgt := 50) (off := 8) (by decide +kernel) (by decide) (fun hc => ?_) (fun hc => ?_)
      · replace h := h.1 hc
        refine xr_blk (lv1 := [(3, .int (x3 + (nI 1))), (0, .ref 74)]) (st1 := []) (S1 := rt v1) (pc1 := 53) [(.iinc 3 1, .int (nI 1), 0, 0)] [] (by decide +kernel) rfl trivial ?_
        refine xr_goto (tgt := 20) (off := -33) (by decide +kernel) (by decide) ?_
        exact x_R.sub [1, 0] rfl h
      · replace h := h.2 hc
        refine xr_blk (lv1 := [(3, .int (x3 + (nI 1))), (0, .ref 74)]) (st1 := []) (S1 := rt (v_I v1 74 9 x3)) (pc1 := 53) [(.aload_n 0, .null, 0, 0), (.iload_n 3, .null, 0, 0), (.putfield 31, .null, 2, 9), (.iinc 3 1, .int (nI 1), 0, 0)] [] (by decide +kernel) rfl trivial ?_
        refine xr_goto (tgt := 20) (off := -33) (by decide +kernel) (by decide) ?_
        exact x_R.sub [1, 0] rfl h
theorem ok_16 : x_mOK 16 := ⟨x_tm5 (List.mem_of_getElem? (i := 136) rfl) rfl, 113, by decide +kernel⟩
/-! X2_gatherMembers: method 17, ScrawlHouse$Folk.gatherMembers(II)V -/
set_option maxRecDepth 100000 in
theorem w_X2_gatherMembers_0 {E : Nat × (Nat → Int32)} {d : Nat} {v : xV} {x1 : Int32} {x2 : Int32} {Q : xV → Prop} (h : RV E (d + 1) 17 7 [(0, .ref 74), (1, .int x1), (2, .int x2), (3, .int (nI 0))] (v_I v 74 8 (nI 0)) Q) : RV E (d + 1) 17 0 [(0, .ref 74), (1, .int x1), (2, .int x2)] v Q := by
  unfold RV
  refine xr_blk (lv1 := [(3, .int (nI 0)), (0, .ref 74), (1, .int x1), (2, .int x2)]) (st1 := []) (S1 := rt (v_I v 74 8 (nI 0))) (pc1 := 7) [(.aload_n 0, .null, 0, 0), (.iconst 0, .int (nI 0), 0, 0), (.putfield 28, .null, 2, 8), (.iconst 0, .int (nI 0), 0, 0), (.istore_n 3, .null, 0, 0)] [] (by decide +kernel) rfl trivial ?_
  exact x_R.sub [1, 2, 3, 0] rfl h
set_option maxRecDepth 100000 in
theorem w_X2_gatherMembers_7 {E : Nat × (Nat → Int32)} {d : Nat} {v : xV} {x1 : Int32} {x2 : Int32} {x3 : Int32} {Q : xV → Prop} (h : ((x2 ≤ x3 → Q v) ∧ (¬ x2 ≤ x3 → (((nI 10) ≤ (gI v 74 8) → Q v) ∧ (¬ (nI 10) ≤ (gI v 74 8) → KI E d 74 [.ref 38, .int x3, .int (nI 0)] v (fun y2 v1 => ((¬ y2 = x1 → RV E (d + 1) 17 7 [(0, .ref 74), (1, .int x1), (2, .int x2), (3, .int (x3 + (nI 1)))] v1 Q) ∧ (y2 = x1 → vp_in (gI v1 74 8) 10 ∧ KI E d 18 [.ref 74, .int x3] (v_A v1 76 (upd (gA v1 76) ((gI v1 74 8)).toNatClampNeg x3)) (fun y5 v4 => vp_in (gI v1 74 8) 10 ∧ RV E (d + 1) 17 7 [(0, .ref 74), (1, .int x1), (2, .int x2), (3, .int (x3 + (nI 1)))] (v_I (v_A v4 77 (upd (gA v4 77) ((gI v1 74 8)).toNatClampNeg y5)) 74 8 ((gI v4 74 8) + (nI 1))) Q))))))))) : RV E (d + 1) 17 7 [(0, .ref 74), (1, .int x1), (2, .int x2), (3, .int x3)] v Q := by
  unfold RV
  refine xr_blk (lv1 := [(0, .ref 74), (1, .int x1), (2, .int x2), (3, .int x3)]) (st1 := [.int x2, .int x3]) (S1 := rt v) (pc1 := 9) [(.iload_n 3, .null, 0, 0), (.iload_n 2, .null, 0, 0)] [] (by decide +kernel) rfl trivial ?_
  refine xr_ic_ge (tgt := 74) (off := 65) (by decide +kernel) (by decide) (fun hc => ?_) (fun hc => ?_)
  · replace h := h.1 hc
    exact xr_ret0 (by decide +kernel) rfl ⟨_, rfl, rfl, h⟩
  · replace h := h.2 hc
    refine xr_blk (lv1 := [(0, .ref 74), (1, .int x1), (2, .int x2), (3, .int x3)]) (st1 := [.int (nI 10), .int (gI v 74 8)]) (S1 := rt v) (pc1 := 18) [(.aload_n 0, .null, 0, 0), (.getfield 28, .null, 2, 8), (.bipush 10, .int (nI 10), 0, 0)] [] (by decide +kernel) rfl trivial ?_
    refine xr_ic_ge (tgt := 74) (off := 56) (by decide +kernel) (by decide) (fun hc => ?_) (fun hc => ?_)
    · replace h := h.1 hc
      exact xr_ret0 (by decide +kernel) rfl ⟨_, rfl, rfl, h⟩
    · replace h := h.2 hc
      refine xr_blk (lv1 := [(0, .ref 74), (1, .int x1), (2, .int x2), (3, .int x3)]) (st1 := [.int (nI 0), .int x3, .ref 38]) (S1 := rt v) (pc1 := 27) [(.aload_n 0, .null, 0, 0), (.getfield 38, .null, 2, 1), (.iload_n 3, .null, 0, 0), (.iconst 0, .int (nI 0), 0, 0)] [] (by decide +kernel) rfl trivial ?_
      refine xk_VI (As := [.int x3, .int (nI 0)]) (bb := 38) (rest := []) (idx := 86) (i0 := 86) (m1 := 74) (ps := [1201, 995, 996]) (by decide +kernel) (by decide +kernel) (by decide) rfl ((gK_s (by decide)).trans (by decide +kernel)) (by decide) (Nat.le_of_ble_eq_true rfl) rfl h (fun y2 v1 h => ?_)
      refine xr_blk (lv1 := [(0, .ref 74), (1, .int x1), (2, .int x2), (3, .int x3)]) (st1 := [.int x1, .int y2]) (S1 := rt v1) (pc1 := 31) [(.iload_n 1, .null, 0, 0)] [] (by decide +kernel) rfl trivial ?_
      refine xr_ic_ne (tgt := 68) (off := 37) (by decide +kernel) (by decide) (fun hc => ?_) (fun hc => ?_)
      · replace h := h.1 hc
        refine xr_blk (lv1 := [(3, .int (x3 + (nI 1))), (0, .ref 74), (1, .int x1), (2, .int x2)]) (st1 := []) (S1 := rt v1) (pc1 := 71) [(.iinc 3 1, .int (nI 1), 0, 0)] [] (by decide +kernel) rfl trivial ?_
        refine xr_goto (tgt := 7) (off := -64) (by decide +kernel) (by decide) ?_
        exact x_R.sub [1, 2, 3, 0] rfl h
      · replace h := h.2 hc
        obtain ⟨hb3, h⟩ := h
        refine xr_blk (lv1 := [(0, .ref 74), (1, .int x1), (2, .int x2), (3, .int x3)]) (st1 := [.int x3, .ref 74, .int (gI v1 74 8), .ref 77]) (S1 := rt (v_A v1 76 (upd (gA v1 76) ((gI v1 74 8)).toNatClampNeg x3))) (pc1 := 54) [(.aload_n 0, .null, 0, 0), (.getfield 19, .null, 2, 5), (.aload_n 0, .null, 0, 0), (.getfield 28, .null, 2, 8), (.iload_n 3, .null, 0, 0), (.iastore, .null, 0, 0), (.aload_n 0, .null, 0, 0), (.getfield 22, .null, 2, 6), (.aload_n 0, .null, 0, 0), (.getfield 28, .null, 2, 8), (.aload_n 0, .null, 0, 0), (.iload_n 3, .null, 0, 0)] [((gI v1 74 8), 10)] (by decide +kernel) rfl ⟨hb3, trivial⟩ ?_
        refine xk_VI (As := [.int x3]) (bb := 74) (rest := [.int (gI v1 74 8), .ref 77]) (idx := 89) (i0 := 89) (m1 := 18) (ps := [1202, 1204, 49]) (by decide +kernel) (by decide +kernel) (by decide) rfl ((gK_s (by decide)).trans (by decide +kernel)) (by decide) (Nat.le_of_ble_eq_true rfl) rfl h (fun y5 v4 h => ?_)
        obtain ⟨hb6, h⟩ := h
        refine xr_blk (lv1 := [(3, .int (x3 + (nI 1))), (0, .ref 74), (1, .int x1), (2, .int x2)]) (st1 := []) (S1 := rt (v_I (v_A v4 77 (upd (gA v4 77) ((gI v1 74 8)).toNatClampNeg y5)) 74 8 ((gI v4 74 8) + (nI 1)))) (pc1 := 71) [(.iastore, .null, 0, 0), (.aload_n 0, .null, 0, 0), (.dup, .null, 0, 0), (.getfield 28, .null, 2, 8), (.iconst 1, .int (nI 1), 0, 0), (.iadd, .null, 0, 0), (.putfield 28, .null, 2, 8), (.iinc 3 1, .int (nI 1), 0, 0)] [((gI v1 74 8), 10)] (by decide +kernel) rfl ⟨hb6, trivial⟩ ?_
        refine xr_goto (tgt := 7) (off := -64) (by decide +kernel) (by decide) ?_
        exact x_R.sub [1, 2, 3, 0] rfl h
theorem ok_17 : x_mOK 17 := ⟨x_tm5 (List.mem_of_getElem? (i := 140) rfl) rfl, 113, by decide +kernel⟩
/-! X2_clashesOf: method 18, ScrawlHouse$Folk.clashesOf(I)I -/
set_option maxRecDepth 100000 in
theorem w_X2_clashesOf_0 {E : Nat × (Nat → Int32)} {d : Nat} {v : xV} {x1 : Int32} {Q : Int32 → xV → Prop} (h : RI E (d + 1) 18 4 [(0, .ref 74), (1, .int x1), (2, .int (nI 0)), (3, .int (nI 0))] v Q) : RI E (d + 1) 18 0 [(0, .ref 74), (1, .int x1)] v Q := by
  unfold RI
  refine xr_blk (lv1 := [(3, .int (nI 0)), (2, .int (nI 0)), (0, .ref 74), (1, .int x1)]) (st1 := []) (S1 := rt v) (pc1 := 4) [(.iconst 0, .int (nI 0), 0, 0), (.istore_n 2, .null, 0, 0), (.iconst 0, .int (nI 0), 0, 0), (.istore_n 3, .null, 0, 0)] [] (by decide +kernel) rfl trivial ?_
  exact x_R.sub [2, 3, 1, 0] rfl h
set_option maxRecDepth 100000 in
theorem w_X2_clashesOf_4 {E : Nat × (Nat → Int32)} {d : Nat} {v : xV} {x1 : Int32} {x2 : Int32} {x3 : Int32} {Q : Int32 → xV → Prop} (h : (((gI v 74 8) ≤ x3 → Q x2 v) ∧ (¬ (gI v 74 8) ≤ x3 → vp_in x3 10 ∧ KI E d 19 [.ref 74, .int ((gA v 76) (x3).toNatClampNeg), .int x1] v (fun y3 v2 => ((y3 = (nI 0) → RI E (d + 1) 18 4 [(0, .ref 74), (1, .int x1), (2, .int x2), (3, .int (x3 + (nI 1)))] v2 Q) ∧ (¬ y3 = (nI 0) → ∀ y4 : Int32, y4 = (x2 ||| ((nI 1) <<< (x3 &&& 31))) → RI E (d + 1) 18 4 [(0, .ref 74), (1, .int x1), (2, .int y4), (3, .int (x3 + (nI 1)))] v2 Q)))))) : RI E (d + 1) 18 4 [(0, .ref 74), (1, .int x1), (2, .int x2), (3, .int x3)] v Q := by
  unfold RI
  refine xr_blk (lv1 := [(0, .ref 74), (1, .int x1), (2, .int x2), (3, .int x3)]) (st1 := [.int (gI v 74 8), .int x3]) (S1 := rt v) (pc1 := 9) [(.iload_n 3, .null, 0, 0), (.aload_n 0, .null, 0, 0), (.getfield 28, .null, 2, 8)] [] (by decide +kernel) rfl trivial ?_
  refine xr_ic_ge (tgt := 38) (off := 29) (by decide +kernel) (by decide) (fun hc => ?_) (fun hc => ?_)
  · replace h := h.1 hc
    refine xr_blk (lv1 := [(0, .ref 74), (1, .int x1), (2, .int x2), (3, .int x3)]) (st1 := [.int x2]) (S1 := rt v) (pc1 := 39) [(.iload_n 2, .null, 0, 0)] [] (by decide +kernel) rfl trivial ?_
    exact xr_iret (by decide +kernel) rfl ⟨_, _, rfl, rfl, h⟩
  · replace h := h.2 hc
    obtain ⟨hb1, h⟩ := h
    refine xr_blk (lv1 := [(0, .ref 74), (1, .int x1), (2, .int x2), (3, .int x3)]) (st1 := [.int x1, .int ((gA v 76) (x3).toNatClampNeg), .ref 74]) (S1 := rt v) (pc1 := 20) [(.aload_n 0, .null, 0, 0), (.aload_n 0, .null, 0, 0), (.getfield 19, .null, 2, 5), (.iload_n 3, .null, 0, 0), (.iaload, .null, 0, 0), (.iload_n 1, .null, 0, 0)] [(x3, 10)] (by decide +kernel) rfl ⟨hb1, trivial⟩ ?_
    refine xk_VI (As := [.int ((gA v 76) (x3).toNatClampNeg), .int x1]) (bb := 74) (rest := []) (idx := 92) (i0 := 92) (m1 := 19) (ps := [1206, 1208, 50]) (by decide +kernel) (by decide +kernel) (by decide) rfl ((gK_s (by decide)).trans (by decide +kernel)) (by decide) (Nat.le_of_ble_eq_true rfl) rfl h (fun y3 v2 h => ?_)
    refine xr_if_eq (tgt := 32) (off := 9) (by decide +kernel) (by decide) (fun hc => ?_) (fun hc => ?_)
    · replace h := h.1 hc
      refine xr_blk (lv1 := [(3, .int (x3 + (nI 1))), (0, .ref 74), (1, .int x1), (2, .int x2)]) (st1 := []) (S1 := rt v2) (pc1 := 35) [(.iinc 3 1, .int (nI 1), 0, 0)] [] (by decide +kernel) rfl trivial ?_
      refine xr_goto (tgt := 4) (off := -31) (by decide +kernel) (by decide) ?_
      exact x_R.sub [1, 2, 3, 0] rfl h
    · replace h := h.2 hc
      refine xr_blk (lv1 := [(0, .ref 74), (1, .int x1), (2, .int x2), (3, .int x3)]) (st1 := [.int (x2 ||| ((nI 1) <<< (x3 &&& 31)))]) (S1 := rt v2) (pc1 := 31) [(.iload_n 2, .null, 0, 0), (.iconst 1, .int (nI 1), 0, 0), (.iload_n 3, .null, 0, 0), (.ishl, .null, 0, 0), (.ior, .null, 0, 0)] [] (by decide +kernel) rfl trivial ?_
      refine xr_topi (fun y4 ey4 => ?_)
      replace h := h y4 ey4
      refine xr_blk (lv1 := [(3, .int (x3 + (nI 1))), (2, .int y4), (0, .ref 74), (1, .int x1)]) (st1 := []) (S1 := rt v2) (pc1 := 35) [(.istore_n 2, .null, 0, 0), (.iinc 3 1, .int (nI 1), 0, 0)] [] (by decide +kernel) rfl trivial ?_
      refine xr_goto (tgt := 4) (off := -31) (by decide +kernel) (by decide) ?_
      exact x_R.sub [2, 3, 1, 0] rfl h
theorem ok_18 : x_mOK 18 := ⟨x_tm5 (List.mem_of_getElem? (i := 145) rfl) rfl, 113, by decide +kernel⟩
/-! X2_cantBeOne: method 19, ScrawlHouse$Folk.cantBeOne(II)Z -/
set_option maxRecDepth 100000 in
theorem w_X2_cantBeOne_0 {E : Nat × (Nat → Int32)} {d : Nat} {v : xV} {x1 : Int32} {x2 : Int32} {Q : Int32 → xV → Prop} (h : KI E d 74 [.ref 38, .int x1, .int (nI 1)] v (fun y2 v1 => KI E d 74 [.ref 38, .int x2, .int (nI 1)] v1 (fun y4 v3 => ((y2 = (-1 : Int32) → RI E (d + 1) 19 38 [(0, .ref 74), (1, .int x1), (2, .int x2)] v3 Q) ∧ (¬ y2 = (-1 : Int32) → ((y4 = (-1 : Int32) → RI E (d + 1) 19 38 [(0, .ref 74), (1, .int x1), (2, .int x2)] v3 Q) ∧ (¬ y4 = (-1 : Int32) → ((¬ y2 = y4 → Q (nI 1) v3) ∧ (y2 = y4 → RI E (d + 1) 19 38 [(0, .ref 74), (1, .int x1), (2, .int x2)] v3 Q))))))))) : RI E (d + 1) 19 0 [(0, .ref 74), (1, .int x1), (2, .int x2)] v Q := by
  unfold RI
  refine xr_blk (lv1 := [(0, .ref 74), (1, .int x1), (2, .int x2)]) (st1 := [.int (nI 1), .int x1, .ref 38]) (S1 := rt v) (pc1 := 6) [(.aload_n 0, .null, 0, 0), (.getfield 38, .null, 2, 1), (.iload_n 1, .null, 0, 0), (.iconst 1, .int (nI 1), 0, 0)] [] (by decide +kernel) rfl trivial ?_
  refine xk_VI (As := [.int x1, .int (nI 1)]) (bb := 38) (rest := []) (idx := 86) (i0 := 86) (m1 := 74) (ps := [1201, 995, 996]) (by decide +kernel) (by decide +kernel) (by decide) rfl ((gK_s (by decide)).trans (by decide +kernel)) (by decide) (Nat.le_of_ble_eq_true rfl) rfl h (fun y2 v1 h => ?_)
  refine xr_blk (lv1 := [(3, .int y2), (0, .ref 74), (1, .int x1), (2, .int x2)]) (st1 := [.int (nI 1), .int x2, .ref 38]) (S1 := rt v1) (pc1 := 16) [(.istore_n 3, .null, 0, 0), (.aload_n 0, .null, 0, 0), (.getfield 38, .null, 2, 1), (.iload_n 2, .null, 0, 0), (.iconst 1, .int (nI 1), 0, 0)] [] (by decide +kernel) rfl trivial ?_
  refine xk_VI (As := [.int x2, .int (nI 1)]) (bb := 38) (rest := []) (idx := 86) (i0 := 86) (m1 := 74) (ps := [1201, 995, 996]) (by decide +kernel) (by decide +kernel) (by decide) rfl ((gK_s (by decide)).trans (by decide +kernel)) (by decide) (Nat.le_of_ble_eq_true rfl) rfl h (fun y4 v3 h => ?_)
  refine xr_blk (lv1 := [(4, .int y4), (3, .int y2), (0, .ref 74), (1, .int x1), (2, .int x2)]) (st1 := [.int (-1), .int y2]) (S1 := rt v3) (pc1 := 23) [(.istore 4, .null, 0, 0), (.iload_n 3, .null, 0, 0), (.iconst (-1), .int (-1), 0, 0)] [] (by decide +kernel) rfl trivial ?_
  refine xr_ic_eq (tgt := 38) (off := 15) (by decide +kernel) (by decide) (fun hc => ?_) (fun hc => ?_)
  · replace h := h.1 hc
    exact x_R.sub [2, 3, 4] rfl h
  · replace h := h.2 hc
    refine xr_blk (lv1 := [(4, .int y4), (3, .int y2), (0, .ref 74), (1, .int x1), (2, .int x2)]) (st1 := [.int (-1), .int y4]) (S1 := rt v3) (pc1 := 29) [(.iload 4, .null, 0, 0), (.iconst (-1), .int (-1), 0, 0)] [] (by decide +kernel) rfl trivial ?_
    refine xr_ic_eq (tgt := 38) (off := 9) (by decide +kernel) (by decide) (fun hc => ?_) (fun hc => ?_)
    · replace h := h.1 hc
      exact x_R.sub [2, 3, 4] rfl h
    · replace h := h.2 hc
      refine xr_blk (lv1 := [(4, .int y4), (3, .int y2), (0, .ref 74), (1, .int x1), (2, .int x2)]) (st1 := [.int y4, .int y2]) (S1 := rt v3) (pc1 := 35) [(.iload_n 3, .null, 0, 0), (.iload 4, .null, 0, 0)] [] (by decide +kernel) rfl trivial ?_
      refine xr_ic_ne (tgt := 50) (off := 15) (by decide +kernel) (by decide) (fun hc => ?_) (fun hc => ?_)
      · replace h := h.1 hc
        refine xr_blk (lv1 := [(4, .int y4), (3, .int y2), (0, .ref 74), (1, .int x1), (2, .int x2)]) (st1 := [.int (nI 1)]) (S1 := rt v3) (pc1 := 51) [(.iconst 1, .int (nI 1), 0, 0)] [] (by decide +kernel) rfl trivial ?_
        refine xr_goto (tgt := 55) (off := 4) (by decide +kernel) (by decide) ?_
        exact xr_zret (by decide +kernel) rfl x_in2_1 ⟨_, _, rfl, rfl, h⟩
      · replace h := h.2 hc
        exact x_R.sub [2, 3, 4] rfl h
set_option maxRecDepth 100000 in
theorem w_X2_cantBeOne_38 {E : Nat × (Nat → Int32)} {d : Nat} {v : xV} {x1 : Int32} {x2 : Int32} {Q : Int32 → xV → Prop} (h : KI E d 93 [.ref 67, .int x1, .int x2] v (fun y2 v1 => ((y2 = (nI 0) → Q (nI 0) v1) ∧ (¬ y2 = (nI 0) → Q (nI 1) v1)))) : RI E (d + 1) 19 38 [(0, .ref 74), (1, .int x1), (2, .int x2)] v Q := by
  unfold RI
  refine xr_blk (lv1 := [(0, .ref 74), (1, .int x1), (2, .int x2)]) (st1 := [.int x2, .int x1, .ref 67]) (S1 := rt v) (pc1 := 44) [(.aload_n 0, .null, 0, 0), (.getfield 42, .null, 2, 2), (.iload_n 1, .null, 0, 0), (.iload_n 2, .null, 0, 0)] [] (by decide +kernel) rfl trivial ?_
  refine xk_VI (As := [.int x1, .int x2]) (bb := 67) (rest := []) (idx := 73) (i0 := 73) (m1 := 93) (ps := [1143, 1144, 1145]) (by decide +kernel) (by decide +kernel) (by decide) rfl ((gK_s (by decide)).trans (by decide +kernel)) (by decide) (Nat.le_of_ble_eq_true rfl) rfl h (fun y2 v1 h => ?_)
  refine xr_if_eq (tgt := 54) (off := 7) (by decide +kernel) (by decide) (fun hc => ?_) (fun hc => ?_)
  · replace h := h.1 hc
    refine xr_blk (lv1 := [(0, .ref 74), (1, .int x1), (2, .int x2)]) (st1 := [.int (nI 0)]) (S1 := rt v1) (pc1 := 55) [(.iconst 0, .int (nI 0), 0, 0)] [] (by decide +kernel) rfl trivial ?_
    exact xr_zret (by decide +kernel) rfl x_in2_0 ⟨_, _, rfl, rfl, h⟩
  · replace h := h.2 hc
    refine xr_blk (lv1 := [(0, .ref 74), (1, .int x1), (2, .int x2)]) (st1 := [.int (nI 1)]) (S1 := rt v1) (pc1 := 51) [(.iconst 1, .int (nI 1), 0, 0)] [] (by decide +kernel) rfl trivial ?_
    refine xr_goto (tgt := 55) (off := 4) (by decide +kernel) (by decide) ?_
    exact xr_zret (by decide +kernel) rfl x_in2_1 ⟨_, _, rfl, rfl, h⟩
theorem ok_19 : x_mOK 19 := ⟨x_tm5 (List.mem_of_getElem? (i := 149) rfl) rfl, 113, by decide +kernel⟩
/-! X2_canNumber: method 20, ScrawlHouse$Folk.canNumber(III)Z -/
set_option maxRecDepth 100000 in
theorem w_X2_canNumber_0 {E : Nat × (Nat → Int32)} {d : Nat} {v : xV} {x1 : Int32} {x2 : Int32} {x3 : Int32} {Q : Int32 → xV → Prop} (h : (((gI v 74 8) ≤ x1 → Q (nI 1) v) ∧ (¬ (gI v 74 8) ≤ x1 → ((x1 < (nI 10) → RI E (d + 1) 20 19 [(0, .ref 74), (1, .int x1), (2, .int x2), (3, .int x3), (4, .int (nI 0))] v Q) ∧ (¬ x1 < (nI 10) → Q (nI 1) v))))) : RI E (d + 1) 20 0 [(0, .ref 74), (1, .int x1), (2, .int x2), (3, .int x3)] v Q := by
  unfold RI
  refine xr_blk (lv1 := [(0, .ref 74), (1, .int x1), (2, .int x2), (3, .int x3)]) (st1 := [.int (gI v 74 8), .int x1]) (S1 := rt v) (pc1 := 5) [(.iload_n 1, .null, 0, 0), (.aload_n 0, .null, 0, 0), (.getfield 28, .null, 2, 8)] [] (by decide +kernel) rfl trivial ?_
  refine xr_ic_ge (tgt := 14) (off := 9) (by decide +kernel) (by decide) (fun hc => ?_) (fun hc => ?_)
  · replace h := h.1 hc
    refine xr_blk (lv1 := [(0, .ref 74), (1, .int x1), (2, .int x2), (3, .int x3)]) (st1 := [.int (nI 1)]) (S1 := rt v) (pc1 := 15) [(.iconst 1, .int (nI 1), 0, 0)] [] (by decide +kernel) rfl trivial ?_
    exact xr_zret (by decide +kernel) rfl x_in2_1 ⟨_, _, rfl, rfl, h⟩
  · replace h := h.2 hc
    refine xr_blk (lv1 := [(0, .ref 74), (1, .int x1), (2, .int x2), (3, .int x3)]) (st1 := [.int (nI 10), .int x1]) (S1 := rt v) (pc1 := 11) [(.iload_n 1, .null, 0, 0), (.bipush 10, .int (nI 10), 0, 0)] [] (by decide +kernel) rfl trivial ?_
    refine xr_ic_lt (tgt := 16) (off := 5) (by decide +kernel) (by decide) (fun hc => ?_) (fun hc => ?_)
    · replace h := h.1 hc
      refine xr_blk (lv1 := [(4, .int (nI 0)), (0, .ref 74), (1, .int x1), (2, .int x2), (3, .int x3)]) (st1 := []) (S1 := rt v) (pc1 := 19) [(.iconst 0, .int (nI 0), 0, 0), (.istore 4, .null, 0, 0)] [] (by decide +kernel) rfl trivial ?_
      exact x_R.sub [1, 2, 3, 4, 0] rfl h
    · replace h := h.2 hc
      refine xr_blk (lv1 := [(0, .ref 74), (1, .int x1), (2, .int x2), (3, .int x3)]) (st1 := [.int (nI 1)]) (S1 := rt v) (pc1 := 15) [(.iconst 1, .int (nI 1), 0, 0)] [] (by decide +kernel) rfl trivial ?_
      exact xr_zret (by decide +kernel) rfl x_in2_1 ⟨_, _, rfl, rfl, h⟩
set_option maxRecDepth 100000 in
theorem w_X2_canNumber_19 {E : Nat × (Nat → Int32)} {d : Nat} {v : xV} {x1 : Int32} {x2 : Int32} {x3 : Int32} {x4 : Int32} {Q : Int32 → xV → Prop} (h : ((x2 < x4 → Q (nI 0) v) ∧ (¬ x2 < x4 → ((x3 ≤ x4 → Q (nI 0) v) ∧ (¬ x3 ≤ x4 → KI E d 21 [.ref 74, .int x1, .int x4] v (fun y2 v1 => ((y2 = (nI 0) → RI E (d + 1) 20 19 [(0, .ref 74), (1, .int x1), (2, .int x2), (3, .int x3), (4, .int (x4 + (nI 1)))] v1 Q) ∧ (¬ y2 = (nI 0) → vp_in x1 10 ∧ KI E d 20 [.ref 74, .int (x1 + (nI 1)), .int (if x2 < (x4 + (nI 1)) then (x4 + (nI 1)) else x2), .int x3] (v_A v1 78 (upd (gA v1 78) (x1).toNatClampNeg x4)) (fun y5 v4 => ((y5 = (nI 0) → RI E (d + 1) 20 19 [(0, .ref 74), (1, .int x1), (2, .int x2), (3, .int x3), (4, .int (x4 + (nI 1)))] v4 Q) ∧ (¬ y5 = (nI 0) → Q (nI 1) v4))))))))))) : RI E (d + 1) 20 19 [(0, .ref 74), (1, .int x1), (2, .int x2), (3, .int x3), (4, .int x4)] v Q := by
  unfold RI
  refine xr_blk (lv1 := [(0, .ref 74), (1, .int x1), (2, .int x2), (3, .int x3), (4, .int x4)]) (st1 := [.int x2, .int x4]) (S1 := rt v) (pc1 := 22) [(.iload 4, .null, 0, 0), (.iload_n 2, .null, 0, 0)] [] (by decide +kernel) rfl trivial ?_
  refine xr_ic_gt (tgt := 76) (off := 54) (by decide +kernel) (by decide) (fun hc => ?_) (fun hc => ?_)
  · replace h := h.1 hc
    refine xr_blk (lv1 := [(0, .ref 74), (1, .int x1), (2, .int x2), (3, .int x3), (4, .int x4)]) (st1 := [.int (nI 0)]) (S1 := rt v) (pc1 := 77) [(.iconst 0, .int (nI 0), 0, 0)] [] (by decide +kernel) rfl trivial ?_
    exact xr_zret (by decide +kernel) rfl x_in2_0 ⟨_, _, rfl, rfl, h⟩
  · replace h := h.2 hc
    refine xr_blk (lv1 := [(0, .ref 74), (1, .int x1), (2, .int x2), (3, .int x3), (4, .int x4)]) (st1 := [.int x3, .int x4]) (S1 := rt v) (pc1 := 28) [(.iload 4, .null, 0, 0), (.iload_n 3, .null, 0, 0)] [] (by decide +kernel) rfl trivial ?_
    refine xr_ic_ge (tgt := 76) (off := 48) (by decide +kernel) (by decide) (fun hc => ?_) (fun hc => ?_)
    · replace h := h.1 hc
      refine xr_blk (lv1 := [(0, .ref 74), (1, .int x1), (2, .int x2), (3, .int x3), (4, .int x4)]) (st1 := [.int (nI 0)]) (S1 := rt v) (pc1 := 77) [(.iconst 0, .int (nI 0), 0, 0)] [] (by decide +kernel) rfl trivial ?_
      exact xr_zret (by decide +kernel) rfl x_in2_0 ⟨_, _, rfl, rfl, h⟩
    · replace h := h.2 hc
      refine xr_blk (lv1 := [(0, .ref 74), (1, .int x1), (2, .int x2), (3, .int x3), (4, .int x4)]) (st1 := [.int x4, .int x1, .ref 74]) (S1 := rt v) (pc1 := 35) [(.aload_n 0, .null, 0, 0), (.iload_n 1, .null, 0, 0), (.iload 4, .null, 0, 0)] [] (by decide +kernel) rfl trivial ?_
      refine xk_VI (As := [.int x1, .int x4]) (bb := 74) (rest := []) (idx := 95) (i0 := 95) (m1 := 21) (ps := [1214, 1216, 52]) (by decide +kernel) (by decide +kernel) (by decide) rfl ((gK_s (by decide)).trans (by decide +kernel)) (by decide) (Nat.le_of_ble_eq_true rfl) rfl h (fun y2 v1 h => ?_)
      refine xr_if_eq (tgt := 70) (off := 32) (by decide +kernel) (by decide) (fun hc => ?_) (fun hc => ?_)
      · replace h := h.1 hc
        refine xr_blk (lv1 := [(4, .int (x4 + (nI 1))), (0, .ref 74), (1, .int x1), (2, .int x2), (3, .int x3)]) (st1 := []) (S1 := rt v1) (pc1 := 73) [(.iinc 4 1, .int (nI 1), 0, 0)] [] (by decide +kernel) rfl trivial ?_
        refine xr_goto (tgt := 19) (off := -54) (by decide +kernel) (by decide) ?_
        exact x_R.sub [1, 2, 3, 4, 0] rfl h
      · replace h := h.2 hc
        obtain ⟨hb3, h⟩ := h
        refine xr_blk (lv1 := [(0, .ref 74), (1, .int x1), (2, .int x2), (3, .int x3), (4, .int x4)]) (st1 := [.int (x4 + (nI 1)), .int x2, .int (x1 + (nI 1)), .ref 74]) (S1 := rt (v_A v1 78 (upd (gA v1 78) (x1).toNatClampNeg x4))) (pc1 := 58) [(.aload_n 0, .null, 0, 0), (.getfield 25, .null, 2, 7), (.iload_n 1, .null, 0, 0), (.iload 4, .null, 0, 0), (.iastore, .null, 0, 0), (.aload_n 0, .null, 0, 0), (.iload_n 1, .null, 0, 0), (.iconst 1, .int (nI 1), 0, 0), (.iadd, .null, 0, 0), (.iload_n 2, .null, 0, 0), (.iload 4, .null, 0, 0), (.iconst 1, .int (nI 1), 0, 0), (.iadd, .null, 0, 0)] [(x1, 10)] (by decide +kernel) rfl ⟨hb3, trivial⟩ ?_
        refine xr_mmax (idx := 60) (i0 := 60) (ps := [1147, 963]) (by decide +kernel) (by decide +kernel) (by decide) (Nat.le_of_ble_eq_true rfl) ?_
        refine xr_blk (lv1 := [(0, .ref 74), (1, .int x1), (2, .int x2), (3, .int x3), (4, .int x4)]) (st1 := [.int x3, .int (if x2 < (x4 + (nI 1)) then (x4 + (nI 1)) else x2), .int (x1 + (nI 1)), .ref 74]) (S1 := rt (v_A v1 78 (upd (gA v1 78) (x1).toNatClampNeg x4))) (pc1 := 62) [(.iload_n 3, .null, 0, 0)] [] (by decide +kernel) rfl trivial ?_
        refine xk_VI (As := [.int (x1 + (nI 1)), .int (if x2 < (x4 + (nI 1)) then (x4 + (nI 1)) else x2), .int x3]) (bb := 74) (rest := []) (idx := 82) (i0 := 82) (m1 := 20) (ps := [1210, 1212, 51]) (by decide +kernel) (by decide +kernel) (by decide) rfl ((gK_s (by decide)).trans (by decide +kernel)) (by decide) (Nat.le_of_ble_eq_true rfl) rfl h (fun y5 v4 h => ?_)
        refine xr_if_eq (tgt := 70) (off := 5) (by decide +kernel) (by decide) (fun hc => ?_) (fun hc => ?_)
        · replace h := h.1 hc
          refine xr_blk (lv1 := [(4, .int (x4 + (nI 1))), (0, .ref 74), (1, .int x1), (2, .int x2), (3, .int x3)]) (st1 := []) (S1 := rt v4) (pc1 := 73) [(.iinc 4 1, .int (nI 1), 0, 0)] [] (by decide +kernel) rfl trivial ?_
          refine xr_goto (tgt := 19) (off := -54) (by decide +kernel) (by decide) ?_
          exact x_R.sub [1, 2, 3, 4, 0] rfl h
        · replace h := h.2 hc
          refine xr_blk (lv1 := [(0, .ref 74), (1, .int x1), (2, .int x2), (3, .int x3), (4, .int x4)]) (st1 := [.int (nI 1)]) (S1 := rt v4) (pc1 := 69) [(.iconst 1, .int (nI 1), 0, 0)] [] (by decide +kernel) rfl trivial ?_
          exact xr_zret (by decide +kernel) rfl x_in2_1 ⟨_, _, rfl, rfl, h⟩
theorem ok_20 : x_mOK 20 := ⟨x_tm5 (List.mem_of_getElem? (i := 153) rfl) rfl, 113, by decide +kernel⟩
/-! X2_mayJoin: method 21, ScrawlHouse$Folk.mayJoin(II)Z -/
set_option maxRecDepth 100000 in
theorem w_X2_mayJoin_0 {E : Nat × (Nat → Int32)} {d : Nat} {v : xV} {x1 : Int32} {x2 : Int32} {Q : Int32 → xV → Prop} (h : RI E d 21 2 [(0, .ref 74), (1, .int x1), (2, .int x2), (3, .int (nI 0))] v Q) : RI E d 21 0 [(0, .ref 74), (1, .int x1), (2, .int x2)] v Q := by
  unfold RI
  refine xr_blk (lv1 := [(3, .int (nI 0)), (0, .ref 74), (1, .int x1), (2, .int x2)]) (st1 := []) (S1 := rt v) (pc1 := 2) [(.iconst 0, .int (nI 0), 0, 0), (.istore_n 3, .null, 0, 0)] [] (by decide +kernel) rfl trivial ?_
  exact x_R.sub [1, 2, 3, 0] rfl h
set_option maxRecDepth 100000 in
theorem w_X2_mayJoin_2 {E : Nat × (Nat → Int32)} {d : Nat} {v : xV} {x1 : Int32} {x2 : Int32} {x3 : Int32} {Q : Int32 → xV → Prop} (h : ((x1 ≤ x3 → Q (nI 1) v) ∧ (¬ x1 ≤ x3 → vp_in x3 10 ∧ ((¬ ((gA v 78) (x3).toNatClampNeg) = x2 → RI E d 21 2 [(0, .ref 74), (1, .int x1), (2, .int x2), (3, .int (x3 + (nI 1)))] v Q) ∧ (((gA v 78) (x3).toNatClampNeg) = x2 → vp_in x1 10 ∧ (((((gA v 77) (x1).toNatClampNeg) &&& ((nI 1) <<< (x3 &&& 31))) = (nI 0) → RI E d 21 2 [(0, .ref 74), (1, .int x1), (2, .int x2), (3, .int (x3 + (nI 1)))] v Q) ∧ (¬ (((gA v 77) (x1).toNatClampNeg) &&& ((nI 1) <<< (x3 &&& 31))) = (nI 0) → Q (nI 0) v))))))) : RI E d 21 2 [(0, .ref 74), (1, .int x1), (2, .int x2), (3, .int x3)] v Q := by
  unfold RI
  refine xr_blk (lv1 := [(0, .ref 74), (1, .int x1), (2, .int x2), (3, .int x3)]) (st1 := [.int x1, .int x3]) (S1 := rt v) (pc1 := 4) [(.iload_n 3, .null, 0, 0), (.iload_n 1, .null, 0, 0)] [] (by decide +kernel) rfl trivial ?_
  refine xr_ic_ge (tgt := 38) (off := 34) (by decide +kernel) (by decide) (fun hc => ?_) (fun hc => ?_)
  · replace h := h.1 hc
    refine xr_blk (lv1 := [(0, .ref 74), (1, .int x1), (2, .int x2), (3, .int x3)]) (st1 := [.int (nI 1)]) (S1 := rt v) (pc1 := 39) [(.iconst 1, .int (nI 1), 0, 0)] [] (by decide +kernel) rfl trivial ?_
    exact xr_zret (by decide +kernel) rfl x_in2_1 ⟨_, _, rfl, rfl, h⟩
  · replace h := h.2 hc
    obtain ⟨hb1, h⟩ := h
    refine xr_blk (lv1 := [(0, .ref 74), (1, .int x1), (2, .int x2), (3, .int x3)]) (st1 := [.int x2, .int ((gA v 78) (x3).toNatClampNeg)]) (S1 := rt v) (pc1 := 14) [(.aload_n 0, .null, 0, 0), (.getfield 25, .null, 2, 7), (.iload_n 3, .null, 0, 0), (.iaload, .null, 0, 0), (.iload_n 2, .null, 0, 0)] [(x3, 10)] (by decide +kernel) rfl ⟨hb1, trivial⟩ ?_
    refine xr_ic_ne (tgt := 32) (off := 18) (by decide +kernel) (by decide) (fun hc => ?_) (fun hc => ?_)
    · replace h := h.1 hc
      refine xr_blk (lv1 := [(3, .int (x3 + (nI 1))), (0, .ref 74), (1, .int x1), (2, .int x2)]) (st1 := []) (S1 := rt v) (pc1 := 35) [(.iinc 3 1, .int (nI 1), 0, 0)] [] (by decide +kernel) rfl trivial ?_
      refine xr_goto (tgt := 2) (off := -33) (by decide +kernel) (by decide) ?_
      exact x_R.sub [1, 2, 3, 0] rfl h
    · replace h := h.2 hc
      obtain ⟨hb2, h⟩ := h
      refine xr_blk (lv1 := [(0, .ref 74), (1, .int x1), (2, .int x2), (3, .int x3)]) (st1 := [.int (((gA v 77) (x1).toNatClampNeg) &&& ((nI 1) <<< (x3 &&& 31)))]) (S1 := rt v) (pc1 := 27) [(.aload_n 0, .null, 0, 0), (.getfield 22, .null, 2, 6), (.iload_n 1, .null, 0, 0), (.iaload, .null, 0, 0), (.iconst 1, .int (nI 1), 0, 0), (.iload_n 3, .null, 0, 0), (.ishl, .null, 0, 0), (.iand, .null, 0, 0)] [(x1, 10)] (by decide +kernel) rfl ⟨hb2, trivial⟩ ?_
      refine xr_if_eq (tgt := 32) (off := 5) (by decide +kernel) (by decide) (fun hc => ?_) (fun hc => ?_)
      · replace h := h.1 hc
        refine xr_blk (lv1 := [(3, .int (x3 + (nI 1))), (0, .ref 74), (1, .int x1), (2, .int x2)]) (st1 := []) (S1 := rt v) (pc1 := 35) [(.iinc 3 1, .int (nI 1), 0, 0)] [] (by decide +kernel) rfl trivial ?_
        refine xr_goto (tgt := 2) (off := -33) (by decide +kernel) (by decide) ?_
        exact x_R.sub [1, 2, 3, 0] rfl h
      · replace h := h.2 hc
        refine xr_blk (lv1 := [(0, .ref 74), (1, .int x1), (2, .int x2), (3, .int x3)]) (st1 := [.int (nI 0)]) (S1 := rt v) (pc1 := 31) [(.iconst 0, .int (nI 0), 0, 0)] [] (by decide +kernel) rfl trivial ?_
        exact xr_zret (by decide +kernel) rfl x_in2_0 ⟨_, _, rfl, rfl, h⟩
theorem ok_21 : x_mOK 21 := ⟨x_tm5 (List.mem_of_getElem? (i := 157) rfl) rfl, 113, by decide +kernel⟩
/-! X2_numberOf: method 22, ScrawlHouse$Folk.numberOf(I)I -/
set_option maxRecDepth 100000 in
theorem w_X2_numberOf_0 {E : Nat × (Nat → Int32)} {d : Nat} {v : xV} {x1 : Int32} {Q : Int32 → xV → Prop} (h : RI E d 22 2 [(0, .ref 74), (1, .int x1), (2, .int (nI 0))] v Q) : RI E d 22 0 [(0, .ref 74), (1, .int x1)] v Q := by
  unfold RI
  refine xr_blk (lv1 := [(2, .int (nI 0)), (0, .ref 74), (1, .int x1)]) (st1 := []) (S1 := rt v) (pc1 := 2) [(.iconst 0, .int (nI 0), 0, 0), (.istore_n 2, .null, 0, 0)] [] (by decide +kernel) rfl trivial ?_
  exact x_R.sub [1, 2, 0] rfl h
set_option maxRecDepth 100000 in
theorem w_X2_numberOf_2 {E : Nat × (Nat → Int32)} {d : Nat} {v : xV} {x1 : Int32} {x2 : Int32} {Q : Int32 → xV → Prop} (h : (((gI v 74 8) ≤ x2 → Q (-1 : Int32) v) ∧ (¬ (gI v 74 8) ≤ x2 → vp_in x2 10 ∧ ((¬ ((gA v 76) (x2).toNatClampNeg) = x1 → RI E d 22 2 [(0, .ref 74), (1, .int x1), (2, .int (x2 + (nI 1)))] v Q) ∧ (((gA v 76) (x2).toNatClampNeg) = x1 → vp_in x2 10 ∧ Q ((gA v 78) (x2).toNatClampNeg) v))))) : RI E d 22 2 [(0, .ref 74), (1, .int x1), (2, .int x2)] v Q := by
  unfold RI
  refine xr_blk (lv1 := [(0, .ref 74), (1, .int x1), (2, .int x2)]) (st1 := [.int (gI v 74 8), .int x2]) (S1 := rt v) (pc1 := 7) [(.iload_n 2, .null, 0, 0), (.aload_n 0, .null, 0, 0), (.getfield 28, .null, 2, 8)] [] (by decide +kernel) rfl trivial ?_
  refine xr_ic_ge (tgt := 33) (off := 26) (by decide +kernel) (by decide) (fun hc => ?_) (fun hc => ?_)
  · replace h := h.1 hc
    refine xr_blk (lv1 := [(0, .ref 74), (1, .int x1), (2, .int x2)]) (st1 := [.int (-1)]) (S1 := rt v) (pc1 := 34) [(.iconst (-1), .int (-1), 0, 0)] [] (by decide +kernel) rfl trivial ?_
    exact xr_iret (by decide +kernel) rfl ⟨_, _, rfl, rfl, h⟩
  · replace h := h.2 hc
    obtain ⟨hb1, h⟩ := h
    refine xr_blk (lv1 := [(0, .ref 74), (1, .int x1), (2, .int x2)]) (st1 := [.int x1, .int ((gA v 76) (x2).toNatClampNeg)]) (S1 := rt v) (pc1 := 17) [(.aload_n 0, .null, 0, 0), (.getfield 19, .null, 2, 5), (.iload_n 2, .null, 0, 0), (.iaload, .null, 0, 0), (.iload_n 1, .null, 0, 0)] [(x2, 10)] (by decide +kernel) rfl ⟨hb1, trivial⟩ ?_
    refine xr_ic_ne (tgt := 27) (off := 10) (by decide +kernel) (by decide) (fun hc => ?_) (fun hc => ?_)
    · replace h := h.1 hc
      refine xr_blk (lv1 := [(2, .int (x2 + (nI 1))), (0, .ref 74), (1, .int x1)]) (st1 := []) (S1 := rt v) (pc1 := 30) [(.iinc 2 1, .int (nI 1), 0, 0)] [] (by decide +kernel) rfl trivial ?_
      refine xr_goto (tgt := 2) (off := -28) (by decide +kernel) (by decide) ?_
      exact x_R.sub [1, 2, 0] rfl h
    · replace h := h.2 hc
      obtain ⟨hb2, h⟩ := h
      refine xr_blk (lv1 := [(0, .ref 74), (1, .int x1), (2, .int x2)]) (st1 := [.int ((gA v 78) (x2).toNatClampNeg)]) (S1 := rt v) (pc1 := 26) [(.aload_n 0, .null, 0, 0), (.getfield 25, .null, 2, 7), (.iload_n 2, .null, 0, 0), (.iaload, .null, 0, 0)] [(x2, 10)] (by decide +kernel) rfl ⟨hb2, trivial⟩ ?_
      exact xr_iret (by decide +kernel) rfl ⟨_, _, rfl, rfl, h⟩
theorem ok_22 : x_mOK 22 := ⟨x_tm5 (List.mem_of_getElem? (i := 165) rfl) rfl, 113, by decide +kernel⟩
/-! X2_wallsOf: method 23, ScrawlHouse$Folk.wallsOf(I)I -/
set_option maxRecDepth 100000 in
theorem w_X2_wallsOf_0 {E : Nat × (Nat → Int32)} {d : Nat} {v : xV} {x1 : Int32} {Q : Int32 → xV → Prop} (h : RI E d 23 4 [(0, .ref 74), (1, .int x1), (2, .int (nI 0)), (3, .int (nI 0))] v Q) : RI E d 23 0 [(0, .ref 74), (1, .int x1)] v Q := by
  unfold RI
  refine xr_blk (lv1 := [(3, .int (nI 0)), (2, .int (nI 0)), (0, .ref 74), (1, .int x1)]) (st1 := []) (S1 := rt v) (pc1 := 4) [(.iconst 0, .int (nI 0), 0, 0), (.istore_n 2, .null, 0, 0), (.iconst 0, .int (nI 0), 0, 0), (.istore_n 3, .null, 0, 0)] [] (by decide +kernel) rfl trivial ?_
  exact x_R.sub [2, 3, 1, 0] rfl h
set_option maxRecDepth 100000 in
theorem w_X2_wallsOf_4 {E : Nat × (Nat → Int32)} {d : Nat} {v : xV} {x1 : Int32} {x2 : Int32} {x3 : Int32} {Q : Int32 → xV → Prop} (h : (((gI v 74 8) ≤ x3 → Q x2 v) ∧ (¬ (gI v 74 8) ≤ x3 → vp_in x3 10 ∧ ((¬ ((gA v 78) (x3).toNatClampNeg) = x1 → RI E d 23 4 [(0, .ref 74), (1, .int x1), (2, .int x2), (3, .int (x3 + (nI 1)))] v Q) ∧ (((gA v 78) (x3).toNatClampNeg) = x1 → vp_in x3 10 ∧ vp_in ((gA v 76) (x3).toNatClampNeg) 20 ∧ ∀ y4 : Int32, y4 = (x2 ||| ((nI 1) <<< (((gA v 26) (((gA v 76) (x3).toNatClampNeg)).toNatClampNeg) &&& 31))) → RI E d 23 4 [(0, .ref 74), (1, .int x1), (2, .int y4), (3, .int (x3 + (nI 1)))] v Q))))) : RI E d 23 4 [(0, .ref 74), (1, .int x1), (2, .int x2), (3, .int x3)] v Q := by
  unfold RI
  refine xr_blk (lv1 := [(0, .ref 74), (1, .int x1), (2, .int x2), (3, .int x3)]) (st1 := [.int (gI v 74 8), .int x3]) (S1 := rt v) (pc1 := 9) [(.iload_n 3, .null, 0, 0), (.aload_n 0, .null, 0, 0), (.getfield 28, .null, 2, 8)] [] (by decide +kernel) rfl trivial ?_
  refine xr_ic_ge (tgt := 47) (off := 38) (by decide +kernel) (by decide) (fun hc => ?_) (fun hc => ?_)
  · replace h := h.1 hc
    refine xr_blk (lv1 := [(0, .ref 74), (1, .int x1), (2, .int x2), (3, .int x3)]) (st1 := [.int x2]) (S1 := rt v) (pc1 := 48) [(.iload_n 2, .null, 0, 0)] [] (by decide +kernel) rfl trivial ?_
    exact xr_iret (by decide +kernel) rfl ⟨_, _, rfl, rfl, h⟩
  · replace h := h.2 hc
    obtain ⟨hb1, h⟩ := h
    refine xr_blk (lv1 := [(0, .ref 74), (1, .int x1), (2, .int x2), (3, .int x3)]) (st1 := [.int x1, .int ((gA v 78) (x3).toNatClampNeg)]) (S1 := rt v) (pc1 := 19) [(.aload_n 0, .null, 0, 0), (.getfield 25, .null, 2, 7), (.iload_n 3, .null, 0, 0), (.iaload, .null, 0, 0), (.iload_n 1, .null, 0, 0)] [(x3, 10)] (by decide +kernel) rfl ⟨hb1, trivial⟩ ?_
    refine xr_ic_ne (tgt := 41) (off := 22) (by decide +kernel) (by decide) (fun hc => ?_) (fun hc => ?_)
    · replace h := h.1 hc
      refine xr_blk (lv1 := [(3, .int (x3 + (nI 1))), (0, .ref 74), (1, .int x1), (2, .int x2)]) (st1 := []) (S1 := rt v) (pc1 := 44) [(.iinc 3 1, .int (nI 1), 0, 0)] [] (by decide +kernel) rfl trivial ?_
      refine xr_goto (tgt := 4) (off := -40) (by decide +kernel) (by decide) ?_
      exact x_R.sub [1, 2, 3, 0] rfl h
    · replace h := h.2 hc
      obtain ⟨hb2, h⟩ := h
      obtain ⟨hb3, h⟩ := h
      refine xr_blk (lv1 := [(0, .ref 74), (1, .int x1), (2, .int x2), (3, .int x3)]) (st1 := [.int (x2 ||| ((nI 1) <<< (((gA v 26) (((gA v 76) (x3).toNatClampNeg)).toNatClampNeg) &&& 31)))]) (S1 := rt v) (pc1 := 40) [(.iload_n 2, .null, 0, 0), (.iconst 1, .int (nI 1), 0, 0), (.aload_n 0, .null, 0, 0), (.getfield 34, .null, 2, 0), (.getfield 98, .null, 1, 0), (.aload_n 0, .null, 0, 0), (.getfield 19, .null, 2, 5), (.iload_n 3, .null, 0, 0), (.iaload, .null, 0, 0), (.iaload, .null, 0, 0), (.ishl, .null, 0, 0), (.ior, .null, 0, 0)] [(x3, 10), (((gA v 76) (x3).toNatClampNeg), 20)] (by decide +kernel) rfl ⟨hb2, hb3, trivial⟩ ?_
      refine xr_topi (fun y4 ey4 => ?_)
      replace h := h y4 ey4
      refine xr_blk (lv1 := [(3, .int (x3 + (nI 1))), (2, .int y4), (0, .ref 74), (1, .int x1)]) (st1 := []) (S1 := rt v) (pc1 := 44) [(.istore_n 2, .null, 0, 0), (.iinc 3 1, .int (nI 1), 0, 0)] [] (by decide +kernel) rfl trivial ?_
      refine xr_goto (tgt := 4) (off := -40) (by decide +kernel) (by decide) ?_
      exact x_R.sub [2, 3, 1, 0] rfl h
theorem ok_23 : x_mOK 23 := ⟨x_tm5 (List.mem_of_getElem? (i := 173) rfl) rfl, 113, by decide +kernel⟩
/-! X3_addForm: method 25, ScrawlHouse$Lore.addForm(II)I -/
set_option maxRecDepth 100000 in
theorem w_X3_addForm_0 {E : Nat × (Nat → Int32)} {d : Nat} {v : xV} {x1 : Int32} {x2 : Int32} {Q : Int32 → xV → Prop} (h : KI E d 143 [.int x1] v (fun y2 v1 => ((y2 = (nI 0) → Q (-1 : Int32) v1) ∧ (¬ y2 = (nI 0) → ((x2 < (nI 1) → Q (-1 : Int32) v1) ∧ (¬ x2 < (nI 1) → (((nI 255) < x2 → Q (-1 : Int32) v1) ∧ (¬ (nI 255) < x2 → vp_in x1 26 ∧ ((((gA v1 5) (x1).toNatClampNeg) < (nI 3) → vp_in x1 26 ∧ ∀ y5 : Int32, y5 = ((gA v1 5) (x1).toNatClampNeg) → RI E (d + 1) 25 41 [(0, .ref 3), (1, .int x1), (2, .int x2), (3, .int y5), (4, .int (nI 0))] v1 Q) ∧ (¬ ((gA v1 5) (x1).toNatClampNeg) < (nI 3) → Q (-1 : Int32) v1)))))))))) : RI E (d + 1) 25 0 [(0, .ref 3), (1, .int x1), (2, .int x2)] v Q := by
  unfold RI
  refine xr_blk (lv1 := [(0, .ref 3), (1, .int x1), (2, .int x2)]) (st1 := [.int x1]) (S1 := rt v) (pc1 := 1) [(.iload_n 1, .null, 0, 0)] [] (by decide +kernel) rfl trivial ?_
  refine xk_NI (As := [.int x1]) (rest := []) (idx := 37) (i0 := 37) (m1 := 143) (ps := [658]) (by decide +kernel) (by decide +kernel) (by decide) rfl (Nat.le_of_ble_eq_true rfl) rfl h (fun y2 v1 h => ?_)
  refine xr_if_eq (tgt := 29) (off := 25) (by decide +kernel) (by decide) (fun hc => ?_) (fun hc => ?_)
  · replace h := h.1 hc
    refine xr_blk (lv1 := [(0, .ref 3), (1, .int x1), (2, .int x2)]) (st1 := [.int (-1)]) (S1 := rt v1) (pc1 := 30) [(.iconst (-1), .int (-1), 0, 0)] [] (by decide +kernel) rfl trivial ?_
    exact xr_iret (by decide +kernel) rfl ⟨_, _, rfl, rfl, h⟩
  · replace h := h.2 hc
    refine xr_blk (lv1 := [(0, .ref 3), (1, .int x1), (2, .int x2)]) (st1 := [.int (nI 1), .int x2]) (S1 := rt v1) (pc1 := 9) [(.iload_n 2, .null, 0, 0), (.iconst 1, .int (nI 1), 0, 0)] [] (by decide +kernel) rfl trivial ?_
    refine xr_ic_lt (tgt := 29) (off := 20) (by decide +kernel) (by decide) (fun hc => ?_) (fun hc => ?_)
    · replace h := h.1 hc
      refine xr_blk (lv1 := [(0, .ref 3), (1, .int x1), (2, .int x2)]) (st1 := [.int (-1)]) (S1 := rt v1) (pc1 := 30) [(.iconst (-1), .int (-1), 0, 0)] [] (by decide +kernel) rfl trivial ?_
      exact xr_iret (by decide +kernel) rfl ⟨_, _, rfl, rfl, h⟩
    · replace h := h.2 hc
      refine xr_blk (lv1 := [(0, .ref 3), (1, .int x1), (2, .int x2)]) (st1 := [.int (nI 255), .int x2]) (S1 := rt v1) (pc1 := 16) [(.iload_n 2, .null, 0, 0), (.sipush 255, .int (nI 255), 0, 0)] [] (by decide +kernel) rfl trivial ?_
      refine xr_ic_gt (tgt := 29) (off := 13) (by decide +kernel) (by decide) (fun hc => ?_) (fun hc => ?_)
      · replace h := h.1 hc
        refine xr_blk (lv1 := [(0, .ref 3), (1, .int x1), (2, .int x2)]) (st1 := [.int (-1)]) (S1 := rt v1) (pc1 := 30) [(.iconst (-1), .int (-1), 0, 0)] [] (by decide +kernel) rfl trivial ?_
        exact xr_iret (by decide +kernel) rfl ⟨_, _, rfl, rfl, h⟩
      · replace h := h.2 hc
        obtain ⟨hb3, h⟩ := h
        refine xr_blk (lv1 := [(0, .ref 3), (1, .int x1), (2, .int x2)]) (st1 := [.int (nI 3), .int ((gA v1 5) (x1).toNatClampNeg)]) (S1 := rt v1) (pc1 := 26) [(.aload_n 0, .null, 0, 0), (.getfield 15, .null, 3, 1), (.iload_n 1, .null, 0, 0), (.iaload, .null, 0, 0), (.iconst 3, .int (nI 3), 0, 0)] [(x1, 26)] (by decide +kernel) rfl ⟨hb3, trivial⟩ ?_
        refine xr_ic_lt (tgt := 31) (off := 5) (by decide +kernel) (by decide) (fun hc => ?_) (fun hc => ?_)
        · replace h := h.1 hc
          obtain ⟨hb4, h⟩ := h
          refine xr_blk (lv1 := [(0, .ref 3), (1, .int x1), (2, .int x2)]) (st1 := [.int ((gA v1 5) (x1).toNatClampNeg)]) (S1 := rt v1) (pc1 := 37) [(.aload_n 0, .null, 0, 0), (.getfield 15, .null, 3, 1), (.iload_n 1, .null, 0, 0), (.iaload, .null, 0, 0)] [(x1, 26)] (by decide +kernel) rfl ⟨hb4, trivial⟩ ?_
          refine xr_topi (fun y5 ey5 => ?_)
          replace h := h y5 ey5
          refine xr_blk (lv1 := [(4, .int (nI 0)), (3, .int y5), (0, .ref 3), (1, .int x1), (2, .int x2)]) (st1 := []) (S1 := rt v1) (pc1 := 41) [(.istore_n 3, .null, 0, 0), (.iconst 0, .int (nI 0), 0, 0), (.istore 4, .null, 0, 0)] [] (by decide +kernel) rfl trivial ?_
          exact x_R.sub [2, 3, 4, 1, 0] rfl h
        · replace h := h.2 hc
          refine xr_blk (lv1 := [(0, .ref 3), (1, .int x1), (2, .int x2)]) (st1 := [.int (-1)]) (S1 := rt v1) (pc1 := 30) [(.iconst (-1), .int (-1), 0, 0)] [] (by decide +kernel) rfl trivial ?_
          exact xr_iret (by decide +kernel) rfl ⟨_, _, rfl, rfl, h⟩
set_option maxRecDepth 100000 in
theorem w_X3_addForm_41 {E : Nat × (Nat → Int32)} {d : Nat} {v : xV} {x1 : Int32} {x2 : Int32} {x3 : Int32} {x4 : Int32} {Q : Int32 → xV → Prop} (h : ((x3 ≤ x4 → vp_in ((x1 * (nI 3)) + x3) 78 ∧ vp_in x1 26 ∧ Q x3 (v_A (v_A v 4 (upd (gA v 4) (((x1 * (nI 3)) + x3)).toNatClampNeg x2)) 5 (upd (gA v 5) (x1).toNatClampNeg (x3 + (nI 1))))) ∧ (¬ x3 ≤ x4 → vp_in ((x1 * (nI 3)) + x4) 78 ∧ ((¬ ((gA v 4) (((x1 * (nI 3)) + x4)).toNatClampNeg) = x2 → RI E (d + 1) 25 41 [(0, .ref 3), (1, .int x1), (2, .int x2), (3, .int x3), (4, .int (x4 + (nI 1)))] v Q) ∧ (((gA v 4) (((x1 * (nI 3)) + x4)).toNatClampNeg) = x2 → Q (-1 : Int32) v))))) : RI E (d + 1) 25 41 [(0, .ref 3), (1, .int x1), (2, .int x2), (3, .int x3), (4, .int x4)] v Q := by
  unfold RI
  refine xr_blk (lv1 := [(0, .ref 3), (1, .int x1), (2, .int x2), (3, .int x3), (4, .int x4)]) (st1 := [.int x3, .int x4]) (S1 := rt v) (pc1 := 44) [(.iload 4, .null, 0, 0), (.iload_n 3, .null, 0, 0)] [] (by decide +kernel) rfl trivial ?_
  refine xr_ic_ge (tgt := 70) (off := 26) (by decide +kernel) (by decide) (fun hc => ?_) (fun hc => ?_)
  · replace h := h.1 hc
    obtain ⟨hb1, h⟩ := h
    obtain ⟨hb2, h⟩ := h
    refine xr_blk (lv1 := [(0, .ref 3), (1, .int x1), (2, .int x2), (3, .int x3), (4, .int x4)]) (st1 := [.int x3]) (S1 := rt (v_A (v_A v 4 (upd (gA v 4) (((x1 * (nI 3)) + x3)).toNatClampNeg x2)) 5 (upd (gA v 5) (x1).toNatClampNeg (x3 + (nI 1))))) (pc1 := 91) [(.aload_n 0, .null, 0, 0), (.getfield 9, .null, 3, 0), (.iload_n 1, .null, 0, 0), (.iconst 3, .int (nI 3), 0, 0), (.imul, .null, 0, 0), (.iload_n 3, .null, 0, 0), (.iadd, .null, 0, 0), (.iload_n 2, .null, 0, 0), (.iastore, .null, 0, 0), (.aload_n 0, .null, 0, 0), (.getfield 15, .null, 3, 1), (.iload_n 1, .null, 0, 0), (.iload_n 3, .null, 0, 0), (.iconst 1, .int (nI 1), 0, 0), (.iadd, .null, 0, 0), (.iastore, .null, 0, 0), (.iload_n 3, .null, 0, 0)] [(((x1 * (nI 3)) + x3), 78), (x1, 26)] (by decide +kernel) rfl ⟨hb1, hb2, trivial⟩ ?_
    exact xr_iret (by decide +kernel) rfl ⟨_, _, rfl, rfl, h⟩
  · replace h := h.2 hc
    obtain ⟨hb3, h⟩ := h
    refine xr_blk (lv1 := [(0, .ref 3), (1, .int x1), (2, .int x2), (3, .int x3), (4, .int x4)]) (st1 := [.int x2, .int ((gA v 4) (((x1 * (nI 3)) + x4)).toNatClampNeg)]) (S1 := rt v) (pc1 := 59) [(.aload_n 0, .null, 0, 0), (.getfield 9, .null, 3, 0), (.iload_n 1, .null, 0, 0), (.iconst 3, .int (nI 3), 0, 0), (.imul, .null, 0, 0), (.iload 4, .null, 0, 0), (.iadd, .null, 0, 0), (.iaload, .null, 0, 0), (.iload_n 2, .null, 0, 0)] [(((x1 * (nI 3)) + x4), 78)] (by decide +kernel) rfl ⟨hb3, trivial⟩ ?_
    refine xr_ic_ne (tgt := 64) (off := 5) (by decide +kernel) (by decide) (fun hc => ?_) (fun hc => ?_)
    · replace h := h.1 hc
      refine xr_blk (lv1 := [(4, .int (x4 + (nI 1))), (0, .ref 3), (1, .int x1), (2, .int x2), (3, .int x3)]) (st1 := []) (S1 := rt v) (pc1 := 67) [(.iinc 4 1, .int (nI 1), 0, 0)] [] (by decide +kernel) rfl trivial ?_
      refine xr_goto (tgt := 41) (off := -26) (by decide +kernel) (by decide) ?_
      exact x_R.sub [1, 2, 3, 4, 0] rfl h
    · replace h := h.2 hc
      refine xr_blk (lv1 := [(0, .ref 3), (1, .int x1), (2, .int x2), (3, .int x3), (4, .int x4)]) (st1 := [.int (-1)]) (S1 := rt v) (pc1 := 63) [(.iconst (-1), .int (-1), 0, 0)] [] (by decide +kernel) rfl trivial ?_
      exact xr_iret (by decide +kernel) rfl ⟨_, _, rfl, rfl, h⟩
theorem ok_25 : x_mOK 25 := ⟨x_tm3 (List.mem_of_getElem? (i := 76) rfl) rfl, 103, by decide +kernel⟩
/-! X3_addWord: method 26, ScrawlHouse$Lore.addWord(LScrawlHouse$Tape;I)I -/
set_option maxRecDepth 100000 in
theorem w_X3_addWord_0 {E : Nat × (Nat → Int32)} {d : Nat} {v : xV} {x2 : Int32} {Q : Int32 → xV → Prop} (h : (((nI 80) ≤ (gI v 3 7) → Q (-1 : Int32) v) ∧ (¬ (nI 80) ≤ (gI v 3 7) → ((x2 < (nI 0) → Q (-1 : Int32) v) ∧ (¬ x2 < (nI 0) → (((nI 5) ≤ x2 → Q (-1 : Int32) v) ∧ (¬ (nI 5) ≤ x2 → KI E d 27 [.ref 3, .ref 1] v (fun y2 v1 => ((¬ y2 = (nI 0) → RI E (d + 1) 26 30 [(0, .ref 3), (1, .ref 1), (2, .int x2), (3, .int (nI 0))] v1 Q) ∧ (y2 = (nI 0) → Q (-1 : Int32) v1)))))))))) : RI E (d + 1) 26 0 [(0, .ref 3), (1, .ref 1), (2, .int x2)] v Q := by
  unfold RI
  refine xr_blk (lv1 := [(0, .ref 3), (1, .ref 1), (2, .int x2)]) (st1 := [.int (nI 80), .int (gI v 3 7)]) (S1 := rt v) (pc1 := 6) [(.aload_n 0, .null, 0, 0), (.getfield 33, .null, 3, 7), (.bipush 80, .int (nI 80), 0, 0)] [] (by decide +kernel) rfl trivial ?_
  refine xr_ic_ge (tgt := 26) (off := 20) (by decide +kernel) (by decide) (fun hc => ?_) (fun hc => ?_)
  · replace h := h.1 hc
    refine xr_blk (lv1 := [(0, .ref 3), (1, .ref 1), (2, .int x2)]) (st1 := [.int (-1)]) (S1 := rt v) (pc1 := 27) [(.iconst (-1), .int (-1), 0, 0)] [] (by decide +kernel) rfl trivial ?_
    exact xr_iret (by decide +kernel) rfl ⟨_, _, rfl, rfl, h⟩
  · replace h := h.2 hc
    refine xr_blk (lv1 := [(0, .ref 3), (1, .ref 1), (2, .int x2)]) (st1 := [.int x2]) (S1 := rt v) (pc1 := 10) [(.iload_n 2, .null, 0, 0)] [] (by decide +kernel) rfl trivial ?_
    refine xr_if_lt (tgt := 26) (off := 16) (by decide +kernel) (by decide) (fun hc => ?_) (fun hc => ?_)
    · replace h := h.1 hc
      refine xr_blk (lv1 := [(0, .ref 3), (1, .ref 1), (2, .int x2)]) (st1 := [.int (-1)]) (S1 := rt v) (pc1 := 27) [(.iconst (-1), .int (-1), 0, 0)] [] (by decide +kernel) rfl trivial ?_
      exact xr_iret (by decide +kernel) rfl ⟨_, _, rfl, rfl, h⟩
    · replace h := h.2 hc
      refine xr_blk (lv1 := [(0, .ref 3), (1, .ref 1), (2, .int x2)]) (st1 := [.int (nI 5), .int x2]) (S1 := rt v) (pc1 := 15) [(.iload_n 2, .null, 0, 0), (.iconst 5, .int (nI 5), 0, 0)] [] (by decide +kernel) rfl trivial ?_
      refine xr_ic_ge (tgt := 26) (off := 11) (by decide +kernel) (by decide) (fun hc => ?_) (fun hc => ?_)
      · replace h := h.1 hc
        refine xr_blk (lv1 := [(0, .ref 3), (1, .ref 1), (2, .int x2)]) (st1 := [.int (-1)]) (S1 := rt v) (pc1 := 27) [(.iconst (-1), .int (-1), 0, 0)] [] (by decide +kernel) rfl trivial ?_
        exact xr_iret (by decide +kernel) rfl ⟨_, _, rfl, rfl, h⟩
      · replace h := h.2 hc
        refine xr_blk (lv1 := [(0, .ref 3), (1, .ref 1), (2, .int x2)]) (st1 := [.ref 1, .ref 3]) (S1 := rt v) (pc1 := 20) [(.aload_n 0, .null, 0, 0), (.aload_n 1, .null, 0, 0)] [] (by decide +kernel) rfl trivial ?_
        refine xk_VI (As := [.ref 1]) (bb := 3) (rest := []) (idx := 41) (i0 := 41) (m1 := 27) (ps := [672, 674, 0]) (by decide +kernel) (by decide +kernel) (by decide) rfl ((gK_s (by decide)).trans (by decide +kernel)) (by decide) (Nat.le_of_ble_eq_true rfl) rfl h (fun y2 v1 h => ?_)
        refine xr_if_ne (tgt := 28) (off := 5) (by decide +kernel) (by decide) (fun hc => ?_) (fun hc => ?_)
        · replace h := h.1 hc
          refine xr_blk (lv1 := [(3, .int (nI 0)), (0, .ref 3), (1, .ref 1), (2, .int x2)]) (st1 := []) (S1 := rt v1) (pc1 := 30) [(.iconst 0, .int (nI 0), 0, 0), (.istore_n 3, .null, 0, 0)] [] (by decide +kernel) rfl trivial ?_
          exact x_R.sub [1, 2, 3, 0] rfl h
        · replace h := h.2 hc
          refine xr_blk (lv1 := [(0, .ref 3), (1, .ref 1), (2, .int x2)]) (st1 := [.int (-1)]) (S1 := rt v1) (pc1 := 27) [(.iconst (-1), .int (-1), 0, 0)] [] (by decide +kernel) rfl trivial ?_
          exact xr_iret (by decide +kernel) rfl ⟨_, _, rfl, rfl, h⟩
set_option maxRecDepth 100000 in
theorem w_X3_addWord_30 {E : Nat × (Nat → Int32)} {d : Nat} {v : xV} {x2 : Int32} {x3 : Int32} {Q : Int32 → xV → Prop} (h : (((gI v 3 7) ≤ x3 → RI E (d + 1) 26 67 [(0, .ref 3), (1, .ref 1), (2, .int x2), (3, .int (nI 0))] v Q) ∧ (¬ (gI v 3 7) ≤ x3 → vp_in x3 80 ∧ ((¬ ((gA v 8) (x3).toNatClampNeg) = x2 → RI E (d + 1) 26 30 [(0, .ref 3), (1, .ref 1), (2, .int x2), (3, .int (x3 + (nI 1)))] v Q) ∧ (((gA v 8) (x3).toNatClampNeg) = x2 → KI E d 28 [.ref 3, .int x3, .ref 1] v (fun y3 v2 => ((y3 = (nI 0) → RI E (d + 1) 26 30 [(0, .ref 3), (1, .ref 1), (2, .int x2), (3, .int (x3 + (nI 1)))] v2 Q) ∧ (¬ y3 = (nI 0) → Q (-1 : Int32) v2)))))))) : RI E (d + 1) 26 30 [(0, .ref 3), (1, .ref 1), (2, .int x2), (3, .int x3)] v Q := by
  unfold RI
  refine xr_blk (lv1 := [(0, .ref 3), (1, .ref 1), (2, .int x2), (3, .int x3)]) (st1 := [.int (gI v 3 7), .int x3]) (S1 := rt v) (pc1 := 35) [(.iload_n 3, .null, 0, 0), (.aload_n 0, .null, 0, 0), (.getfield 33, .null, 3, 7)] [] (by decide +kernel) rfl trivial ?_
  refine xr_ic_ge (tgt := 65) (off := 30) (by decide +kernel) (by decide) (fun hc => ?_) (fun hc => ?_)
  · replace h := h.1 hc
    refine xr_blk (lv1 := [(3, .int (nI 0)), (0, .ref 3), (1, .ref 1), (2, .int x2)]) (st1 := []) (S1 := rt v) (pc1 := 67) [(.iconst 0, .int (nI 0), 0, 0), (.istore_n 3, .null, 0, 0)] [] (by decide +kernel) rfl trivial ?_
    exact x_R.sub [1, 2, 3, 0] rfl h
  · replace h := h.2 hc
    obtain ⟨hb1, h⟩ := h
    refine xr_blk (lv1 := [(0, .ref 3), (1, .ref 1), (2, .int x2), (3, .int x3)]) (st1 := [.int x2, .int ((gA v 8) (x3).toNatClampNeg)]) (S1 := rt v) (pc1 := 45) [(.aload_n 0, .null, 0, 0), (.getfield 24, .null, 3, 4), (.iload_n 3, .null, 0, 0), (.iaload, .null, 0, 0), (.iload_n 2, .null, 0, 0)] [(x3, 80)] (by decide +kernel) rfl ⟨hb1, trivial⟩ ?_
    refine xr_ic_ne (tgt := 59) (off := 14) (by decide +kernel) (by decide) (fun hc => ?_) (fun hc => ?_)
    · replace h := h.1 hc
      refine xr_blk (lv1 := [(3, .int (x3 + (nI 1))), (0, .ref 3), (1, .ref 1), (2, .int x2)]) (st1 := []) (S1 := rt v) (pc1 := 62) [(.iinc 3 1, .int (nI 1), 0, 0)] [] (by decide +kernel) rfl trivial ?_
      refine xr_goto (tgt := 30) (off := -32) (by decide +kernel) (by decide) ?_
      exact x_R.sub [1, 2, 3, 0] rfl h
    · replace h := h.2 hc
      refine xr_blk (lv1 := [(0, .ref 3), (1, .ref 1), (2, .int x2), (3, .int x3)]) (st1 := [.ref 1, .int x3, .ref 3]) (S1 := rt v) (pc1 := 51) [(.aload_n 0, .null, 0, 0), (.iload_n 3, .null, 0, 0), (.aload_n 1, .null, 0, 0)] [] (by decide +kernel) rfl trivial ?_
      refine xk_VI (As := [.int x3, .ref 1]) (bb := 3) (rest := []) (idx := 45) (i0 := 45) (m1 := 28) (ps := [683, 685, 1]) (by decide +kernel) (by decide +kernel) (by decide) rfl ((gK_s (by decide)).trans (by decide +kernel)) (by decide) (Nat.le_of_ble_eq_true rfl) rfl h (fun y3 v2 h => ?_)
      refine xr_if_eq (tgt := 59) (off := 5) (by decide +kernel) (by decide) (fun hc => ?_) (fun hc => ?_)
      · replace h := h.1 hc
        refine xr_blk (lv1 := [(3, .int (x3 + (nI 1))), (0, .ref 3), (1, .ref 1), (2, .int x2)]) (st1 := []) (S1 := rt v2) (pc1 := 62) [(.iinc 3 1, .int (nI 1), 0, 0)] [] (by decide +kernel) rfl trivial ?_
        refine xr_goto (tgt := 30) (off := -32) (by decide +kernel) (by decide) ?_
        exact x_R.sub [1, 2, 3, 0] rfl h
      · replace h := h.2 hc
        refine xr_blk (lv1 := [(0, .ref 3), (1, .ref 1), (2, .int x2), (3, .int x3)]) (st1 := [.int (-1)]) (S1 := rt v2) (pc1 := 58) [(.iconst (-1), .int (-1), 0, 0)] [] (by decide +kernel) rfl trivial ?_
        exact xr_iret (by decide +kernel) rfl ⟨_, _, rfl, rfl, h⟩
set_option maxRecDepth 100000 in
theorem w_X3_addWord_67 {E : Nat × (Nat → Int32)} {d : Nat} {v : xV} {x2 : Int32} {x3 : Int32} {Q : Int32 → xV → Prop} (h : (((gI v 1 1) ≤ x3 → RI E (d + 1) 26 109 [(0, .ref 3), (1, .ref 1), (2, .int x2)] v Q) ∧ (¬ (gI v 1 1) ≤ x3 → (((nI 10) ≤ x3 → RI E (d + 1) 26 109 [(0, .ref 3), (1, .ref 1), (2, .int x2)] v Q) ∧ (¬ (nI 10) ≤ x3 → KI E d 78 [.ref 1, .int x3] v (fun y2 v1 => vp_in (((gI v 3 7) * (nI 10)) + x3) 800 ∧ RI E (d + 1) 26 67 [(0, .ref 3), (1, .ref 1), (2, .int x2), (3, .int (x3 + (nI 1)))] (v_A v1 6 (upd (gA v1 6) ((((gI v 3 7) * (nI 10)) + x3)).toNatClampNeg (y2 - (nI 97)))) Q)))))) : RI E (d + 1) 26 67 [(0, .ref 3), (1, .ref 1), (2, .int x2), (3, .int x3)] v Q := by
  unfold RI
  refine xr_blk (lv1 := [(0, .ref 3), (1, .ref 1), (2, .int x2), (3, .int x3)]) (st1 := [.int (gI v 1 1), .int x3]) (S1 := rt v) (pc1 := 72) [(.iload_n 3, .null, 0, 0), (.aload_n 1, .null, 0, 0), (.getfield 49, .null, 8, 1)] [] (by decide +kernel) rfl trivial ?_
  refine xr_ic_ge (tgt := 109) (off := 37) (by decide +kernel) (by decide) (fun hc => ?_) (fun hc => ?_)
  · replace h := h.1 hc
    exact x_R.sub [0, 1, 2] rfl h
  · replace h := h.2 hc
    refine xr_blk (lv1 := [(0, .ref 3), (1, .ref 1), (2, .int x2), (3, .int x3)]) (st1 := [.int (nI 10), .int x3]) (S1 := rt v) (pc1 := 78) [(.iload_n 3, .null, 0, 0), (.bipush 10, .int (nI 10), 0, 0)] [] (by decide +kernel) rfl trivial ?_
    refine xr_ic_ge (tgt := 109) (off := 31) (by decide +kernel) (by decide) (fun hc => ?_) (fun hc => ?_)
    · replace h := h.1 hc
      exact x_R.sub [0, 1, 2] rfl h
    · replace h := h.2 hc
      refine xr_blk (lv1 := [(0, .ref 3), (1, .ref 1), (2, .int x2), (3, .int x3)]) (st1 := [.int x3, .ref 1, .int (((gI v 3 7) * (nI 10)) + x3), .ref 6]) (S1 := rt v) (pc1 := 96) [(.aload_n 0, .null, 0, 0), (.getfield 18, .null, 3, 2), (.aload_n 0, .null, 0, 0), (.getfield 33, .null, 3, 7), (.bipush 10, .int (nI 10), 0, 0), (.imul, .null, 0, 0), (.iload_n 3, .null, 0, 0), (.iadd, .null, 0, 0), (.aload_n 1, .null, 0, 0), (.iload_n 3, .null, 0, 0)] [] (by decide +kernel) rfl trivial ?_
      refine xk_VI (As := [.int x3]) (bb := 1) (rest := [.int (((gI v 3 7) * (nI 10)) + x3), .ref 6]) (idx := 54) (i0 := 54) (m1 := 78) (ps := [676, 677, 678]) (by decide +kernel) (by decide +kernel) (by decide) rfl ((gK_s (by decide)).trans (by decide +kernel)) (by decide) (Nat.le_of_ble_eq_true rfl) rfl h (fun y2 v1 h => ?_)
      obtain ⟨hb3, h⟩ := h
      refine xr_blk (lv1 := [(3, .int (x3 + (nI 1))), (0, .ref 3), (1, .ref 1), (2, .int x2)]) (st1 := []) (S1 := rt (v_A v1 6 (upd (gA v1 6) ((((gI v 3 7) * (nI 10)) + x3)).toNatClampNeg (y2 - (nI 97))))) (pc1 := 106) [(.bipush 97, .int (nI 97), 0, 0), (.isub, .null, 0, 0), (.iastore, .null, 0, 0), (.iinc 3 1, .int (nI 1), 0, 0)] [((((gI v 3 7) * (nI 10)) + x3), 800)] (by decide +kernel) rfl ⟨hb3, trivial⟩ ?_
      refine xr_goto (tgt := 67) (off := -39) (by decide +kernel) (by decide) ?_
      exact x_R.sub [1, 2, 3, 0] rfl h
set_option maxRecDepth 100000 in
theorem w_X3_addWord_109 {E : Nat × (Nat → Int32)} {d : Nat} {v : xV} {x2 : Int32} {Q : Int32 → xV → Prop} (h : vp_in (gI v 3 7) 80 ∧ vp_in (gI v 3 7) 80 ∧ Q (((gI v 3 7) + (nI 1)) - (nI 1)) (v_I (v_A (v_A v 7 (upd (gA v 7) ((gI v 3 7)).toNatClampNeg (gI v 1 1))) 8 (upd (gA v 8) ((gI v 3 7)).toNatClampNeg x2)) 3 7 ((gI v 3 7) + (nI 1)))) : RI E (d + 1) 26 109 [(0, .ref 3), (1, .ref 1), (2, .int x2)] v Q := by
  unfold RI
  obtain ⟨hb1, h⟩ := h
  obtain ⟨hb2, h⟩ := h
  refine xr_blk (lv1 := [(0, .ref 3), (1, .ref 1), (2, .int x2)]) (st1 := [.int (((gI v 3 7) + (nI 1)) - (nI 1))]) (S1 := rt (v_I (v_A (v_A v 7 (upd (gA v 7) ((gI v 3 7)).toNatClampNeg (gI v 1 1))) 8 (upd (gA v 8) ((gI v 3 7)).toNatClampNeg x2)) 3 7 ((gI v 3 7) + (nI 1)))) (pc1 := 148) [(.aload_n 0, .null, 0, 0), (.getfield 21, .null, 3, 3), (.aload_n 0, .null, 0, 0), (.getfield 33, .null, 3, 7), (.aload_n 1, .null, 0, 0), (.getfield 49, .null, 8, 1), (.iastore, .null, 0, 0), (.aload_n 0, .null, 0, 0), (.getfield 24, .null, 3, 4), (.aload_n 0, .null, 0, 0), (.getfield 33, .null, 3, 7), (.iload_n 2, .null, 0, 0), (.iastore, .null, 0, 0), (.aload_n 0, .null, 0, 0), (.dup, .null, 0, 0), (.getfield 33, .null, 3, 7), (.iconst 1, .int (nI 1), 0, 0), (.iadd, .null, 0, 0), (.putfield 33, .null, 3, 7), (.aload_n 0, .null, 0, 0), (.getfield 33, .null, 3, 7), (.iconst 1, .int (nI 1), 0, 0), (.isub, .null, 0, 0)] [((gI v 3 7), 80), ((gI v 3 7), 80)] (by decide +kernel) rfl ⟨hb1, hb2, trivial⟩ ?_
  exact xr_iret (by decide +kernel) rfl ⟨_, _, rfl, rfl, h⟩
theorem ok_26 : x_mOK 26 := ⟨x_tm3 (List.mem_of_getElem? (i := 91) rfl) rfl, 103, by decide +kernel⟩
/-! X3_isWordText: method 27, ScrawlHouse$Lore.isWordText(LScrawlHouse$Tape;)Z -/
set_option maxRecDepth 100000 in
theorem w_X3_isWordText_0 {E : Nat × (Nat → Int32)} {d : Nat} {v : xV} {Q : Int32 → xV → Prop} (h : (((gI v 1 1) < (nI 1) → Q (nI 0) v) ∧ (¬ (gI v 1 1) < (nI 1) → (((gI v 1 1) ≤ (nI 10) → RI E (d + 1) 27 21 [(1, .ref 1), (2, .int (nI 0))] v Q) ∧ (¬ (gI v 1 1) ≤ (nI 10) → Q (nI 0) v))))) : RI E (d + 1) 27 0 [(0, .ref 3), (1, .ref 1)] v Q := by
  unfold RI
  refine xr_blk (lv1 := [(0, .ref 3), (1, .ref 1)]) (st1 := [.int (nI 1), .int (gI v 1 1)]) (S1 := rt v) (pc1 := 5) [(.aload_n 1, .null, 0, 0), (.getfield 49, .null, 8, 1), (.iconst 1, .int (nI 1), 0, 0)] [] (by decide +kernel) rfl trivial ?_
  refine xr_ic_lt (tgt := 17) (off := 12) (by decide +kernel) (by decide) (fun hc => ?_) (fun hc => ?_)
  · replace h := h.1 hc
    refine xr_blk (lv1 := [(0, .ref 3), (1, .ref 1)]) (st1 := [.int (nI 0)]) (S1 := rt v) (pc1 := 18) [(.iconst 0, .int (nI 0), 0, 0)] [] (by decide +kernel) rfl trivial ?_
    exact xr_zret (by decide +kernel) rfl x_in2_0 ⟨_, _, rfl, rfl, h⟩
  · replace h := h.2 hc
    refine xr_blk (lv1 := [(0, .ref 3), (1, .ref 1)]) (st1 := [.int (nI 10), .int (gI v 1 1)]) (S1 := rt v) (pc1 := 14) [(.aload_n 1, .null, 0, 0), (.getfield 49, .null, 8, 1), (.bipush 10, .int (nI 10), 0, 0)] [] (by decide +kernel) rfl trivial ?_
    refine xr_ic_le (tgt := 19) (off := 5) (by decide +kernel) (by decide) (fun hc => ?_) (fun hc => ?_)
    · replace h := h.1 hc
      refine xr_blk (lv1 := [(2, .int (nI 0)), (0, .ref 3), (1, .ref 1)]) (st1 := []) (S1 := rt v) (pc1 := 21) [(.iconst 0, .int (nI 0), 0, 0), (.istore_n 2, .null, 0, 0)] [] (by decide +kernel) rfl trivial ?_
      exact x_R.sub [2, 0] rfl h
    · replace h := h.2 hc
      refine xr_blk (lv1 := [(0, .ref 3), (1, .ref 1)]) (st1 := [.int (nI 0)]) (S1 := rt v) (pc1 := 18) [(.iconst 0, .int (nI 0), 0, 0)] [] (by decide +kernel) rfl trivial ?_
      exact xr_zret (by decide +kernel) rfl x_in2_0 ⟨_, _, rfl, rfl, h⟩
set_option maxRecDepth 100000 in
theorem w_X3_isWordText_21 {E : Nat × (Nat → Int32)} {d : Nat} {v : xV} {x2 : Int32} {Q : Int32 → xV → Prop} (h : (((gI v 1 1) ≤ x2 → Q (nI 1) v) ∧ (¬ (gI v 1 1) ≤ x2 → KI E d 78 [.ref 1, .int x2] v (fun y2 v1 => KI E d 144 [.int y2] v1 (fun y4 v3 => ((¬ y4 = (nI 0) → RI E (d + 1) 27 21 [(1, .ref 1), (2, .int (x2 + (nI 1)))] v3 Q) ∧ (y4 = (nI 0) → Q (nI 0) v3))))))) : RI E (d + 1) 27 21 [(1, .ref 1), (2, .int x2)] v Q := by
  unfold RI
  refine xr_blk (lv1 := [(1, .ref 1), (2, .int x2)]) (st1 := [.int (gI v 1 1), .int x2]) (S1 := rt v) (pc1 := 26) [(.iload_n 2, .null, 0, 0), (.aload_n 1, .null, 0, 0), (.getfield 49, .null, 8, 1)] [] (by decide +kernel) rfl trivial ?_
  refine xr_ic_ge (tgt := 48) (off := 22) (by decide +kernel) (by decide) (fun hc => ?_) (fun hc => ?_)
  · replace h := h.1 hc
    refine xr_blk (lv1 := [(1, .ref 1), (2, .int x2)]) (st1 := [.int (nI 1)]) (S1 := rt v) (pc1 := 49) [(.iconst 1, .int (nI 1), 0, 0)] [] (by decide +kernel) rfl trivial ?_
    exact xr_zret (by decide +kernel) rfl x_in2_1 ⟨_, _, rfl, rfl, h⟩
  · replace h := h.2 hc
    refine xr_blk (lv1 := [(1, .ref 1), (2, .int x2)]) (st1 := [.int x2, .ref 1]) (S1 := rt v) (pc1 := 31) [(.aload_n 1, .null, 0, 0), (.iload_n 2, .null, 0, 0)] [] (by decide +kernel) rfl trivial ?_
    refine xk_VI (As := [.int x2]) (bb := 1) (rest := []) (idx := 54) (i0 := 54) (m1 := 78) (ps := [676, 677, 678]) (by decide +kernel) (by decide +kernel) (by decide) rfl ((gK_s (by decide)).trans (by decide +kernel)) (by decide) (Nat.le_of_ble_eq_true rfl) rfl h (fun y2 v1 h => ?_)
    refine xk_NI (As := [.int y2]) (rest := []) (idx := 58) (i0 := 58) (m1 := 144) (ps := [681]) (by decide +kernel) (by decide +kernel) (by decide) rfl (Nat.le_of_ble_eq_true rfl) rfl h (fun y4 v3 h => ?_)
    refine xr_if_ne (tgt := 42) (off := 5) (by decide +kernel) (by decide) (fun hc => ?_) (fun hc => ?_)
    · replace h := h.1 hc
      refine xr_blk (lv1 := [(2, .int (x2 + (nI 1))), (1, .ref 1)]) (st1 := []) (S1 := rt v3) (pc1 := 45) [(.iinc 2 1, .int (nI 1), 0, 0)] [] (by decide +kernel) rfl trivial ?_
      refine xr_goto (tgt := 21) (off := -24) (by decide +kernel) (by decide) ?_
      exact x_R.sub [1, 0] rfl h
    · replace h := h.2 hc
      refine xr_blk (lv1 := [(1, .ref 1), (2, .int x2)]) (st1 := [.int (nI 0)]) (S1 := rt v3) (pc1 := 41) [(.iconst 0, .int (nI 0), 0, 0)] [] (by decide +kernel) rfl trivial ?_
      exact xr_zret (by decide +kernel) rfl x_in2_0 ⟨_, _, rfl, rfl, h⟩
theorem ok_27 : x_mOK 27 := ⟨x_tm3 (List.mem_of_getElem? (i := 95) rfl) rfl, 103, by decide +kernel⟩
/-! X3_hasText: method 28, ScrawlHouse$Lore.hasText(ILScrawlHouse$Tape;)Z -/
set_option maxRecDepth 100000 in
theorem w_X3_hasText_0 {E : Nat × (Nat → Int32)} {d : Nat} {v : xV} {x1 : Int32} {Q : Int32 → xV → Prop} (h : vp_in x1 80 ∧ ((((gA v 7) (x1).toNatClampNeg) = (gI v 1 1) → RI E (d + 1) 28 17 [(0, .ref 3), (1, .int x1), (2, .ref 1), (3, .int (nI 0))] v Q) ∧ (¬ ((gA v 7) (x1).toNatClampNeg) = (gI v 1 1) → Q (nI 0) v))) : RI E (d + 1) 28 0 [(0, .ref 3), (1, .int x1), (2, .ref 1)] v Q := by
  unfold RI
  obtain ⟨hb1, h⟩ := h
  refine xr_blk (lv1 := [(0, .ref 3), (1, .int x1), (2, .ref 1)]) (st1 := [.int (gI v 1 1), .int ((gA v 7) (x1).toNatClampNeg)]) (S1 := rt v) (pc1 := 10) [(.aload_n 0, .null, 0, 0), (.getfield 21, .null, 3, 3), (.iload_n 1, .null, 0, 0), (.iaload, .null, 0, 0), (.aload_n 2, .null, 0, 0), (.getfield 49, .null, 8, 1)] [(x1, 80)] (by decide +kernel) rfl ⟨hb1, trivial⟩ ?_
  refine xr_ic_eq (tgt := 15) (off := 5) (by decide +kernel) (by decide) (fun hc => ?_) (fun hc => ?_)
  · replace h := h.1 hc
    refine xr_blk (lv1 := [(3, .int (nI 0)), (0, .ref 3), (1, .int x1), (2, .ref 1)]) (st1 := []) (S1 := rt v) (pc1 := 17) [(.iconst 0, .int (nI 0), 0, 0), (.istore_n 3, .null, 0, 0)] [] (by decide +kernel) rfl trivial ?_
    exact x_R.sub [1, 2, 3, 0] rfl h
  · replace h := h.2 hc
    refine xr_blk (lv1 := [(0, .ref 3), (1, .int x1), (2, .ref 1)]) (st1 := [.int (nI 0)]) (S1 := rt v) (pc1 := 14) [(.iconst 0, .int (nI 0), 0, 0)] [] (by decide +kernel) rfl trivial ?_
    exact xr_zret (by decide +kernel) rfl x_in2_0 ⟨_, _, rfl, rfl, h⟩
set_option maxRecDepth 100000 in
theorem w_X3_hasText_17 {E : Nat × (Nat → Int32)} {d : Nat} {v : xV} {x1 : Int32} {x3 : Int32} {Q : Int32 → xV → Prop} (h : vp_in x1 80 ∧ ((((gA v 7) (x1).toNatClampNeg) ≤ x3 → Q (nI 1) v) ∧ (¬ ((gA v 7) (x1).toNatClampNeg) ≤ x3 → vp_in ((x1 * (nI 10)) + x3) 800 ∧ KI E d 78 [.ref 1, .int x3] v (fun y4 v3 => (((((gA v 6) (((x1 * (nI 10)) + x3)).toNatClampNeg) + (nI 97)) = y4 → RI E (d + 1) 28 17 [(0, .ref 3), (1, .int x1), (2, .ref 1), (3, .int (x3 + (nI 1)))] v3 Q) ∧ (¬ (((gA v 6) (((x1 * (nI 10)) + x3)).toNatClampNeg) + (nI 97)) = y4 → Q (nI 0) v3)))))) : RI E (d + 1) 28 17 [(0, .ref 3), (1, .int x1), (2, .ref 1), (3, .int x3)] v Q := by
  unfold RI
  obtain ⟨hb1, h⟩ := h
  refine xr_blk (lv1 := [(0, .ref 3), (1, .int x1), (2, .ref 1), (3, .int x3)]) (st1 := [.int ((gA v 7) (x1).toNatClampNeg), .int x3]) (S1 := rt v) (pc1 := 24) [(.iload_n 3, .null, 0, 0), (.aload_n 0, .null, 0, 0), (.getfield 21, .null, 3, 3), (.iload_n 1, .null, 0, 0), (.iaload, .null, 0, 0)] [(x1, 80)] (by decide +kernel) rfl ⟨hb1, trivial⟩ ?_
  refine xr_ic_ge (tgt := 57) (off := 33) (by decide +kernel) (by decide) (fun hc => ?_) (fun hc => ?_)
  · replace h := h.1 hc
    refine xr_blk (lv1 := [(0, .ref 3), (1, .int x1), (2, .ref 1), (3, .int x3)]) (st1 := [.int (nI 1)]) (S1 := rt v) (pc1 := 58) [(.iconst 1, .int (nI 1), 0, 0)] [] (by decide +kernel) rfl trivial ?_
    exact xr_zret (by decide +kernel) rfl x_in2_1 ⟨_, _, rfl, rfl, h⟩
  · replace h := h.2 hc
    obtain ⟨hb2, h⟩ := h
    refine xr_blk (lv1 := [(0, .ref 3), (1, .int x1), (2, .ref 1), (3, .int x3)]) (st1 := [.int x3, .ref 1, .int (((gA v 6) (((x1 * (nI 10)) + x3)).toNatClampNeg) + (nI 97))]) (S1 := rt v) (pc1 := 43) [(.aload_n 0, .null, 0, 0), (.getfield 18, .null, 3, 2), (.iload_n 1, .null, 0, 0), (.bipush 10, .int (nI 10), 0, 0), (.imul, .null, 0, 0), (.iload_n 3, .null, 0, 0), (.iadd, .null, 0, 0), (.iaload, .null, 0, 0), (.bipush 97, .int (nI 97), 0, 0), (.iadd, .null, 0, 0), (.aload_n 2, .null, 0, 0), (.iload_n 3, .null, 0, 0)] [(((x1 * (nI 10)) + x3), 800)] (by decide +kernel) rfl ⟨hb2, trivial⟩ ?_
    refine xk_VI (As := [.int x3]) (bb := 1) (rest := [.int (((gA v 6) (((x1 * (nI 10)) + x3)).toNatClampNeg) + (nI 97))]) (idx := 54) (i0 := 54) (m1 := 78) (ps := [676, 677, 678]) (by decide +kernel) (by decide +kernel) (by decide) rfl ((gK_s (by decide)).trans (by decide +kernel)) (by decide) (Nat.le_of_ble_eq_true rfl) rfl h (fun y4 v3 h => ?_)
    refine xr_ic_eq (tgt := 51) (off := 5) (by decide +kernel) (by decide) (fun hc => ?_) (fun hc => ?_)
    · replace h := h.1 hc
      refine xr_blk (lv1 := [(3, .int (x3 + (nI 1))), (0, .ref 3), (1, .int x1), (2, .ref 1)]) (st1 := []) (S1 := rt v3) (pc1 := 54) [(.iinc 3 1, .int (nI 1), 0, 0)] [] (by decide +kernel) rfl trivial ?_
      refine xr_goto (tgt := 17) (off := -37) (by decide +kernel) (by decide) ?_
      exact x_R.sub [1, 2, 3, 0] rfl h
    · replace h := h.2 hc
      refine xr_blk (lv1 := [(0, .ref 3), (1, .int x1), (2, .ref 1), (3, .int x3)]) (st1 := [.int (nI 0)]) (S1 := rt v3) (pc1 := 50) [(.iconst 0, .int (nI 0), 0, 0)] [] (by decide +kernel) rfl trivial ?_
      exact xr_zret (by decide +kernel) rfl x_in2_0 ⟨_, _, rfl, rfl, h⟩
theorem ok_28 : x_mOK 28 := ⟨x_tm3 (List.mem_of_getElem? (i := 106) rfl) rfl, 103, by decide +kernel⟩
/-! X3_addHabit: method 29, ScrawlHouse$Lore.addHabit(III)I -/
set_option maxRecDepth 100000 in
theorem w_X3_addHabit_0 {E : Nat × (Nat → Int32)} {d : Nat} {v : xV} {x1 : Int32} {x2 : Int32} {x3 : Int32} {Q : Int32 → xV → Prop} (h : ((x1 < (nI 0) → Q (-1 : Int32) v) ∧ (¬ x1 < (nI 0) → (((nI 4) ≤ x1 → Q (-1 : Int32) v) ∧ (¬ (nI 4) ≤ x1 → KI E d 143 [.int x2] v (fun y2 v1 => ((y2 = (nI 0) → Q (-1 : Int32) v1) ∧ (¬ y2 = (nI 0) → KI E d 143 [.int x3] v1 (fun y4 v3 => ((y4 = (nI 0) → Q (-1 : Int32) v3) ∧ (¬ y4 = (nI 0) → ((¬ x2 = x3 → KI E d 30 [.ref 3, .int x1, .int x2, .int x3] v3 (fun y6 v5 => ((¬ y6 = (nI 0) → Q (-1 : Int32) v5) ∧ (y6 = (nI 0) → vp_in x1 4 ∧ ((((gA v5 10) (x1).toNatClampNeg) < (nI 12) → vp_in ((x1 * (nI 26)) + x2) 104 ∧ vp_in ((x1 * (nI 26)) + x2) 104 ∧ vp_in x1 4 ∧ vp_in x1 4 ∧ vp_in x1 4 ∧ Q ((upd (gA v5 10) (x1).toNatClampNeg (((gA v5 10) (x1).toNatClampNeg) + (nI 1))) (x1).toNatClampNeg) (v_A (v_A v5 9 (upd (gA v5 9) (((x1 * (nI 26)) + x2)).toNatClampNeg (((gA v5 9) (((x1 * (nI 26)) + x2)).toNatClampNeg) ||| ((nI 1) <<< (x3 &&& 31))))) 10 (upd (gA v5 10) (x1).toNatClampNeg (((gA v5 10) (x1).toNatClampNeg) + (nI 1))))) ∧ (¬ ((gA v5 10) (x1).toNatClampNeg) < (nI 12) → Q (-1 : Int32) v5)))))) ∧ (x2 = x3 → Q (-1 : Int32) v3))))))))))))) : RI E (d + 1) 29 0 [(0, .ref 3), (1, .int x1), (2, .int x2), (3, .int x3)] v Q := by
  unfold RI
  refine xr_blk (lv1 := [(0, .ref 3), (1, .int x1), (2, .int x2), (3, .int x3)]) (st1 := [.int x1]) (S1 := rt v) (pc1 := 1) [(.iload_n 1, .null, 0, 0)] [] (by decide +kernel) rfl trivial ?_
  refine xr_if_lt (tgt := 28) (off := 27) (by decide +kernel) (by decide) (fun hc => ?_) (fun hc => ?_)
  · replace h := h.1 hc
    refine xr_blk (lv1 := [(0, .ref 3), (1, .int x1), (2, .int x2), (3, .int x3)]) (st1 := [.int (-1)]) (S1 := rt v) (pc1 := 29) [(.iconst (-1), .int (-1), 0, 0)] [] (by decide +kernel) rfl trivial ?_
    exact xr_iret (by decide +kernel) rfl ⟨_, _, rfl, rfl, h⟩
  · replace h := h.2 hc
    refine xr_blk (lv1 := [(0, .ref 3), (1, .int x1), (2, .int x2), (3, .int x3)]) (st1 := [.int (nI 4), .int x1]) (S1 := rt v) (pc1 := 6) [(.iload_n 1, .null, 0, 0), (.iconst 4, .int (nI 4), 0, 0)] [] (by decide +kernel) rfl trivial ?_
    refine xr_ic_ge (tgt := 28) (off := 22) (by decide +kernel) (by decide) (fun hc => ?_) (fun hc => ?_)
    · replace h := h.1 hc
      refine xr_blk (lv1 := [(0, .ref 3), (1, .int x1), (2, .int x2), (3, .int x3)]) (st1 := [.int (-1)]) (S1 := rt v) (pc1 := 29) [(.iconst (-1), .int (-1), 0, 0)] [] (by decide +kernel) rfl trivial ?_
      exact xr_iret (by decide +kernel) rfl ⟨_, _, rfl, rfl, h⟩
    · replace h := h.2 hc
      refine xr_blk (lv1 := [(0, .ref 3), (1, .int x1), (2, .int x2), (3, .int x3)]) (st1 := [.int x2]) (S1 := rt v) (pc1 := 10) [(.iload_n 2, .null, 0, 0)] [] (by decide +kernel) rfl trivial ?_
      refine xk_NI (As := [.int x2]) (rest := []) (idx := 37) (i0 := 37) (m1 := 143) (ps := [658]) (by decide +kernel) (by decide +kernel) (by decide) rfl (Nat.le_of_ble_eq_true rfl) rfl h (fun y2 v1 h => ?_)
      refine xr_if_eq (tgt := 28) (off := 15) (by decide +kernel) (by decide) (fun hc => ?_) (fun hc => ?_)
      · replace h := h.1 hc
        refine xr_blk (lv1 := [(0, .ref 3), (1, .int x1), (2, .int x2), (3, .int x3)]) (st1 := [.int (-1)]) (S1 := rt v1) (pc1 := 29) [(.iconst (-1), .int (-1), 0, 0)] [] (by decide +kernel) rfl trivial ?_
        exact xr_iret (by decide +kernel) rfl ⟨_, _, rfl, rfl, h⟩
      · replace h := h.2 hc
        refine xr_blk (lv1 := [(0, .ref 3), (1, .int x1), (2, .int x2), (3, .int x3)]) (st1 := [.int x3]) (S1 := rt v1) (pc1 := 17) [(.iload_n 3, .null, 0, 0)] [] (by decide +kernel) rfl trivial ?_
        refine xk_NI (As := [.int x3]) (rest := []) (idx := 37) (i0 := 37) (m1 := 143) (ps := [658]) (by decide +kernel) (by decide +kernel) (by decide) rfl (Nat.le_of_ble_eq_true rfl) rfl h (fun y4 v3 h => ?_)
        refine xr_if_eq (tgt := 28) (off := 8) (by decide +kernel) (by decide) (fun hc => ?_) (fun hc => ?_)
        · replace h := h.1 hc
          refine xr_blk (lv1 := [(0, .ref 3), (1, .int x1), (2, .int x2), (3, .int x3)]) (st1 := [.int (-1)]) (S1 := rt v3) (pc1 := 29) [(.iconst (-1), .int (-1), 0, 0)] [] (by decide +kernel) rfl trivial ?_
          exact xr_iret (by decide +kernel) rfl ⟨_, _, rfl, rfl, h⟩
        · replace h := h.2 hc
          refine xr_blk (lv1 := [(0, .ref 3), (1, .int x1), (2, .int x2), (3, .int x3)]) (st1 := [.int x3, .int x2]) (S1 := rt v3) (pc1 := 25) [(.iload_n 2, .null, 0, 0), (.iload_n 3, .null, 0, 0)] [] (by decide +kernel) rfl trivial ?_
          refine xr_ic_ne (tgt := 30) (off := 5) (by decide +kernel) (by decide) (fun hc => ?_) (fun hc => ?_)
          · replace h := h.1 hc
            refine xr_blk (lv1 := [(0, .ref 3), (1, .int x1), (2, .int x2), (3, .int x3)]) (st1 := [.int x3, .int x2, .int x1, .ref 3]) (S1 := rt v3) (pc1 := 34) [(.aload_n 0, .null, 0, 0), (.iload_n 1, .null, 0, 0), (.iload_n 2, .null, 0, 0), (.iload_n 3, .null, 0, 0)] [] (by decide +kernel) rfl trivial ?_
            refine xk_VI (As := [.int x1, .int x2, .int x3]) (bb := 3) (rest := []) (idx := 61) (i0 := 61) (m1 := 30) (ps := [721, 722, 723]) (by decide +kernel) (by decide +kernel) (by decide) rfl ((gK_s (by decide)).trans (by decide +kernel)) (by decide) (Nat.le_of_ble_eq_true rfl) rfl h (fun y6 v5 h => ?_)
            refine xr_if_ne (tgt := 51) (off := 14) (by decide +kernel) (by decide) (fun hc => ?_) (fun hc => ?_)
            · replace h := h.1 hc
              refine xr_blk (lv1 := [(0, .ref 3), (1, .int x1), (2, .int x2), (3, .int x3)]) (st1 := [.int (-1)]) (S1 := rt v5) (pc1 := 52) [(.iconst (-1), .int (-1), 0, 0)] [] (by decide +kernel) rfl trivial ?_
              exact xr_iret (by decide +kernel) rfl ⟨_, _, rfl, rfl, h⟩
            · replace h := h.2 hc
              obtain ⟨hb7, h⟩ := h
              refine xr_blk (lv1 := [(0, .ref 3), (1, .int x1), (2, .int x2), (3, .int x3)]) (st1 := [.int (nI 12), .int ((gA v5 10) (x1).toNatClampNeg)]) (S1 := rt v5) (pc1 := 48) [(.aload_n 0, .null, 0, 0), (.getfield 30, .null, 3, 6), (.iload_n 1, .null, 0, 0), (.iaload, .null, 0, 0), (.bipush 12, .int (nI 12), 0, 0)] [(x1, 4)] (by decide +kernel) rfl ⟨hb7, trivial⟩ ?_
              refine xr_ic_lt (tgt := 53) (off := 5) (by decide +kernel) (by decide) (fun hc => ?_) (fun hc => ?_)
              · replace h := h.1 hc
                obtain ⟨hb8, h⟩ := h
                obtain ⟨hb9, h⟩ := h
                obtain ⟨hb10, h⟩ := h
                obtain ⟨hb11, h⟩ := h
                obtain ⟨hb12, h⟩ := h
                refine xr_blk (lv1 := [(0, .ref 3), (1, .int x1), (2, .int x2), (3, .int x3)]) (st1 := [.int ((upd (gA v5 10) (x1).toNatClampNeg (((gA v5 10) (x1).toNatClampNeg) + (nI 1))) (x1).toNatClampNeg)]) (S1 := rt (v_A (v_A v5 9 (upd (gA v5 9) (((x1 * (nI 26)) + x2)).toNatClampNeg (((gA v5 9) (((x1 * (nI 26)) + x2)).toNatClampNeg) ||| ((nI 1) <<< (x3 &&& 31))))) 10 (upd (gA v5 10) (x1).toNatClampNeg (((gA v5 10) (x1).toNatClampNeg) + (nI 1))))) (pc1 := 86) [(.aload_n 0, .null, 0, 0), (.getfield 27, .null, 3, 5), (.iload_n 1, .null, 0, 0), (.bipush 26, .int (nI 26), 0, 0), (.imul, .null, 0, 0), (.iload_n 2, .null, 0, 0), (.iadd, .null, 0, 0), (.dup2, .null, 0, 0), (.iaload, .null, 0, 0), (.iconst 1, .int (nI 1), 0, 0), (.iload_n 3, .null, 0, 0), (.ishl, .null, 0, 0), (.ior, .null, 0, 0), (.iastore, .null, 0, 0), (.aload_n 0, .null, 0, 0), (.getfield 30, .null, 3, 6), (.iload_n 1, .null, 0, 0), (.dup2, .null, 0, 0), (.iaload, .null, 0, 0), (.iconst 1, .int (nI 1), 0, 0), (.iadd, .null, 0, 0), (.iastore, .null, 0, 0), (.aload_n 0, .null, 0, 0), (.getfield 30, .null, 3, 6), (.iload_n 1, .null, 0, 0), (.iaload, .null, 0, 0)] [(((x1 * (nI 26)) + x2), 104), (((x1 * (nI 26)) + x2), 104), (x1, 4), (x1, 4), (x1, 4)] (by decide +kernel) rfl ⟨hb8, hb9, hb10, hb11, hb12, trivial⟩ ?_
                exact xr_iret (by decide +kernel) rfl ⟨_, _, rfl, rfl, h⟩
              · replace h := h.2 hc
                refine xr_blk (lv1 := [(0, .ref 3), (1, .int x1), (2, .int x2), (3, .int x3)]) (st1 := [.int (-1)]) (S1 := rt v5) (pc1 := 52) [(.iconst (-1), .int (-1), 0, 0)] [] (by decide +kernel) rfl trivial ?_
                exact xr_iret (by decide +kernel) rfl ⟨_, _, rfl, rfl, h⟩
          · replace h := h.2 hc
            refine xr_blk (lv1 := [(0, .ref 3), (1, .int x1), (2, .int x2), (3, .int x3)]) (st1 := [.int (-1)]) (S1 := rt v3) (pc1 := 29) [(.iconst (-1), .int (-1), 0, 0)] [] (by decide +kernel) rfl trivial ?_
            exact xr_iret (by decide +kernel) rfl ⟨_, _, rfl, rfl, h⟩
theorem ok_29 : x_mOK 29 := ⟨x_tm3 (List.mem_of_getElem? (i := 140) rfl) rfl, 103, by decide +kernel⟩
/-! X3_hasHabit: method 30, ScrawlHouse$Lore.hasHabit(III)Z -/
set_option maxRecDepth 100000 in
theorem w_X3_hasHabit_0 {E : Nat × (Nat → Int32)} {d : Nat} {v : xV} {x1 : Int32} {x2 : Int32} {x3 : Int32} {Q : Int32 → xV → Prop} (h : vp_in ((x1 * (nI 26)) + x2) 104 ∧ (((((gA v 9) (((x1 * (nI 26)) + x2)).toNatClampNeg) &&& ((nI 1) <<< (x3 &&& 31))) = (nI 0) → Q (nI 0) v) ∧ (¬ (((gA v 9) (((x1 * (nI 26)) + x2)).toNatClampNeg) &&& ((nI 1) <<< (x3 &&& 31))) = (nI 0) → Q (nI 1) v))) : RI E d 30 0 [(0, .ref 3), (1, .int x1), (2, .int x2), (3, .int x3)] v Q := by
  unfold RI
  obtain ⟨hb1, h⟩ := h
  refine xr_blk (lv1 := [(0, .ref 3), (1, .int x1), (2, .int x2), (3, .int x3)]) (st1 := [.int (((gA v 9) (((x1 * (nI 26)) + x2)).toNatClampNeg) &&& ((nI 1) <<< (x3 &&& 31)))]) (S1 := rt v) (pc1 := 15) [(.aload_n 0, .null, 0, 0), (.getfield 27, .null, 3, 5), (.iload_n 1, .null, 0, 0), (.bipush 26, .int (nI 26), 0, 0), (.imul, .null, 0, 0), (.iload_n 2, .null, 0, 0), (.iadd, .null, 0, 0), (.iaload, .null, 0, 0), (.iconst 1, .int (nI 1), 0, 0), (.iload_n 3, .null, 0, 0), (.ishl, .null, 0, 0), (.iand, .null, 0, 0)] [(((x1 * (nI 26)) + x2), 104)] (by decide +kernel) rfl ⟨hb1, trivial⟩ ?_
  refine xr_if_eq (tgt := 22) (off := 7) (by decide +kernel) (by decide) (fun hc => ?_) (fun hc => ?_)
  · replace h := h.1 hc
    refine xr_blk (lv1 := [(0, .ref 3), (1, .int x1), (2, .int x2), (3, .int x3)]) (st1 := [.int (nI 0)]) (S1 := rt v) (pc1 := 23) [(.iconst 0, .int (nI 0), 0, 0)] [] (by decide +kernel) rfl trivial ?_
    exact xr_zret (by decide +kernel) rfl x_in2_0 ⟨_, _, rfl, rfl, h⟩
  · replace h := h.2 hc
    refine xr_blk (lv1 := [(0, .ref 3), (1, .int x1), (2, .int x2), (3, .int x3)]) (st1 := [.int (nI 1)]) (S1 := rt v) (pc1 := 19) [(.iconst 1, .int (nI 1), 0, 0)] [] (by decide +kernel) rfl trivial ?_
    refine xr_goto (tgt := 23) (off := 4) (by decide +kernel) (by decide) ?_
    exact xr_zret (by decide +kernel) rfl x_in2_1 ⟨_, _, rfl, rfl, h⟩
theorem ok_30 : x_mOK 30 := ⟨x_tm3 (List.mem_of_getElem? (i := 144) rfl) rfl, 103, by decide +kernel⟩

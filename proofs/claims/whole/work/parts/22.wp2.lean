/-! X6_search: method 62, ScrawlHouse$Reader.search(III)I -/
set_option maxRecDepth 100000 in
theorem w_X6_search_0 {E : Nat × (Nat → Int32)} {d : Nat} {v : xV} {x1 : Int32} {x2 : Int32} {x3 : Int32} {Q : Int32 → xV → Prop} (h : ∀ y1 : Int32, y1 = ((x1 * (nI 25)) + x2) → (((nI 6) < x3 → Q (-1 : Int32) v) ∧ (¬ (nI 6) < x3 → ((x1 < (nI 0) → Q (-1 : Int32) v) ∧ (¬ x1 < (nI 0) → ((x2 < (nI 0) → Q (-1 : Int32) v) ∧ (¬ x2 < (nI 0) → (((gI v 49 15) < x2 → Q (-1 : Int32) v) ∧ (¬ (gI v 49 15) < x2 → gK v (gb v) = 100 ∧ ((y1 < (Int32.ofNat (gN v (gb v))) → gK v (gb v) = 100 ∧ vp_in y1 (gN v (gb v)) ∧ ((((gA v (gb v)) (y1).toNatClampNeg) = (-2 : Int32) → gK v (gb v) = 100 ∧ vp_in y1 (gN v (gb v)) ∧ ∀ f7 : Nat → Int32, f7 = (upd (gA v (gb v)) (y1).toNatClampNeg (-1 : Int32)) → gK v (gb v + 1) = 100 ∧ vp_in y1 (gN v (gb v + 1)) ∧ ∀ f10 : Nat → Int32, f10 = (upd (gA (v_A v (gb v) f7) (gb v + 1)) (y1).toNatClampNeg (nI 0)) → gK v (gb v + 2) = 100 ∧ vp_in y1 (gN v (gb v + 2)) ∧ ∀ f13 : Nat → Int32, f13 = (upd (gA (v_A (v_A v (gb v) f7) (gb v + 1) f10) (gb v + 2)) (y1).toNatClampNeg (-1 : Int32)) → ((¬ x2 = (gI v 49 15) → KV E d 64 [.ref 49, .int x2] (v_A (v_A (v_A v (gb v) f7) (gb v + 1) f10) (gb v + 2) f13) (fun v14 => RI E (d + 1) 62 142 [(0, .ref 49), (1, .int x1), (2, .int x2), (3, .int x3), (4, .int y1), (5, .int (nI 0))] v14 Q)) ∧ (x2 = (gI v 49 15) → vp_in x1 512 ∧ ((((gA (v_A (v_A (v_A v (gb v) f7) (gb v + 1) f10) (gb v + 2) f13) 24) (x1).toNatClampNeg) = (nI 0) → gK v (gb v) = 100 ∧ vp_in y1 (gN v (gb v)) ∧ ∀ f18 : Nat → Int32, f18 = (upd (gA (v_A (v_A (v_A v (gb v) f7) (gb v + 1) f10) (gb v + 2) f13) (gb v)) (y1).toNatClampNeg (-1 : Int32)) → gK v (gb v + 1) = 100 ∧ vp_in y1 (gN v (gb v + 1)) ∧ ∀ f21 : Nat → Int32, f21 = (upd (gA (v_A (v_A (v_A (v_A v (gb v) f7) (gb v + 1) f10) (gb v + 2) f13) (gb v) f18) (gb v + 1)) (y1).toNatClampNeg (nI 1)) → gK v (gb v) = 100 ∧ vp_in y1 (gN v (gb v)) ∧ Q ((gA (v_A (v_A (v_A (v_A (v_A v (gb v) f7) (gb v + 1) f10) (gb v + 2) f13) (gb v) f18) (gb v + 1) f21) (gb v)) (y1).toNatClampNeg) (v_A (v_A (v_A (v_A (v_A v (gb v) f7) (gb v + 1) f10) (gb v + 2) f13) (gb v) f18) (gb v + 1) f21)) ∧ (¬ ((gA (v_A (v_A (v_A v (gb v) f7) (gb v + 1) f10) (gb v + 2) f13) 24) (x1).toNatClampNeg) = (nI 0) → gK v (gb v) = 100 ∧ vp_in y1 (gN v (gb v)) ∧ ∀ f26 : Nat → Int32, f26 = (upd (gA (v_A (v_A (v_A v (gb v) f7) (gb v + 1) f10) (gb v + 2) f13) (gb v)) (y1).toNatClampNeg (nI 0)) → gK v (gb v + 1) = 100 ∧ vp_in y1 (gN v (gb v + 1)) ∧ ∀ f29 : Nat → Int32, f29 = (upd (gA (v_A (v_A (v_A (v_A v (gb v) f7) (gb v + 1) f10) (gb v + 2) f13) (gb v) f26) (gb v + 1)) (y1).toNatClampNeg (nI 1)) → gK v (gb v) = 100 ∧ vp_in y1 (gN v (gb v)) ∧ Q ((gA (v_A (v_A (v_A (v_A (v_A v (gb v) f7) (gb v + 1) f10) (gb v + 2) f13) (gb v) f26) (gb v + 1) f29) (gb v)) (y1).toNatClampNeg) (v_A (v_A (v_A (v_A (v_A v (gb v) f7) (gb v + 1) f10) (gb v + 2) f13) (gb v) f26) (gb v + 1) f29)))))) ∧ (¬ ((gA v (gb v)) (y1).toNatClampNeg) = (-2 : Int32) → gK v (gb v) = 100 ∧ vp_in y1 (gN v (gb v)) ∧ Q ((gA v (gb v)) (y1).toNatClampNeg) v))) ∧ (¬ y1 < (Int32.ofNat (gN v (gb v))) → Q (-1 : Int32) v))))))))))) : RI E (d + 1) 62 0 [(0, .ref 49), (1, .int x1), (2, .int x2), (3, .int x3)] v Q := by
  unfold RI
  refine xr_blk (lv1 := [(0, .ref 49), (1, .int x1), (2, .int x2), (3, .int x3)]) (st1 := [.int ((x1 * (nI 25)) + x2)]) (S1 := rt v) (pc1 := 6) [(.iload_n 1, .null, 0, 0), (.bipush 25, .int (nI 25), 0, 0), (.imul, .null, 0, 0), (.iload_n 2, .null, 0, 0), (.iadd, .null, 0, 0)] [] (by decide +kernel) rfl trivial ?_
  refine xr_topi (fun y1 ey1 => ?_)
  replace h := h y1 ey1
  refine xr_blk (lv1 := [(4, .int y1), (0, .ref 49), (1, .int x1), (2, .int x2), (3, .int x3)]) (st1 := [.int (nI 6), .int x3]) (S1 := rt v) (pc1 := 11) [(.istore 4, .null, 0, 0), (.iload_n 3, .null, 0, 0), (.bipush 6, .int (nI 6), 0, 0)] [] (by decide +kernel) rfl trivial ?_
  refine xr_ic_gt (tgt := 40) (off := 29) (by decide +kernel) (by decide) (fun hc => ?_) (fun hc => ?_)
  · replace h := h.1 hc
    refine xr_blk (lv1 := [(4, .int y1), (0, .ref 49), (1, .int x1), (2, .int x2), (3, .int x3)]) (st1 := [.int (-1)]) (S1 := rt v) (pc1 := 41) [(.iconst (-1), .int (-1), 0, 0)] [] (by decide +kernel) rfl trivial ?_
    exact xr_iret (by decide +kernel) rfl ⟨_, _, rfl, rfl, h⟩
  · replace h := h.2 hc
    refine xr_blk (lv1 := [(4, .int y1), (0, .ref 49), (1, .int x1), (2, .int x2), (3, .int x3)]) (st1 := [.int x1]) (S1 := rt v) (pc1 := 15) [(.iload_n 1, .null, 0, 0)] [] (by decide +kernel) rfl trivial ?_
    refine xr_if_lt (tgt := 40) (off := 25) (by decide +kernel) (by decide) (fun hc => ?_) (fun hc => ?_)
    · replace h := h.1 hc
      refine xr_blk (lv1 := [(4, .int y1), (0, .ref 49), (1, .int x1), (2, .int x2), (3, .int x3)]) (st1 := [.int (-1)]) (S1 := rt v) (pc1 := 41) [(.iconst (-1), .int (-1), 0, 0)] [] (by decide +kernel) rfl trivial ?_
      exact xr_iret (by decide +kernel) rfl ⟨_, _, rfl, rfl, h⟩
    · replace h := h.2 hc
      refine xr_blk (lv1 := [(4, .int y1), (0, .ref 49), (1, .int x1), (2, .int x2), (3, .int x3)]) (st1 := [.int x2]) (S1 := rt v) (pc1 := 19) [(.iload_n 2, .null, 0, 0)] [] (by decide +kernel) rfl trivial ?_
      refine xr_if_lt (tgt := 40) (off := 21) (by decide +kernel) (by decide) (fun hc => ?_) (fun hc => ?_)
      · replace h := h.1 hc
        refine xr_blk (lv1 := [(4, .int y1), (0, .ref 49), (1, .int x1), (2, .int x2), (3, .int x3)]) (st1 := [.int (-1)]) (S1 := rt v) (pc1 := 41) [(.iconst (-1), .int (-1), 0, 0)] [] (by decide +kernel) rfl trivial ?_
        exact xr_iret (by decide +kernel) rfl ⟨_, _, rfl, rfl, h⟩
      · replace h := h.2 hc
        refine xr_blk (lv1 := [(4, .int y1), (0, .ref 49), (1, .int x1), (2, .int x2), (3, .int x3)]) (st1 := [.int (gI v 49 15), .int x2]) (S1 := rt v) (pc1 := 27) [(.iload_n 2, .null, 0, 0), (.aload_n 0, .null, 0, 0), (.getfield 47, .null, 6, 15)] [] (by decide +kernel) rfl trivial ?_
        refine xr_ic_gt (tgt := 40) (off := 13) (by decide +kernel) (by decide) (fun hc => ?_) (fun hc => ?_)
        · replace h := h.1 hc
          refine xr_blk (lv1 := [(4, .int y1), (0, .ref 49), (1, .int x1), (2, .int x2), (3, .int x3)]) (st1 := [.int (-1)]) (S1 := rt v) (pc1 := 41) [(.iconst (-1), .int (-1), 0, 0)] [] (by decide +kernel) rfl trivial ?_
          exact xr_iret (by decide +kernel) rfl ⟨_, _, rfl, rfl, h⟩
        · replace h := h.2 hc
          refine xr_blk (lv1 := [(4, .int y1), (0, .ref 49), (1, .int x1), (2, .int x2), (3, .int x3)]) (st1 := [.ref (gb v), .int y1]) (S1 := rt v) (pc1 := 36) [(.iload 4, .null, 0, 0), (.aload_n 0, .null, 0, 0), (.getfield 34, .null, 6, 11)] [] (by decide +kernel) rfl trivial ?_
          obtain ⟨hk2, h⟩ := h
          refine xr_alen (by decide +kernel) hk2 ?_
          show x_R E (d + 1) 62 37 [(4, .int y1), (0, .ref 49), (1, .int x1), (2, .int x2), (3, .int x3)] [.int (Int32.ofNat (gN v (gb v))), .int y1] (rt v) _
          refine xr_ic_lt (tgt := 42) (off := 5) (by decide +kernel) (by decide) (fun hc => ?_) (fun hc => ?_)
          · replace h := h.1 hc
            refine xr_blk (lv1 := [(4, .int y1), (0, .ref 49), (1, .int x1), (2, .int x2), (3, .int x3)]) (st1 := [.int y1, .ref (gb v)]) (S1 := rt v) (pc1 := 48) [(.aload_n 0, .null, 0, 0), (.getfield 34, .null, 6, 11), (.iload 4, .null, 0, 0)] [] (by decide +kernel) rfl trivial ?_
            obtain ⟨hk4, hb3, h⟩ := h
            refine xr_iald (by decide +kernel) hk4 hb3 ?_
            show x_R E (d + 1) 62 49 [(4, .int y1), (0, .ref 49), (1, .int x1), (2, .int x2), (3, .int x3)] [.int ((gA v (gb v)) (y1).toNatClampNeg)] (rt v) _
            refine xr_blk (lv1 := [(4, .int y1), (0, .ref 49), (1, .int x1), (2, .int x2), (3, .int x3)]) (st1 := [.int (-2), .int ((gA v (gb v)) (y1).toNatClampNeg)]) (S1 := rt v) (pc1 := 51) [(.bipush (-2), .int (-2), 0, 0)] [] (by decide +kernel) rfl trivial ?_
            refine xr_ic_eq (tgt := 62) (off := 11) (by decide +kernel) (by decide) (fun hc => ?_) (fun hc => ?_)
            · replace h := h.1 hc
              refine xr_blk (lv1 := [(4, .int y1), (0, .ref 49), (1, .int x1), (2, .int x2), (3, .int x3)]) (st1 := [.int (-1), .int y1, .ref (gb v)]) (S1 := rt v) (pc1 := 69) [(.aload_n 0, .null, 0, 0), (.getfield 34, .null, 6, 11), (.iload 4, .null, 0, 0), (.iconst (-1), .int (-1), 0, 0)] [] (by decide +kernel) rfl trivial ?_
              obtain ⟨hk6, hb5, h⟩ := h
              refine xr_iast (by decide +kernel) hk6 hb5 ?_
              show x_R E (d + 1) 62 70 [(4, .int y1), (0, .ref 49), (1, .int x1), (2, .int x2), (3, .int x3)] [] (rt (v_A v (gb v) (upd (gA v (gb v)) (y1).toNatClampNeg (-1 : Int32)))) _
              refine (fun (k : ∀ f7 : Nat → Int32, f7 = (upd (gA v (gb v)) (y1).toNatClampNeg (-1 : Int32)) → x_R E (d + 1) 62 70 [(4, .int y1), (0, .ref 49), (1, .int x1), (2, .int x2), (3, .int x3)] [] (rt (v_A v (gb v) f7)) _) => k _ rfl) (fun f7 ef7 => ?_)
              replace h := h f7 ef7
              refine xr_blk (lv1 := [(4, .int y1), (0, .ref 49), (1, .int x1), (2, .int x2), (3, .int x3)]) (st1 := [.int (nI 0), .int y1, .ref (gb v + 1)]) (S1 := rt (v_A v (gb v) f7)) (pc1 := 77) [(.aload_n 0, .null, 0, 0), (.getfield 37, .null, 6, 12), (.iload 4, .null, 0, 0), (.iconst 0, .int (nI 0), 0, 0)] [] (by decide +kernel) rfl trivial ?_
              obtain ⟨hk9, hb8, h⟩ := h
              refine xr_iast (by decide +kernel) hk9 hb8 ?_
              show x_R E (d + 1) 62 78 [(4, .int y1), (0, .ref 49), (1, .int x1), (2, .int x2), (3, .int x3)] [] (rt (v_A (v_A v (gb v) f7) (gb v + 1) (upd (gA (v_A v (gb v) f7) (gb v + 1)) (y1).toNatClampNeg (nI 0)))) _
              refine (fun (k : ∀ f10 : Nat → Int32, f10 = (upd (gA (v_A v (gb v) f7) (gb v + 1)) (y1).toNatClampNeg (nI 0)) → x_R E (d + 1) 62 78 [(4, .int y1), (0, .ref 49), (1, .int x1), (2, .int x2), (3, .int x3)] [] (rt (v_A (v_A v (gb v) f7) (gb v + 1) f10)) _) => k _ rfl) (fun f10 ef10 => ?_)
              replace h := h f10 ef10
              refine xr_blk (lv1 := [(4, .int y1), (0, .ref 49), (1, .int x1), (2, .int x2), (3, .int x3)]) (st1 := [.int (-1), .int y1, .ref (gb v + 2)]) (S1 := rt (v_A (v_A v (gb v) f7) (gb v + 1) f10)) (pc1 := 85) [(.aload_n 0, .null, 0, 0), (.getfield 40, .null, 6, 13), (.iload 4, .null, 0, 0), (.iconst (-1), .int (-1), 0, 0)] [] (by decide +kernel) rfl trivial ?_
              obtain ⟨hk12, hb11, h⟩ := h
              refine xr_iast (by decide +kernel) hk12 hb11 ?_
              show x_R E (d + 1) 62 86 [(4, .int y1), (0, .ref 49), (1, .int x1), (2, .int x2), (3, .int x3)] [] (rt (v_A (v_A (v_A v (gb v) f7) (gb v + 1) f10) (gb v + 2) (upd (gA (v_A (v_A v (gb v) f7) (gb v + 1) f10) (gb v + 2)) (y1).toNatClampNeg (-1 : Int32)))) _
              refine (fun (k : ∀ f13 : Nat → Int32, f13 = (upd (gA (v_A (v_A v (gb v) f7) (gb v + 1) f10) (gb v + 2)) (y1).toNatClampNeg (-1 : Int32)) → x_R E (d + 1) 62 86 [(4, .int y1), (0, .ref 49), (1, .int x1), (2, .int x2), (3, .int x3)] [] (rt (v_A (v_A (v_A v (gb v) f7) (gb v + 1) f10) (gb v + 2) f13)) _) => k _ rfl) (fun f13 ef13 => ?_)
              replace h := h f13 ef13
              refine xr_blk (lv1 := [(4, .int y1), (0, .ref 49), (1, .int x1), (2, .int x2), (3, .int x3)]) (st1 := [.int (gI v 49 15), .int x2]) (S1 := rt (v_A (v_A (v_A v (gb v) f7) (gb v + 1) f10) (gb v + 2) f13)) (pc1 := 91) [(.iload_n 2, .null, 0, 0), (.aload_n 0, .null, 0, 0), (.getfield 47, .null, 6, 15)] [] (by decide +kernel) rfl trivial ?_
              refine xr_ic_ne (tgt := 134) (off := 43) (by decide +kernel) (by decide) (fun hc => ?_) (fun hc => ?_)
              · replace h := h.1 hc
                refine xr_blk (lv1 := [(4, .int y1), (0, .ref 49), (1, .int x1), (2, .int x2), (3, .int x3)]) (st1 := [.int x2, .ref 49]) (S1 := rt (v_A (v_A (v_A v (gb v) f7) (gb v + 1) f10) (gb v + 2) f13)) (pc1 := 136) [(.aload_n 0, .null, 0, 0), (.iload_n 2, .null, 0, 0)] [] (by decide +kernel) rfl trivial ?_
                refine xk_VV (As := [.int x2]) (bb := 49) (rest := []) (idx := 182) (i0 := 182) (m1 := 64) (ps := [970, 972, 21]) (by decide +kernel) (by decide +kernel) (by decide) rfl ((gK_s (by decide)).trans (by decide +kernel)) (by decide) (Nat.le_of_ble_eq_true rfl) rfl h (fun v14 h => ?_)
                refine xr_blk (lv1 := [(5, .int (nI 0)), (4, .int y1), (0, .ref 49), (1, .int x1), (2, .int x2), (3, .int x3)]) (st1 := []) (S1 := rt v14) (pc1 := 142) [(.iconst 0, .int (nI 0), 0, 0), (.istore 5, .null, 0, 0)] [] (by decide +kernel) rfl trivial ?_
                exact x_R.sub [2, 3, 4, 5, 1, 0] rfl h
              · replace h := h.2 hc
                obtain ⟨hb15, h⟩ := h
                refine xr_blk (lv1 := [(4, .int y1), (0, .ref 49), (1, .int x1), (2, .int x2), (3, .int x3)]) (st1 := [.int ((gA (v_A (v_A (v_A v (gb v) f7) (gb v + 1) f10) (gb v + 2) f13) 24) (x1).toNatClampNeg), .int y1, .ref (gb v)]) (S1 := rt (v_A (v_A (v_A v (gb v) f7) (gb v + 1) f10) (gb v + 2) f13)) (pc1 := 109) [(.aload_n 0, .null, 0, 0), (.getfield 34, .null, 6, 11), (.iload 4, .null, 0, 0), (.aload_n 0, .null, 0, 0), (.getfield 54, .null, 6, 1), (.getfield 179, .null, 4, 2), (.iload_n 1, .null, 0, 0), (.baload, .null, 0, 0)] [(x1, 512)] (by decide +kernel) rfl ⟨hb15, trivial⟩ ?_
                refine xr_if_eq (tgt := 116) (off := 7) (by decide +kernel) (by decide) (fun hc => ?_) (fun hc => ?_)
                · replace h := h.1 hc
                  refine xr_blk (lv1 := [(4, .int y1), (0, .ref 49), (1, .int x1), (2, .int x2), (3, .int x3)]) (st1 := [.int (-1), .int y1, .ref (gb v)]) (S1 := rt (v_A (v_A (v_A v (gb v) f7) (gb v + 1) f10) (gb v + 2) f13)) (pc1 := 117) [(.iconst (-1), .int (-1), 0, 0)] [] (by decide +kernel) rfl trivial ?_
                  obtain ⟨hk17, hb16, h⟩ := h
                  refine xr_iast (by decide +kernel) hk17 hb16 ?_
                  show x_R E (d + 1) 62 118 [(4, .int y1), (0, .ref 49), (1, .int x1), (2, .int x2), (3, .int x3)] [] (rt (v_A (v_A (v_A (v_A v (gb v) f7) (gb v + 1) f10) (gb v + 2) f13) (gb v) (upd (gA (v_A (v_A (v_A v (gb v) f7) (gb v + 1) f10) (gb v + 2) f13) (gb v)) (y1).toNatClampNeg (-1 : Int32)))) _
                  refine (fun (k : ∀ f18 : Nat → Int32, f18 = (upd (gA (v_A (v_A (v_A v (gb v) f7) (gb v + 1) f10) (gb v + 2) f13) (gb v)) (y1).toNatClampNeg (-1 : Int32)) → x_R E (d + 1) 62 118 [(4, .int y1), (0, .ref 49), (1, .int x1), (2, .int x2), (3, .int x3)] [] (rt (v_A (v_A (v_A (v_A v (gb v) f7) (gb v + 1) f10) (gb v + 2) f13) (gb v) f18)) _) => k _ rfl) (fun f18 ef18 => ?_)
                  replace h := h f18 ef18
                  refine xr_blk (lv1 := [(4, .int y1), (0, .ref 49), (1, .int x1), (2, .int x2), (3, .int x3)]) (st1 := [.int (nI 1), .int y1, .ref (gb v + 1)]) (S1 := rt (v_A (v_A (v_A (v_A v (gb v) f7) (gb v + 1) f10) (gb v + 2) f13) (gb v) f18)) (pc1 := 125) [(.aload_n 0, .null, 0, 0), (.getfield 37, .null, 6, 12), (.iload 4, .null, 0, 0), (.iconst 1, .int (nI 1), 0, 0)] [] (by decide +kernel) rfl trivial ?_
                  obtain ⟨hk20, hb19, h⟩ := h
                  refine xr_iast (by decide +kernel) hk20 hb19 ?_
                  show x_R E (d + 1) 62 126 [(4, .int y1), (0, .ref 49), (1, .int x1), (2, .int x2), (3, .int x3)] [] (rt (v_A (v_A (v_A (v_A (v_A v (gb v) f7) (gb v + 1) f10) (gb v + 2) f13) (gb v) f18) (gb v + 1) (upd (gA (v_A (v_A (v_A (v_A v (gb v) f7) (gb v + 1) f10) (gb v + 2) f13) (gb v) f18) (gb v + 1)) (y1).toNatClampNeg (nI 1)))) _
                  refine (fun (k : ∀ f21 : Nat → Int32, f21 = (upd (gA (v_A (v_A (v_A (v_A v (gb v) f7) (gb v + 1) f10) (gb v + 2) f13) (gb v) f18) (gb v + 1)) (y1).toNatClampNeg (nI 1)) → x_R E (d + 1) 62 126 [(4, .int y1), (0, .ref 49), (1, .int x1), (2, .int x2), (3, .int x3)] [] (rt (v_A (v_A (v_A (v_A (v_A v (gb v) f7) (gb v + 1) f10) (gb v + 2) f13) (gb v) f18) (gb v + 1) f21)) _) => k _ rfl) (fun f21 ef21 => ?_)
                  replace h := h f21 ef21
                  refine xr_blk (lv1 := [(4, .int y1), (0, .ref 49), (1, .int x1), (2, .int x2), (3, .int x3)]) (st1 := [.int y1, .ref (gb v)]) (S1 := rt (v_A (v_A (v_A (v_A (v_A v (gb v) f7) (gb v + 1) f10) (gb v + 2) f13) (gb v) f18) (gb v + 1) f21)) (pc1 := 132) [(.aload_n 0, .null, 0, 0), (.getfield 34, .null, 6, 11), (.iload 4, .null, 0, 0)] [] (by decide +kernel) rfl trivial ?_
                  obtain ⟨hk23, hb22, h⟩ := h
                  refine xr_iald (by decide +kernel) hk23 hb22 ?_
                  show x_R E (d + 1) 62 133 [(4, .int y1), (0, .ref 49), (1, .int x1), (2, .int x2), (3, .int x3)] [.int ((gA (v_A (v_A (v_A (v_A (v_A v (gb v) f7) (gb v + 1) f10) (gb v + 2) f13) (gb v) f18) (gb v + 1) f21) (gb v)) (y1).toNatClampNeg)] (rt (v_A (v_A (v_A (v_A (v_A v (gb v) f7) (gb v + 1) f10) (gb v + 2) f13) (gb v) f18) (gb v + 1) f21)) _
                  exact xr_iret (by decide +kernel) rfl ⟨_, _, rfl, rfl, h⟩
                · replace h := h.2 hc
                  refine xr_blk (lv1 := [(4, .int y1), (0, .ref 49), (1, .int x1), (2, .int x2), (3, .int x3)]) (st1 := [.int (nI 0), .int y1, .ref (gb v)]) (S1 := rt (v_A (v_A (v_A v (gb v) f7) (gb v + 1) f10) (gb v + 2) f13)) (pc1 := 113) [(.iconst 0, .int (nI 0), 0, 0)] [] (by decide +kernel) rfl trivial ?_
                  refine xr_goto (tgt := 117) (off := 4) (by decide +kernel) (by decide) ?_
                  obtain ⟨hk25, hb24, h⟩ := h
                  refine xr_iast (by decide +kernel) hk25 hb24 ?_
                  show x_R E (d + 1) 62 118 [(4, .int y1), (0, .ref 49), (1, .int x1), (2, .int x2), (3, .int x3)] [] (rt (v_A (v_A (v_A (v_A v (gb v) f7) (gb v + 1) f10) (gb v + 2) f13) (gb v) (upd (gA (v_A (v_A (v_A v (gb v) f7) (gb v + 1) f10) (gb v + 2) f13) (gb v)) (y1).toNatClampNeg (nI 0)))) _
                  refine (fun (k : ∀ f26 : Nat → Int32, f26 = (upd (gA (v_A (v_A (v_A v (gb v) f7) (gb v + 1) f10) (gb v + 2) f13) (gb v)) (y1).toNatClampNeg (nI 0)) → x_R E (d + 1) 62 118 [(4, .int y1), (0, .ref 49), (1, .int x1), (2, .int x2), (3, .int x3)] [] (rt (v_A (v_A (v_A (v_A v (gb v) f7) (gb v + 1) f10) (gb v + 2) f13) (gb v) f26)) _) => k _ rfl) (fun f26 ef26 => ?_)
                  replace h := h f26 ef26
                  refine xr_blk (lv1 := [(4, .int y1), (0, .ref 49), (1, .int x1), (2, .int x2), (3, .int x3)]) (st1 := [.int (nI 1), .int y1, .ref (gb v + 1)]) (S1 := rt (v_A (v_A (v_A (v_A v (gb v) f7) (gb v + 1) f10) (gb v + 2) f13) (gb v) f26)) (pc1 := 125) [(.aload_n 0, .null, 0, 0), (.getfield 37, .null, 6, 12), (.iload 4, .null, 0, 0), (.iconst 1, .int (nI 1), 0, 0)] [] (by decide +kernel) rfl trivial ?_
                  obtain ⟨hk28, hb27, h⟩ := h
                  refine xr_iast (by decide +kernel) hk28 hb27 ?_
                  show x_R E (d + 1) 62 126 [(4, .int y1), (0, .ref 49), (1, .int x1), (2, .int x2), (3, .int x3)] [] (rt (v_A (v_A (v_A (v_A (v_A v (gb v) f7) (gb v + 1) f10) (gb v + 2) f13) (gb v) f26) (gb v + 1) (upd (gA (v_A (v_A (v_A (v_A v (gb v) f7) (gb v + 1) f10) (gb v + 2) f13) (gb v) f26) (gb v + 1)) (y1).toNatClampNeg (nI 1)))) _
                  refine (fun (k : ∀ f29 : Nat → Int32, f29 = (upd (gA (v_A (v_A (v_A (v_A v (gb v) f7) (gb v + 1) f10) (gb v + 2) f13) (gb v) f26) (gb v + 1)) (y1).toNatClampNeg (nI 1)) → x_R E (d + 1) 62 126 [(4, .int y1), (0, .ref 49), (1, .int x1), (2, .int x2), (3, .int x3)] [] (rt (v_A (v_A (v_A (v_A (v_A v (gb v) f7) (gb v + 1) f10) (gb v + 2) f13) (gb v) f26) (gb v + 1) f29)) _) => k _ rfl) (fun f29 ef29 => ?_)
                  replace h := h f29 ef29
                  refine xr_blk (lv1 := [(4, .int y1), (0, .ref 49), (1, .int x1), (2, .int x2), (3, .int x3)]) (st1 := [.int y1, .ref (gb v)]) (S1 := rt (v_A (v_A (v_A (v_A (v_A v (gb v) f7) (gb v + 1) f10) (gb v + 2) f13) (gb v) f26) (gb v + 1) f29)) (pc1 := 132) [(.aload_n 0, .null, 0, 0), (.getfield 34, .null, 6, 11), (.iload 4, .null, 0, 0)] [] (by decide +kernel) rfl trivial ?_
                  obtain ⟨hk31, hb30, h⟩ := h
                  refine xr_iald (by decide +kernel) hk31 hb30 ?_
                  show x_R E (d + 1) 62 133 [(4, .int y1), (0, .ref 49), (1, .int x1), (2, .int x2), (3, .int x3)] [.int ((gA (v_A (v_A (v_A (v_A (v_A v (gb v) f7) (gb v + 1) f10) (gb v + 2) f13) (gb v) f26) (gb v + 1) f29) (gb v)) (y1).toNatClampNeg)] (rt (v_A (v_A (v_A (v_A (v_A v (gb v) f7) (gb v + 1) f10) (gb v + 2) f13) (gb v) f26) (gb v + 1) f29)) _
                  exact xr_iret (by decide +kernel) rfl ⟨_, _, rfl, rfl, h⟩
            · replace h := h.2 hc
              refine xr_blk (lv1 := [(4, .int y1), (0, .ref 49), (1, .int x1), (2, .int x2), (3, .int x3)]) (st1 := [.int y1, .ref (gb v)]) (S1 := rt v) (pc1 := 60) [(.aload_n 0, .null, 0, 0), (.getfield 34, .null, 6, 11), (.iload 4, .null, 0, 0)] [] (by decide +kernel) rfl trivial ?_
              obtain ⟨hk33, hb32, h⟩ := h
              refine xr_iald (by decide +kernel) hk33 hb32 ?_
              show x_R E (d + 1) 62 61 [(4, .int y1), (0, .ref 49), (1, .int x1), (2, .int x2), (3, .int x3)] [.int ((gA v (gb v)) (y1).toNatClampNeg)] (rt v) _
              exact xr_iret (by decide +kernel) rfl ⟨_, _, rfl, rfl, h⟩
          · replace h := h.2 hc
            refine xr_blk (lv1 := [(4, .int y1), (0, .ref 49), (1, .int x1), (2, .int x2), (3, .int x3)]) (st1 := [.int (-1)]) (S1 := rt v) (pc1 := 41) [(.iconst (-1), .int (-1), 0, 0)] [] (by decide +kernel) rfl trivial ?_
            exact xr_iret (by decide +kernel) rfl ⟨_, _, rfl, rfl, h⟩
set_option maxRecDepth 100000 in
theorem w_X6_search_142 {E : Nat × (Nat → Int32)} {d : Nat} {v : xV} {x1 : Int32} {x2 : Int32} {x3 : Int32} {x4 : Int32} {x5 : Int32} {Q : Int32 → xV → Prop} (h : (((nI 5) ≤ x5 → gK v (gb v) = 100 ∧ vp_in x4 (gN v (gb v)) ∧ Q ((gA v (gb v)) (x4).toNatClampNeg) v) ∧ (¬ (nI 5) ≤ x5 → KI E d 34 [.ref 21, .int x1, .int x5] v (fun y4 v3 => RI E (d + 1) 62 163 [(0, .ref 49), (1, .int x1), (2, .int x2), (3, .int x3), (4, .int x4), (5, .int x5), (6, .int y4), (7, .int (nI 1))] v3 Q)))) : RI E (d + 1) 62 142 [(0, .ref 49), (1, .int x1), (2, .int x2), (3, .int x3), (4, .int x4), (5, .int x5)] v Q := by
  unfold RI
  refine xr_blk (lv1 := [(0, .ref 49), (1, .int x1), (2, .int x2), (3, .int x3), (4, .int x4), (5, .int x5)]) (st1 := [.int (nI 5), .int x5]) (S1 := rt v) (pc1 := 145) [(.iload 5, .null, 0, 0), (.iconst 5, .int (nI 5), 0, 0)] [] (by decide +kernel) rfl trivial ?_
  refine xr_ic_ge (tgt := 249) (off := 104) (by decide +kernel) (by decide) (fun hc => ?_) (fun hc => ?_)
  · replace h := h.1 hc
    refine xr_blk (lv1 := [(0, .ref 49), (1, .int x1), (2, .int x2), (3, .int x3), (4, .int x4), (5, .int x5)]) (st1 := [.int x4, .ref (gb v)]) (S1 := rt v) (pc1 := 255) [(.aload_n 0, .null, 0, 0), (.getfield 34, .null, 6, 11), (.iload 4, .null, 0, 0)] [] (by decide +kernel) rfl trivial ?_
    obtain ⟨hk2, hb1, h⟩ := h
    refine xr_iald (by decide +kernel) hk2 hb1 ?_
    show x_R E (d + 1) 62 256 [(0, .ref 49), (1, .int x1), (2, .int x2), (3, .int x3), (4, .int x4), (5, .int x5)] [.int ((gA v (gb v)) (x4).toNatClampNeg)] (rt v) _
    exact xr_iret (by decide +kernel) rfl ⟨_, _, rfl, rfl, h⟩
  · replace h := h.2 hc
    refine xr_blk (lv1 := [(0, .ref 49), (1, .int x1), (2, .int x2), (3, .int x3), (4, .int x4), (5, .int x5)]) (st1 := [.int x5, .int x1, .ref 21]) (S1 := rt v) (pc1 := 155) [(.aload_n 0, .null, 0, 0), (.getfield 54, .null, 6, 1), (.iload_n 1, .null, 0, 0), (.iload 5, .null, 0, 0)] [] (by decide +kernel) rfl trivial ?_
    refine xk_VI (As := [.int x1, .int x5]) (bb := 21) (rest := []) (idx := 185) (i0 := 185) (m1 := 34) (ps := [978, 979, 980]) (by decide +kernel) (by decide +kernel) (by decide) rfl ((gK_s (by decide)).trans (by decide +kernel)) (by decide) (Nat.le_of_ble_eq_true rfl) rfl h (fun y4 v3 h => ?_)
    refine xr_blk (lv1 := [(7, .int (nI 1)), (6, .int y4), (0, .ref 49), (1, .int x1), (2, .int x2), (3, .int x3), (4, .int x4), (5, .int x5)]) (st1 := []) (S1 := rt v3) (pc1 := 163) [(.istore 6, .null, 0, 0), (.iconst 1, .int (nI 1), 0, 0), (.istore 7, .null, 0, 0)] [] (by decide +kernel) rfl trivial ?_
    exact x_R.sub [2, 3, 4, 5, 6, 7, 1, 0] rfl h
set_option maxRecDepth 100000 in
theorem w_X6_search_163 {E : Nat × (Nat → Int32)} {d : Nat} {v : xV} {x1 : Int32} {x2 : Int32} {x3 : Int32} {x4 : Int32} {x5 : Int32} {x6 : Int32} {x7 : Int32} {Q : Int32 → xV → Prop} (h : ((x6 = (-1 : Int32) → RI E (d + 1) 62 142 [(0, .ref 49), (1, .int x1), (2, .int x2), (3, .int x3), (4, .int x4), (5, .int (x5 + (nI 1)))] v Q) ∧ (¬ x6 = (-1 : Int32) → (((nI 10) < x7 → RI E (d + 1) 62 142 [(0, .ref 49), (1, .int x1), (2, .int x2), (3, .int x3), (4, .int x4), (5, .int (x5 + (nI 1)))] v Q) ∧ (¬ (nI 10) < x7 → ∀ y1 : Int32, y1 = ((((x2 * (nI 50)) + (x5 * (nI 10))) + x7) - (nI 1)) → vp_in y1 1200 ∧ ((((gA v 54) (y1).toNatClampNeg) ≤ (nI 0) → RI E (d + 1) 62 163 [(0, .ref 49), (1, .int x1), (2, .int x2), (3, .int x3), (4, .int x4), (5, .int x5), (6, .int x6), (7, .int (x7 + (nI 1)))] v Q) ∧ (¬ ((gA v 54) (y1).toNatClampNeg) ≤ (nI 0) → KI E d 62 [.ref 49, .int x6, .int (x2 + x7), .int (x3 + (nI 1))] v (fun y4 v3 => ((y4 < (nI 0) → RI E (d + 1) 62 163 [(0, .ref 49), (1, .int x1), (2, .int x2), (3, .int x3), (4, .int x4), (5, .int x5), (6, .int x6), (7, .int (x7 + (nI 1)))] v3 Q) ∧ (¬ y4 < (nI 0) → KV E d 63 [.ref 49, .int x4, .int y1, .int (((x6 * (nI 25)) + x2) + x7)] v3 (fun v5 => RI E (d + 1) 62 163 [(0, .ref 49), (1, .int x1), (2, .int x2), (3, .int x3), (4, .int x4), (5, .int x5), (6, .int x6), (7, .int (x7 + (nI 1)))] v5 Q))))))))))) : RI E (d + 1) 62 163 [(0, .ref 49), (1, .int x1), (2, .int x2), (3, .int x3), (4, .int x4), (5, .int x5), (6, .int x6), (7, .int x7)] v Q := by
  unfold RI
  refine xr_blk (lv1 := [(0, .ref 49), (1, .int x1), (2, .int x2), (3, .int x3), (4, .int x4), (5, .int x5), (6, .int x6), (7, .int x7)]) (st1 := [.int (-1), .int x6]) (S1 := rt v) (pc1 := 166) [(.iload 6, .null, 0, 0), (.iconst (-1), .int (-1), 0, 0)] [] (by decide +kernel) rfl trivial ?_
  refine xr_ic_eq (tgt := 243) (off := 77) (by decide +kernel) (by decide) (fun hc => ?_) (fun hc => ?_)
  · replace h := h.1 hc
    refine xr_blk (lv1 := [(5, .int (x5 + (nI 1))), (0, .ref 49), (1, .int x1), (2, .int x2), (3, .int x3), (4, .int x4), (6, .int x6), (7, .int x7)]) (st1 := []) (S1 := rt v) (pc1 := 246) [(.iinc 5 1, .int (nI 1), 0, 0)] [] (by decide +kernel) rfl trivial ?_
    refine xr_goto (tgt := 142) (off := -104) (by decide +kernel) (by decide) ?_
    exact x_R.sub [1, 2, 3, 4, 5, 0] rfl h
  · replace h := h.2 hc
    refine xr_blk (lv1 := [(0, .ref 49), (1, .int x1), (2, .int x2), (3, .int x3), (4, .int x4), (5, .int x5), (6, .int x6), (7, .int x7)]) (st1 := [.int (nI 10), .int x7]) (S1 := rt v) (pc1 := 173) [(.iload 7, .null, 0, 0), (.bipush 10, .int (nI 10), 0, 0)] [] (by decide +kernel) rfl trivial ?_
    refine xr_ic_gt (tgt := 243) (off := 70) (by decide +kernel) (by decide) (fun hc => ?_) (fun hc => ?_)
    · replace h := h.1 hc
      refine xr_blk (lv1 := [(5, .int (x5 + (nI 1))), (0, .ref 49), (1, .int x1), (2, .int x2), (3, .int x3), (4, .int x4), (6, .int x6), (7, .int x7)]) (st1 := []) (S1 := rt v) (pc1 := 246) [(.iinc 5 1, .int (nI 1), 0, 0)] [] (by decide +kernel) rfl trivial ?_
      refine xr_goto (tgt := 142) (off := -104) (by decide +kernel) (by decide) ?_
      exact x_R.sub [1, 2, 3, 4, 5, 0] rfl h
    · replace h := h.2 hc
      refine xr_blk (lv1 := [(0, .ref 49), (1, .int x1), (2, .int x2), (3, .int x3), (4, .int x4), (5, .int x5), (6, .int x6), (7, .int x7)]) (st1 := [.int ((((x2 * (nI 50)) + (x5 * (nI 10))) + x7) - (nI 1))]) (S1 := rt v) (pc1 := 191) [(.iload_n 2, .null, 0, 0), (.bipush 50, .int (nI 50), 0, 0), (.imul, .null, 0, 0), (.iload 5, .null, 0, 0), (.bipush 10, .int (nI 10), 0, 0), (.imul, .null, 0, 0), (.iadd, .null, 0, 0), (.iload 7, .null, 0, 0), (.iadd, .null, 0, 0), (.iconst 1, .int (nI 1), 0, 0), (.isub, .null, 0, 0)] [] (by decide +kernel) rfl trivial ?_
      refine xr_topi (fun y1 ey1 => ?_)
      replace h := h y1 ey1
      obtain ⟨hb2, h⟩ := h
      refine xr_blk (lv1 := [(8, .int y1), (0, .ref 49), (1, .int x1), (2, .int x2), (3, .int x3), (4, .int x4), (5, .int x5), (6, .int x6), (7, .int x7)]) (st1 := [.int ((gA v 54) (y1).toNatClampNeg)]) (S1 := rt v) (pc1 := 200) [(.istore 8, .null, 0, 0), (.aload_n 0, .null, 0, 0), (.getfield 25, .null, 6, 8), (.iload 8, .null, 0, 0), (.iaload, .null, 0, 0)] [(y1, 1200)] (by decide +kernel) rfl ⟨hb2, trivial⟩ ?_
      refine xr_if_le (tgt := 237) (off := 37) (by decide +kernel) (by decide) (fun hc => ?_) (fun hc => ?_)
      · replace h := h.1 hc
        refine xr_blk (lv1 := [(7, .int (x7 + (nI 1))), (8, .int y1), (0, .ref 49), (1, .int x1), (2, .int x2), (3, .int x3), (4, .int x4), (5, .int x5), (6, .int x6)]) (st1 := []) (S1 := rt v) (pc1 := 240) [(.iinc 7 1, .int (nI 1), 0, 0)] [] (by decide +kernel) rfl trivial ?_
        refine xr_goto (tgt := 163) (off := -77) (by decide +kernel) (by decide) ?_
        exact x_R.sub [2, 3, 4, 5, 6, 7, 8, 0] rfl h
      · replace h := h.2 hc
        refine xr_blk (lv1 := [(8, .int y1), (0, .ref 49), (1, .int x1), (2, .int x2), (3, .int x3), (4, .int x4), (5, .int x5), (6, .int x6), (7, .int x7)]) (st1 := [.int (x3 + (nI 1)), .int (x2 + x7), .int x6, .ref 49]) (S1 := rt v) (pc1 := 213) [(.aload_n 0, .null, 0, 0), (.iload 6, .null, 0, 0), (.iload_n 2, .null, 0, 0), (.iload 7, .null, 0, 0), (.iadd, .null, 0, 0), (.iload_n 3, .null, 0, 0), (.iconst 1, .int (nI 1), 0, 0), (.iadd, .null, 0, 0)] [] (by decide +kernel) rfl trivial ?_
        refine xk_VI (As := [.int x6, .int (x2 + x7), .int (x3 + (nI 1))]) (bb := 49) (rest := []) (idx := 98) (i0 := 98) (m1 := 62) (ps := [966, 968, 20]) (by decide +kernel) (by decide +kernel) (by decide) rfl ((gK_s (by decide)).trans (by decide +kernel)) (by decide) (Nat.le_of_ble_eq_true rfl) rfl h (fun y4 v3 h => ?_)
        refine xr_if_lt (tgt := 237) (off := 21) (by decide +kernel) (by decide) (fun hc => ?_) (fun hc => ?_)
        · replace h := h.1 hc
          refine xr_blk (lv1 := [(7, .int (x7 + (nI 1))), (8, .int y1), (0, .ref 49), (1, .int x1), (2, .int x2), (3, .int x3), (4, .int x4), (5, .int x5), (6, .int x6)]) (st1 := []) (S1 := rt v3) (pc1 := 240) [(.iinc 7 1, .int (nI 1), 0, 0)] [] (by decide +kernel) rfl trivial ?_
          refine xr_goto (tgt := 163) (off := -77) (by decide +kernel) (by decide) ?_
          exact x_R.sub [2, 3, 4, 5, 6, 7, 8, 0] rfl h
        · replace h := h.2 hc
          refine xr_blk (lv1 := [(8, .int y1), (0, .ref 49), (1, .int x1), (2, .int x2), (3, .int x3), (4, .int x4), (5, .int x5), (6, .int x6), (7, .int x7)]) (st1 := [.int (((x6 * (nI 25)) + x2) + x7), .int y1, .int x4, .ref 49]) (S1 := rt v3) (pc1 := 234) [(.aload_n 0, .null, 0, 0), (.iload 4, .null, 0, 0), (.iload 8, .null, 0, 0), (.iload 6, .null, 0, 0), (.bipush 25, .int (nI 25), 0, 0), (.imul, .null, 0, 0), (.iload_n 2, .null, 0, 0), (.iadd, .null, 0, 0), (.iload 7, .null, 0, 0), (.iadd, .null, 0, 0)] [] (by decide +kernel) rfl trivial ?_
          refine xk_VV (As := [.int x4, .int y1, .int (((x6 * (nI 25)) + x2) + x7)]) (bb := 49) (rest := []) (idx := 188) (i0 := 188) (m1 := 63) (ps := [982, 984, 23]) (by decide +kernel) (by decide +kernel) (by decide) rfl ((gK_s (by decide)).trans (by decide +kernel)) (by decide) (Nat.le_of_ble_eq_true rfl) rfl h (fun v5 h => ?_)
          refine xr_blk (lv1 := [(7, .int (x7 + (nI 1))), (8, .int y1), (0, .ref 49), (1, .int x1), (2, .int x2), (3, .int x3), (4, .int x4), (5, .int x5), (6, .int x6)]) (st1 := []) (S1 := rt v5) (pc1 := 240) [(.iinc 7 1, .int (nI 1), 0, 0)] [] (by decide +kernel) rfl trivial ?_
          refine xr_goto (tgt := 163) (off := -77) (by decide +kernel) (by decide) ?_
          exact x_R.sub [2, 3, 4, 5, 6, 7, 8, 0] rfl h
theorem ok_62 : x_mOK 62 := ⟨x_tm4 (List.mem_of_getElem? (i := 149) rfl) rfl, 110, by decide +kernel⟩
/-! X6_weigh: method 63, ScrawlHouse$Reader.weigh(III)V -/
set_option maxRecDepth 100000 in
theorem w_X6_weigh_0 {E : Nat × (Nat → Int32)} {d : Nat} {v : xV} {x1 : Int32} {x2 : Int32} {x3 : Int32} {Q : xV → Prop} (h : vp_in x2 1200 ∧ gK v (gb v) = 100 ∧ vp_in x3 (gN v (gb v)) ∧ ∀ y4 : Int32, y4 = (((gA v 53) (x2).toNatClampNeg) + ((gA v (gb v)) (x3).toNatClampNeg)) → gK v (gb v) = 100 ∧ vp_in x1 (gN v (gb v)) ∧ ((((gA v (gb v)) (x1).toNatClampNeg) = (-1 : Int32) → RV E (d + 1) 63 36 [(0, .ref 49), (1, .int x1), (2, .int x2), (3, .int x3), (4, .int y4)] v Q) ∧ (¬ ((gA v (gb v)) (x1).toNatClampNeg) = (-1 : Int32) → gK v (gb v) = 100 ∧ vp_in x1 (gN v (gb v)) ∧ ((((gA v (gb v)) (x1).toNatClampNeg) ≤ y4 → RV E (d + 1) 63 63 [(0, .ref 49), (1, .int x1), (2, .int x2), (3, .int x3), (4, .int y4)] v Q) ∧ (¬ ((gA v (gb v)) (x1).toNatClampNeg) ≤ y4 → RV E (d + 1) 63 36 [(0, .ref 49), (1, .int x1), (2, .int x2), (3, .int x3), (4, .int y4)] v Q))))) : RV E (d + 1) 63 0 [(0, .ref 49), (1, .int x1), (2, .int x2), (3, .int x3)] v Q := by
  unfold RV
  obtain ⟨hb1, h⟩ := h
  refine xr_blk (lv1 := [(0, .ref 49), (1, .int x1), (2, .int x2), (3, .int x3)]) (st1 := [.int x3, .ref (gb v), .int ((gA v 53) (x2).toNatClampNeg)]) (S1 := rt v) (pc1 := 11) [(.aload_n 0, .null, 0, 0), (.getfield 22, .null, 6, 7), (.iload_n 2, .null, 0, 0), (.iaload, .null, 0, 0), (.aload_n 0, .null, 0, 0), (.getfield 34, .null, 6, 11), (.iload_n 3, .null, 0, 0)] [(x2, 1200)] (by decide +kernel) rfl ⟨hb1, trivial⟩ ?_
  obtain ⟨hk3, hb2, h⟩ := h
  refine xr_iald (by decide +kernel) hk3 hb2 ?_
  show x_R E (d + 1) 63 12 [(0, .ref 49), (1, .int x1), (2, .int x2), (3, .int x3)] [.int ((gA v (gb v)) (x3).toNatClampNeg), .int ((gA v 53) (x2).toNatClampNeg)] (rt v) _
  refine xr_blk (lv1 := [(0, .ref 49), (1, .int x1), (2, .int x2), (3, .int x3)]) (st1 := [.int (((gA v 53) (x2).toNatClampNeg) + ((gA v (gb v)) (x3).toNatClampNeg))]) (S1 := rt v) (pc1 := 13) [(.iadd, .null, 0, 0)] [] (by decide +kernel) rfl trivial ?_
  refine xr_topi (fun y4 ey4 => ?_)
  replace h := h y4 ey4
  refine xr_blk (lv1 := [(4, .int y4), (0, .ref 49), (1, .int x1), (2, .int x2), (3, .int x3)]) (st1 := [.int x1, .ref (gb v)]) (S1 := rt v) (pc1 := 20) [(.istore 4, .null, 0, 0), (.aload_n 0, .null, 0, 0), (.getfield 34, .null, 6, 11), (.iload_n 1, .null, 0, 0)] [] (by decide +kernel) rfl trivial ?_
  obtain ⟨hk6, hb5, h⟩ := h
  refine xr_iald (by decide +kernel) hk6 hb5 ?_
  show x_R E (d + 1) 63 21 [(4, .int y4), (0, .ref 49), (1, .int x1), (2, .int x2), (3, .int x3)] [.int ((gA v (gb v)) (x1).toNatClampNeg)] (rt v) _
  refine xr_blk (lv1 := [(4, .int y4), (0, .ref 49), (1, .int x1), (2, .int x2), (3, .int x3)]) (st1 := [.int (-1), .int ((gA v (gb v)) (x1).toNatClampNeg)]) (S1 := rt v) (pc1 := 22) [(.iconst (-1), .int (-1), 0, 0)] [] (by decide +kernel) rfl trivial ?_
  refine xr_ic_eq (tgt := 36) (off := 14) (by decide +kernel) (by decide) (fun hc => ?_) (fun hc => ?_)
  · replace h := h.1 hc
    exact x_R.sub [1, 2, 3, 4, 0] rfl h
  · replace h := h.2 hc
    refine xr_blk (lv1 := [(4, .int y4), (0, .ref 49), (1, .int x1), (2, .int x2), (3, .int x3)]) (st1 := [.int x1, .ref (gb v), .int y4]) (S1 := rt v) (pc1 := 32) [(.iload 4, .null, 0, 0), (.aload_n 0, .null, 0, 0), (.getfield 34, .null, 6, 11), (.iload_n 1, .null, 0, 0)] [] (by decide +kernel) rfl trivial ?_
    obtain ⟨hk8, hb7, h⟩ := h
    refine xr_iald (by decide +kernel) hk8 hb7 ?_
    show x_R E (d + 1) 63 33 [(4, .int y4), (0, .ref 49), (1, .int x1), (2, .int x2), (3, .int x3)] [.int ((gA v (gb v)) (x1).toNatClampNeg), .int y4] (rt v) _
    refine xr_ic_ge (tgt := 63) (off := 30) (by decide +kernel) (by decide) (fun hc => ?_) (fun hc => ?_)
    · replace h := h.1 hc
      exact x_R.sub [1, 2, 3, 4, 0] rfl h
    · replace h := h.2 hc
      exact x_R.sub [1, 2, 3, 4, 0] rfl h
set_option maxRecDepth 100000 in
theorem w_X6_weigh_36 {E : Nat × (Nat → Int32)} {d : Nat} {v : xV} {x1 : Int32} {x2 : Int32} {x3 : Int32} {x4 : Int32} {Q : xV → Prop} (h : gK v (gb v) = 100 ∧ vp_in x1 (gN v (gb v)) ∧ ∀ f3 : Nat → Int32, f3 = (upd (gA v (gb v)) (x1).toNatClampNeg x4) → gK v (gb v + 1) = 100 ∧ vp_in x1 (gN v (gb v + 1)) ∧ ∀ f6 : Nat → Int32, f6 = (upd (gA (v_A v (gb v) f3) (gb v + 1)) (x1).toNatClampNeg (nI 0)) → vp_in x2 1200 ∧ gK v (gb v + 2) = 100 ∧ vp_in x1 (gN v (gb v + 2)) ∧ ∀ f10 : Nat → Int32, f10 = (upd (gA (v_A (v_A v (gb v) f3) (gb v + 1) f6) (gb v + 2)) (x1).toNatClampNeg ((gA (v_A (v_A v (gb v) f3) (gb v + 1) f6) 55) (x2).toNatClampNeg)) → RV E (d + 1) 63 63 [(0, .ref 49), (1, .int x1), (2, .int x2), (3, .int x3), (4, .int x4)] (v_A (v_A (v_A v (gb v) f3) (gb v + 1) f6) (gb v + 2) f10) Q) : RV E (d + 1) 63 36 [(0, .ref 49), (1, .int x1), (2, .int x2), (3, .int x3), (4, .int x4)] v Q := by
  unfold RV
  refine xr_blk (lv1 := [(0, .ref 49), (1, .int x1), (2, .int x2), (3, .int x3), (4, .int x4)]) (st1 := [.int x4, .int x1, .ref (gb v)]) (S1 := rt v) (pc1 := 43) [(.aload_n 0, .null, 0, 0), (.getfield 34, .null, 6, 11), (.iload_n 1, .null, 0, 0), (.iload 4, .null, 0, 0)] [] (by decide +kernel) rfl trivial ?_
  obtain ⟨hk2, hb1, h⟩ := h
  refine xr_iast (by decide +kernel) hk2 hb1 ?_
  show x_R E (d + 1) 63 44 [(0, .ref 49), (1, .int x1), (2, .int x2), (3, .int x3), (4, .int x4)] [] (rt (v_A v (gb v) (upd (gA v (gb v)) (x1).toNatClampNeg x4))) _
  refine (fun (k : ∀ f3 : Nat → Int32, f3 = (upd (gA v (gb v)) (x1).toNatClampNeg x4) → x_R E (d + 1) 63 44 [(0, .ref 49), (1, .int x1), (2, .int x2), (3, .int x3), (4, .int x4)] [] (rt (v_A v (gb v) f3)) _) => k _ rfl) (fun f3 ef3 => ?_)
  replace h := h f3 ef3
  refine xr_blk (lv1 := [(0, .ref 49), (1, .int x1), (2, .int x2), (3, .int x3), (4, .int x4)]) (st1 := [.int (nI 0), .int x1, .ref (gb v + 1)]) (S1 := rt (v_A v (gb v) f3)) (pc1 := 50) [(.aload_n 0, .null, 0, 0), (.getfield 37, .null, 6, 12), (.iload_n 1, .null, 0, 0), (.iconst 0, .int (nI 0), 0, 0)] [] (by decide +kernel) rfl trivial ?_
  obtain ⟨hk5, hb4, h⟩ := h
  refine xr_iast (by decide +kernel) hk5 hb4 ?_
  show x_R E (d + 1) 63 51 [(0, .ref 49), (1, .int x1), (2, .int x2), (3, .int x3), (4, .int x4)] [] (rt (v_A (v_A v (gb v) f3) (gb v + 1) (upd (gA (v_A v (gb v) f3) (gb v + 1)) (x1).toNatClampNeg (nI 0)))) _
  refine (fun (k : ∀ f6 : Nat → Int32, f6 = (upd (gA (v_A v (gb v) f3) (gb v + 1)) (x1).toNatClampNeg (nI 0)) → x_R E (d + 1) 63 51 [(0, .ref 49), (1, .int x1), (2, .int x2), (3, .int x3), (4, .int x4)] [] (rt (v_A (v_A v (gb v) f3) (gb v + 1) f6)) _) => k _ rfl) (fun f6 ef6 => ?_)
  replace h := h f6 ef6
  obtain ⟨hb7, h⟩ := h
  refine xr_blk (lv1 := [(0, .ref 49), (1, .int x1), (2, .int x2), (3, .int x3), (4, .int x4)]) (st1 := [.int ((gA (v_A (v_A v (gb v) f3) (gb v + 1) f6) 55) (x2).toNatClampNeg), .int x1, .ref (gb v + 2)]) (S1 := rt (v_A (v_A v (gb v) f3) (gb v + 1) f6)) (pc1 := 62) [(.aload_n 0, .null, 0, 0), (.getfield 40, .null, 6, 13), (.iload_n 1, .null, 0, 0), (.aload_n 0, .null, 0, 0), (.getfield 28, .null, 6, 9), (.iload_n 2, .null, 0, 0), (.iaload, .null, 0, 0)] [(x2, 1200)] (by decide +kernel) rfl ⟨hb7, trivial⟩ ?_
  obtain ⟨hk9, hb8, h⟩ := h
  refine xr_iast (by decide +kernel) hk9 hb8 ?_
  show x_R E (d + 1) 63 63 [(0, .ref 49), (1, .int x1), (2, .int x2), (3, .int x3), (4, .int x4)] [] (rt (v_A (v_A (v_A v (gb v) f3) (gb v + 1) f6) (gb v + 2) (upd (gA (v_A (v_A v (gb v) f3) (gb v + 1) f6) (gb v + 2)) (x1).toNatClampNeg ((gA (v_A (v_A v (gb v) f3) (gb v + 1) f6) 55) (x2).toNatClampNeg)))) _
  refine (fun (k : ∀ f10 : Nat → Int32, f10 = (upd (gA (v_A (v_A v (gb v) f3) (gb v + 1) f6) (gb v + 2)) (x1).toNatClampNeg ((gA (v_A (v_A v (gb v) f3) (gb v + 1) f6) 55) (x2).toNatClampNeg)) → x_R E (d + 1) 63 63 [(0, .ref 49), (1, .int x1), (2, .int x2), (3, .int x3), (4, .int x4)] [] (rt (v_A (v_A (v_A v (gb v) f3) (gb v + 1) f6) (gb v + 2) f10)) _) => k _ rfl) (fun f10 ef10 => ?_)
  replace h := h f10 ef10
  exact x_R.sub [0, 1, 2, 3, 4] rfl h
set_option maxRecDepth 100000 in
theorem w_X6_weigh_63 {E : Nat × (Nat → Int32)} {d : Nat} {v : xV} {x1 : Int32} {x2 : Int32} {x3 : Int32} {x4 : Int32} {Q : xV → Prop} (h : gK v (gb v) = 100 ∧ vp_in x1 (gN v (gb v)) ∧ ((¬ x4 = ((gA v (gb v)) (x1).toNatClampNeg) → Q v) ∧ (x4 = ((gA v (gb v)) (x1).toNatClampNeg) → gK v (gb v + 1) = 100 ∧ vp_in x1 (gN v (gb v + 1)) ∧ vp_in x2 1200 ∧ gK v (gb v + 1) = 100 ∧ vp_in x3 (gN v (gb v + 1)) ∧ gK v (gb v + 1) = 100 ∧ vp_in x1 (gN v (gb v + 1)) ∧ ∀ f10 : Nat → Int32, f10 = (upd (gA v (gb v + 1)) (x1).toNatClampNeg (if (((gA v (gb v + 1)) (x1).toNatClampNeg) + (((gA v 54) (x2).toNatClampNeg) * ((gA v (gb v + 1)) (x3).toNatClampNeg))) < (nI 1000) then (((gA v (gb v + 1)) (x1).toNatClampNeg) + (((gA v 54) (x2).toNatClampNeg) * ((gA v (gb v + 1)) (x3).toNatClampNeg))) else (nI 1000))) → gK v (gb v + 2) = 100 ∧ vp_in x1 (gN v (gb v + 2)) ∧ vp_in x2 1200 ∧ gK v (gb v + 2) = 100 ∧ vp_in x1 (gN v (gb v + 2)) ∧ ∀ f16 : Nat → Int32, f16 = (upd (gA (v_A v (gb v + 1) f10) (gb v + 2)) (x1).toNatClampNeg (if ((gA (v_A v (gb v + 1) f10) 55) (x2).toNatClampNeg) < ((gA (v_A v (gb v + 1) f10) (gb v + 2)) (x1).toNatClampNeg) then ((gA (v_A v (gb v + 1) f10) 55) (x2).toNatClampNeg) else ((gA (v_A v (gb v + 1) f10) (gb v + 2)) (x1).toNatClampNeg))) → Q (v_A (v_A v (gb v + 1) f10) (gb v + 2) f16)))) : RV E (d + 1) 63 63 [(0, .ref 49), (1, .int x1), (2, .int x2), (3, .int x3), (4, .int x4)] v Q := by
  unfold RV
  refine xr_blk (lv1 := [(0, .ref 49), (1, .int x1), (2, .int x2), (3, .int x3), (4, .int x4)]) (st1 := [.int x1, .ref (gb v), .int x4]) (S1 := rt v) (pc1 := 70) [(.iload 4, .null, 0, 0), (.aload_n 0, .null, 0, 0), (.getfield 34, .null, 6, 11), (.iload_n 1, .null, 0, 0)] [] (by decide +kernel) rfl trivial ?_
  obtain ⟨hk2, hb1, h⟩ := h
  refine xr_iald (by decide +kernel) hk2 hb1 ?_
  show x_R E (d + 1) 63 71 [(0, .ref 49), (1, .int x1), (2, .int x2), (3, .int x3), (4, .int x4)] [.int ((gA v (gb v)) (x1).toNatClampNeg), .int x4] (rt v) _
  refine xr_ic_ne (tgt := 127) (off := 56) (by decide +kernel) (by decide) (fun hc => ?_) (fun hc => ?_)
  · replace h := h.1 hc
    exact xr_ret0 (by decide +kernel) rfl ⟨_, rfl, rfl, h⟩
  · replace h := h.2 hc
    refine xr_blk (lv1 := [(0, .ref 49), (1, .int x1), (2, .int x2), (3, .int x3), (4, .int x4)]) (st1 := [.int x1, .ref (gb v + 1), .int (nI 1000), .int x1, .ref (gb v + 1)]) (S1 := rt v) (pc1 := 87) [(.aload_n 0, .null, 0, 0), (.getfield 37, .null, 6, 12), (.iload_n 1, .null, 0, 0), (.sipush 1000, .int (nI 1000), 0, 0), (.aload_n 0, .null, 0, 0), (.getfield 37, .null, 6, 12), (.iload_n 1, .null, 0, 0)] [] (by decide +kernel) rfl trivial ?_
    obtain ⟨hk4, hb3, h⟩ := h
    refine xr_iald (by decide +kernel) hk4 hb3 ?_
    show x_R E (d + 1) 63 88 [(0, .ref 49), (1, .int x1), (2, .int x2), (3, .int x3), (4, .int x4)] [.int ((gA v (gb v + 1)) (x1).toNatClampNeg), .int (nI 1000), .int x1, .ref (gb v + 1)] (rt v) _
    obtain ⟨hb5, h⟩ := h
    refine xr_blk (lv1 := [(0, .ref 49), (1, .int x1), (2, .int x2), (3, .int x3), (4, .int x4)]) (st1 := [.int x3, .ref (gb v + 1), .int ((gA v 54) (x2).toNatClampNeg), .int ((gA v (gb v + 1)) (x1).toNatClampNeg), .int (nI 1000), .int x1, .ref (gb v + 1)]) (S1 := rt v) (pc1 := 99) [(.aload_n 0, .null, 0, 0), (.getfield 25, .null, 6, 8), (.iload_n 2, .null, 0, 0), (.iaload, .null, 0, 0), (.aload_n 0, .null, 0, 0), (.getfield 37, .null, 6, 12), (.iload_n 3, .null, 0, 0)] [(x2, 1200)] (by decide +kernel) rfl ⟨hb5, trivial⟩ ?_
    obtain ⟨hk7, hb6, h⟩ := h
    refine xr_iald (by decide +kernel) hk7 hb6 ?_
    show x_R E (d + 1) 63 100 [(0, .ref 49), (1, .int x1), (2, .int x2), (3, .int x3), (4, .int x4)] [.int ((gA v (gb v + 1)) (x3).toNatClampNeg), .int ((gA v 54) (x2).toNatClampNeg), .int ((gA v (gb v + 1)) (x1).toNatClampNeg), .int (nI 1000), .int x1, .ref (gb v + 1)] (rt v) _
    refine xr_blk (lv1 := [(0, .ref 49), (1, .int x1), (2, .int x2), (3, .int x3), (4, .int x4)]) (st1 := [.int (((gA v (gb v + 1)) (x1).toNatClampNeg) + (((gA v 54) (x2).toNatClampNeg) * ((gA v (gb v + 1)) (x3).toNatClampNeg))), .int (nI 1000), .int x1, .ref (gb v + 1)]) (S1 := rt v) (pc1 := 102) [(.imul, .null, 0, 0), (.iadd, .null, 0, 0)] [] (by decide +kernel) rfl trivial ?_
    refine xr_mmin (idx := 154) (i0 := 154) (ps := [924, 703]) (by decide +kernel) (by decide +kernel) (by decide) (Nat.le_of_ble_eq_true rfl) ?_
    obtain ⟨hk9, hb8, h⟩ := h
    refine xr_iast (by decide +kernel) hk9 hb8 ?_
    show x_R E (d + 1) 63 106 [(0, .ref 49), (1, .int x1), (2, .int x2), (3, .int x3), (4, .int x4)] [] (rt (v_A v (gb v + 1) (upd (gA v (gb v + 1)) (x1).toNatClampNeg (if (((gA v (gb v + 1)) (x1).toNatClampNeg) + (((gA v 54) (x2).toNatClampNeg) * ((gA v (gb v + 1)) (x3).toNatClampNeg))) < (nI 1000) then (((gA v (gb v + 1)) (x1).toNatClampNeg) + (((gA v 54) (x2).toNatClampNeg) * ((gA v (gb v + 1)) (x3).toNatClampNeg))) else (nI 1000))))) _
    refine (fun (k : ∀ f10 : Nat → Int32, f10 = (upd (gA v (gb v + 1)) (x1).toNatClampNeg (if (((gA v (gb v + 1)) (x1).toNatClampNeg) + (((gA v 54) (x2).toNatClampNeg) * ((gA v (gb v + 1)) (x3).toNatClampNeg))) < (nI 1000) then (((gA v (gb v + 1)) (x1).toNatClampNeg) + (((gA v 54) (x2).toNatClampNeg) * ((gA v (gb v + 1)) (x3).toNatClampNeg))) else (nI 1000))) → x_R E (d + 1) 63 106 [(0, .ref 49), (1, .int x1), (2, .int x2), (3, .int x3), (4, .int x4)] [] (rt (v_A v (gb v + 1) f10)) _) => k _ rfl) (fun f10 ef10 => ?_)
    replace h := h f10 ef10
    refine xr_blk (lv1 := [(0, .ref 49), (1, .int x1), (2, .int x2), (3, .int x3), (4, .int x4)]) (st1 := [.int x1, .ref (gb v + 2), .int x1, .ref (gb v + 2)]) (S1 := rt (v_A v (gb v + 1) f10)) (pc1 := 116) [(.aload_n 0, .null, 0, 0), (.getfield 40, .null, 6, 13), (.iload_n 1, .null, 0, 0), (.aload_n 0, .null, 0, 0), (.getfield 40, .null, 6, 13), (.iload_n 1, .null, 0, 0)] [] (by decide +kernel) rfl trivial ?_
    obtain ⟨hk12, hb11, h⟩ := h
    refine xr_iald (by decide +kernel) hk12 hb11 ?_
    show x_R E (d + 1) 63 117 [(0, .ref 49), (1, .int x1), (2, .int x2), (3, .int x3), (4, .int x4)] [.int ((gA (v_A v (gb v + 1) f10) (gb v + 2)) (x1).toNatClampNeg), .int x1, .ref (gb v + 2)] (rt (v_A v (gb v + 1) f10)) _
    obtain ⟨hb13, h⟩ := h
    refine xr_blk (lv1 := [(0, .ref 49), (1, .int x1), (2, .int x2), (3, .int x3), (4, .int x4)]) (st1 := [.int ((gA (v_A v (gb v + 1) f10) 55) (x2).toNatClampNeg), .int ((gA (v_A v (gb v + 1) f10) (gb v + 2)) (x1).toNatClampNeg), .int x1, .ref (gb v + 2)]) (S1 := rt (v_A v (gb v + 1) f10)) (pc1 := 123) [(.aload_n 0, .null, 0, 0), (.getfield 28, .null, 6, 9), (.iload_n 2, .null, 0, 0), (.iaload, .null, 0, 0)] [(x2, 1200)] (by decide +kernel) rfl ⟨hb13, trivial⟩ ?_
    refine xr_mmin (idx := 154) (i0 := 154) (ps := [924, 703]) (by decide +kernel) (by decide +kernel) (by decide) (Nat.le_of_ble_eq_true rfl) ?_
    obtain ⟨hk15, hb14, h⟩ := h
    refine xr_iast (by decide +kernel) hk15 hb14 ?_
    show x_R E (d + 1) 63 127 [(0, .ref 49), (1, .int x1), (2, .int x2), (3, .int x3), (4, .int x4)] [] (rt (v_A (v_A v (gb v + 1) f10) (gb v + 2) (upd (gA (v_A v (gb v + 1) f10) (gb v + 2)) (x1).toNatClampNeg (if ((gA (v_A v (gb v + 1) f10) 55) (x2).toNatClampNeg) < ((gA (v_A v (gb v + 1) f10) (gb v + 2)) (x1).toNatClampNeg) then ((gA (v_A v (gb v + 1) f10) 55) (x2).toNatClampNeg) else ((gA (v_A v (gb v + 1) f10) (gb v + 2)) (x1).toNatClampNeg))))) _
    refine (fun (k : ∀ f16 : Nat → Int32, f16 = (upd (gA (v_A v (gb v + 1) f10) (gb v + 2)) (x1).toNatClampNeg (if ((gA (v_A v (gb v + 1) f10) 55) (x2).toNatClampNeg) < ((gA (v_A v (gb v + 1) f10) (gb v + 2)) (x1).toNatClampNeg) then ((gA (v_A v (gb v + 1) f10) 55) (x2).toNatClampNeg) else ((gA (v_A v (gb v + 1) f10) (gb v + 2)) (x1).toNatClampNeg))) → x_R E (d + 1) 63 127 [(0, .ref 49), (1, .int x1), (2, .int x2), (3, .int x3), (4, .int x4)] [] (rt (v_A (v_A v (gb v + 1) f10) (gb v + 2) f16)) _) => k _ rfl) (fun f16 ef16 => ?_)
    replace h := h f16 ef16
    exact xr_ret0 (by decide +kernel) rfl ⟨_, rfl, rfl, h⟩
theorem ok_63 : x_mOK 63 := ⟨x_tm4 (List.mem_of_getElem? (i := 165) rfl) rfl, 110, by decide +kernel⟩
/-! X6_listFits: method 64, ScrawlHouse$Reader.listFits(I)V -/
set_option maxRecDepth 100000 in
theorem w_X6_listFits_0 {E : Nat × (Nat → Int32)} {d : Nat} {v : xV} {x1 : Int32} {Q : xV → Prop} (h : vp_in x1 24 ∧ ((((gA v 52) (x1).toNatClampNeg) = (nI 0) → vp_in x1 24 ∧ KV E d 231 [.ref 54, .int (x1 * (nI 50)), .int ((x1 + (nI 1)) * (nI 50)), .int (nI 0)] (v_A v 52 (upd (gA v 52) (x1).toNatClampNeg (nI 1))) (fun v3 => RV E (d + 1) 64 37 [(0, .ref 49), (1, .int x1), (2, .int (nI 0))] v3 Q)) ∧ (¬ ((gA v 52) (x1).toNatClampNeg) = (nI 0) → Q v))) : RV E (d + 1) 64 0 [(0, .ref 49), (1, .int x1)] v Q := by
  unfold RV
  obtain ⟨hb1, h⟩ := h
  refine xr_blk (lv1 := [(0, .ref 49), (1, .int x1)]) (st1 := [.int ((gA v 52) (x1).toNatClampNeg)]) (S1 := rt v) (pc1 := 6) [(.aload_n 0, .null, 0, 0), (.getfield 18, .null, 6, 6), (.iload_n 1, .null, 0, 0), (.baload, .null, 0, 0)] [(x1, 24)] (by decide +kernel) rfl ⟨hb1, trivial⟩ ?_
  refine xr_if_eq (tgt := 10) (off := 4) (by decide +kernel) (by decide) (fun hc => ?_) (fun hc => ?_)
  · replace h := h.1 hc
    obtain ⟨hb2, h⟩ := h
    refine xr_blk (lv1 := [(0, .ref 49), (1, .int x1)]) (st1 := [.int (nI 0), .int ((x1 + (nI 1)) * (nI 50)), .int (x1 * (nI 50)), .ref 54]) (S1 := rt (v_A v 52 (upd (gA v 52) (x1).toNatClampNeg (nI 1)))) (pc1 := 32) [(.aload_n 0, .null, 0, 0), (.getfield 18, .null, 6, 6), (.iload_n 1, .null, 0, 0), (.iconst 1, .int (nI 1), 0, 0), (.bastore, .null, 0, 0), (.aload_n 0, .null, 0, 0), (.getfield 25, .null, 6, 8), (.iload_n 1, .null, 0, 0), (.bipush 50, .int (nI 50), 0, 0), (.imul, .null, 0, 0), (.iload_n 1, .null, 0, 0), (.iconst 1, .int (nI 1), 0, 0), (.iadd, .null, 0, 0), (.bipush 50, .int (nI 50), 0, 0), (.imul, .null, 0, 0), (.iconst 0, .int (nI 0), 0, 0)] [(x1, 24), ((nI 1), 2)] (by decide +kernel) rfl ⟨hb2, x_inl (by decide), trivial⟩ ?_
    refine xk_SV (As := [.ref 54, .int (x1 * (nI 50)), .int ((x1 + (nI 1)) * (nI 50)), .int (nI 0)]) (rest := []) (idx := 173) (i0 := 173) (m1 := 231) (ps := [965, 948]) (by decide +kernel) (by decide +kernel) (by decide) rfl (Nat.le_of_ble_eq_true rfl) rfl h (fun v3 h => ?_)
    refine xr_blk (lv1 := [(2, .int (nI 0)), (0, .ref 49), (1, .int x1)]) (st1 := []) (S1 := rt v3) (pc1 := 37) [(.iconst 0, .int (nI 0), 0, 0), (.istore_n 2, .null, 0, 0)] [] (by decide +kernel) rfl trivial ?_
    exact x_R.sub [1, 2, 0] rfl h
  · replace h := h.2 hc
    exact xr_ret0 (by decide +kernel) rfl ⟨_, rfl, rfl, h⟩
set_option maxRecDepth 100000 in
theorem w_X6_listFits_37 {E : Nat × (Nat → Int32)} {d : Nat} {v : xV} {x1 : Int32} {x2 : Int32} {Q : xV → Prop} (h : (((gI v 3 7) ≤ x2 → Q v) ∧ (¬ (gI v 3 7) ≤ x2 → KI E d 65 [.ref 49, .int x2, .int x1] v (fun y2 v1 => vp_in x2 80 ∧ vp_in x2 80 ∧ ∀ y5 : Int32, y5 = ((((x1 * (nI 50)) + (((gA v1 8) (x2).toNatClampNeg) * (nI 10))) + ((gA v1 7) (x2).toNatClampNeg)) - (nI 1)) → ((y2 < (nI 0) → RV E (d + 1) 64 135 [(0, .ref 49), (1, .int x1), (2, .int x2), (3, .int y2), (4, .int y5)] v1 Q) ∧ (¬ y2 < (nI 0) → vp_in y5 1200 ∧ ((((gA v1 54) (y5).toNatClampNeg) = (nI 0) → RV E (d + 1) 64 111 [(0, .ref 49), (1, .int x1), (2, .int x2), (3, .int y2), (4, .int y5)] v1 Q) ∧ (¬ ((gA v1 54) (y5).toNatClampNeg) = (nI 0) → vp_in y5 1200 ∧ ((((gA v1 53) (y5).toNatClampNeg) ≤ y2 → RV E (d + 1) 64 135 [(0, .ref 49), (1, .int x1), (2, .int x2), (3, .int y2), (4, .int y5)] v1 Q) ∧ (¬ ((gA v1 53) (y5).toNatClampNeg) ≤ y2 → RV E (d + 1) 64 111 [(0, .ref 49), (1, .int x1), (2, .int x2), (3, .int y2), (4, .int y5)] v1 Q)))))))))) : RV E (d + 1) 64 37 [(0, .ref 49), (1, .int x1), (2, .int x2)] v Q := by
  unfold RV
  refine xr_blk (lv1 := [(0, .ref 49), (1, .int x1), (2, .int x2)]) (st1 := [.int (gI v 3 7), .int x2]) (S1 := rt v) (pc1 := 45) [(.iload_n 2, .null, 0, 0), (.aload_n 0, .null, 0, 0), (.getfield 50, .null, 6, 0), (.getfield 192, .null, 3, 7)] [] (by decide +kernel) rfl trivial ?_
  refine xr_ic_ge (tgt := 167) (off := 122) (by decide +kernel) (by decide) (fun hc => ?_) (fun hc => ?_)
  · replace h := h.1 hc
    exact xr_ret0 (by decide +kernel) rfl ⟨_, rfl, rfl, h⟩
  · replace h := h.2 hc
    refine xr_blk (lv1 := [(0, .ref 49), (1, .int x1), (2, .int x2)]) (st1 := [.int x1, .int x2, .ref 49]) (S1 := rt v) (pc1 := 51) [(.aload_n 0, .null, 0, 0), (.iload_n 2, .null, 0, 0), (.iload_n 1, .null, 0, 0)] [] (by decide +kernel) rfl trivial ?_
    refine xk_VI (As := [.int x2, .int x1]) (bb := 49) (rest := []) (idx := 195) (i0 := 195) (m1 := 65) (ps := [974, 976, 22]) (by decide +kernel) (by decide +kernel) (by decide) rfl ((gK_s (by decide)).trans (by decide +kernel)) (by decide) (Nat.le_of_ble_eq_true rfl) rfl h (fun y2 v1 h => ?_)
    obtain ⟨hb3, h⟩ := h
    obtain ⟨hb4, h⟩ := h
    refine xr_blk (lv1 := [(3, .int y2), (0, .ref 49), (1, .int x1), (2, .int x2)]) (st1 := [.int ((((x1 * (nI 50)) + (((gA v1 8) (x2).toNatClampNeg) * (nI 10))) + ((gA v1 7) (x2).toNatClampNeg)) - (nI 1))]) (S1 := rt v1) (pc1 := 84) [(.istore_n 3, .null, 0, 0), (.iload_n 1, .null, 0, 0), (.bipush 50, .int (nI 50), 0, 0), (.imul, .null, 0, 0), (.aload_n 0, .null, 0, 0), (.getfield 50, .null, 6, 0), (.getfield 198, .null, 3, 4), (.iload_n 2, .null, 0, 0), (.iaload, .null, 0, 0), (.bipush 10, .int (nI 10), 0, 0), (.imul, .null, 0, 0), (.iadd, .null, 0, 0), (.aload_n 0, .null, 0, 0), (.getfield 50, .null, 6, 0), (.getfield 201, .null, 3, 3), (.iload_n 2, .null, 0, 0), (.iaload, .null, 0, 0), (.iadd, .null, 0, 0), (.iconst 1, .int (nI 1), 0, 0), (.isub, .null, 0, 0)] [(x2, 80), (x2, 80)] (by decide +kernel) rfl ⟨hb3, hb4, trivial⟩ ?_
    refine xr_topi (fun y5 ey5 => ?_)
    replace h := h y5 ey5
    refine xr_blk (lv1 := [(4, .int y5), (3, .int y2), (0, .ref 49), (1, .int x1), (2, .int x2)]) (st1 := [.int y2]) (S1 := rt v1) (pc1 := 87) [(.istore 4, .null, 0, 0), (.iload_n 3, .null, 0, 0)] [] (by decide +kernel) rfl trivial ?_
    refine xr_if_lt (tgt := 135) (off := 48) (by decide +kernel) (by decide) (fun hc => ?_) (fun hc => ?_)
    · replace h := h.1 hc
      exact x_R.sub [2, 3, 4, 1, 0] rfl h
    · replace h := h.2 hc
      obtain ⟨hb6, h⟩ := h
      refine xr_blk (lv1 := [(4, .int y5), (3, .int y2), (0, .ref 49), (1, .int x1), (2, .int x2)]) (st1 := [.int ((gA v1 54) (y5).toNatClampNeg)]) (S1 := rt v1) (pc1 := 97) [(.aload_n 0, .null, 0, 0), (.getfield 25, .null, 6, 8), (.iload 4, .null, 0, 0), (.iaload, .null, 0, 0)] [(y5, 1200)] (by decide +kernel) rfl ⟨hb6, trivial⟩ ?_
      refine xr_if_eq (tgt := 111) (off := 14) (by decide +kernel) (by decide) (fun hc => ?_) (fun hc => ?_)
      · replace h := h.1 hc
        exact x_R.sub [2, 3, 4, 1, 0] rfl h
      · replace h := h.2 hc
        obtain ⟨hb7, h⟩ := h
        refine xr_blk (lv1 := [(4, .int y5), (3, .int y2), (0, .ref 49), (1, .int x1), (2, .int x2)]) (st1 := [.int ((gA v1 53) (y5).toNatClampNeg), .int y2]) (S1 := rt v1) (pc1 := 108) [(.iload_n 3, .null, 0, 0), (.aload_n 0, .null, 0, 0), (.getfield 22, .null, 6, 7), (.iload 4, .null, 0, 0), (.iaload, .null, 0, 0)] [(y5, 1200)] (by decide +kernel) rfl ⟨hb7, trivial⟩ ?_
        refine xr_ic_ge (tgt := 135) (off := 27) (by decide +kernel) (by decide) (fun hc => ?_) (fun hc => ?_)
        · replace h := h.1 hc
          exact x_R.sub [2, 3, 4, 1, 0] rfl h
        · replace h := h.2 hc
          exact x_R.sub [2, 3, 4, 1, 0] rfl h
set_option maxRecDepth 100000 in
theorem w_X6_listFits_111 {E : Nat × (Nat → Int32)} {d : Nat} {v : xV} {x1 : Int32} {x2 : Int32} {x3 : Int32} {x4 : Int32} {Q : xV → Prop} (h : vp_in x4 1200 ∧ vp_in x4 1200 ∧ vp_in x4 1200 ∧ RV E (d + 1) 64 135 [(0, .ref 49), (1, .int x1), (2, .int x2), (3, .int x3), (4, .int x4)] (v_A (v_A (v_A v 53 (upd (gA v 53) (x4).toNatClampNeg x3)) 54 (upd (gA v 54) (x4).toNatClampNeg (nI 0))) 55 (upd (gA v 55) (x4).toNatClampNeg x2)) Q) : RV E (d + 1) 64 111 [(0, .ref 49), (1, .int x1), (2, .int x2), (3, .int x3), (4, .int x4)] v Q := by
  unfold RV
  obtain ⟨hb1, h⟩ := h
  obtain ⟨hb2, h⟩ := h
  obtain ⟨hb3, h⟩ := h
  refine xr_blk (lv1 := [(0, .ref 49), (1, .int x1), (2, .int x2), (3, .int x3), (4, .int x4)]) (st1 := []) (S1 := rt (v_A (v_A (v_A v 53 (upd (gA v 53) (x4).toNatClampNeg x3)) 54 (upd (gA v 54) (x4).toNatClampNeg (nI 0))) 55 (upd (gA v 55) (x4).toNatClampNeg x2))) (pc1 := 135) [(.aload_n 0, .null, 0, 0), (.getfield 22, .null, 6, 7), (.iload 4, .null, 0, 0), (.iload_n 3, .null, 0, 0), (.iastore, .null, 0, 0), (.aload_n 0, .null, 0, 0), (.getfield 25, .null, 6, 8), (.iload 4, .null, 0, 0), (.iconst 0, .int (nI 0), 0, 0), (.iastore, .null, 0, 0), (.aload_n 0, .null, 0, 0), (.getfield 28, .null, 6, 9), (.iload 4, .null, 0, 0), (.iload_n 2, .null, 0, 0), (.iastore, .null, 0, 0)] [(x4, 1200), (x4, 1200), (x4, 1200)] (by decide +kernel) rfl ⟨hb1, hb2, hb3, trivial⟩ ?_
  exact x_R.sub [0, 1, 2, 3, 4] rfl h
set_option maxRecDepth 100000 in
theorem w_X6_listFits_135 {E : Nat × (Nat → Int32)} {d : Nat} {v : xV} {x1 : Int32} {x2 : Int32} {x3 : Int32} {x4 : Int32} {Q : xV → Prop} (h : ((x3 < (nI 0) → RV E (d + 1) 64 37 [(0, .ref 49), (1, .int x1), (2, .int (x2 + (nI 1)))] v Q) ∧ (¬ x3 < (nI 0) → vp_in x4 1200 ∧ ((¬ x3 = ((gA v 53) (x4).toNatClampNeg) → RV E (d + 1) 64 37 [(0, .ref 49), (1, .int x1), (2, .int (x2 + (nI 1)))] v Q) ∧ (x3 = ((gA v 53) (x4).toNatClampNeg) → vp_in x4 1200 ∧ vp_in x4 1200 ∧ RV E (d + 1) 64 37 [(0, .ref 49), (1, .int x1), (2, .int (x2 + (nI 1)))] (v_A v 54 (upd (gA v 54) (x4).toNatClampNeg (((gA v 54) (x4).toNatClampNeg) + (nI 1)))) Q))))) : RV E (d + 1) 64 135 [(0, .ref 49), (1, .int x1), (2, .int x2), (3, .int x3), (4, .int x4)] v Q := by
  unfold RV
  refine xr_blk (lv1 := [(0, .ref 49), (1, .int x1), (2, .int x2), (3, .int x3), (4, .int x4)]) (st1 := [.int x3]) (S1 := rt v) (pc1 := 136) [(.iload_n 3, .null, 0, 0)] [] (by decide +kernel) rfl trivial ?_
  refine xr_if_lt (tgt := 161) (off := 25) (by decide +kernel) (by decide) (fun hc => ?_) (fun hc => ?_)
  · replace h := h.1 hc
    refine xr_blk (lv1 := [(2, .int (x2 + (nI 1))), (0, .ref 49), (1, .int x1), (3, .int x3), (4, .int x4)]) (st1 := []) (S1 := rt v) (pc1 := 164) [(.iinc 2 1, .int (nI 1), 0, 0)] [] (by decide +kernel) rfl trivial ?_
    refine xr_goto (tgt := 37) (off := -127) (by decide +kernel) (by decide) ?_
    exact x_R.sub [1, 2, 0] rfl h
  · replace h := h.2 hc
    obtain ⟨hb1, h⟩ := h
    refine xr_blk (lv1 := [(0, .ref 49), (1, .int x1), (2, .int x2), (3, .int x3), (4, .int x4)]) (st1 := [.int ((gA v 53) (x4).toNatClampNeg), .int x3]) (S1 := rt v) (pc1 := 147) [(.iload_n 3, .null, 0, 0), (.aload_n 0, .null, 0, 0), (.getfield 22, .null, 6, 7), (.iload 4, .null, 0, 0), (.iaload, .null, 0, 0)] [(x4, 1200)] (by decide +kernel) rfl ⟨hb1, trivial⟩ ?_
    refine xr_ic_ne (tgt := 161) (off := 14) (by decide +kernel) (by decide) (fun hc => ?_) (fun hc => ?_)
    · replace h := h.1 hc
      refine xr_blk (lv1 := [(2, .int (x2 + (nI 1))), (0, .ref 49), (1, .int x1), (3, .int x3), (4, .int x4)]) (st1 := []) (S1 := rt v) (pc1 := 164) [(.iinc 2 1, .int (nI 1), 0, 0)] [] (by decide +kernel) rfl trivial ?_
      refine xr_goto (tgt := 37) (off := -127) (by decide +kernel) (by decide) ?_
      exact x_R.sub [1, 2, 0] rfl h
    · replace h := h.2 hc
      obtain ⟨hb2, h⟩ := h
      obtain ⟨hb3, h⟩ := h
      refine xr_blk (lv1 := [(2, .int (x2 + (nI 1))), (0, .ref 49), (1, .int x1), (3, .int x3), (4, .int x4)]) (st1 := []) (S1 := rt (v_A v 54 (upd (gA v 54) (x4).toNatClampNeg (((gA v 54) (x4).toNatClampNeg) + (nI 1))))) (pc1 := 164) [(.aload_n 0, .null, 0, 0), (.getfield 25, .null, 6, 8), (.iload 4, .null, 0, 0), (.dup2, .null, 0, 0), (.iaload, .null, 0, 0), (.iconst 1, .int (nI 1), 0, 0), (.iadd, .null, 0, 0), (.iastore, .null, 0, 0), (.iinc 2 1, .int (nI 1), 0, 0)] [(x4, 1200), (x4, 1200)] (by decide +kernel) rfl ⟨hb2, hb3, trivial⟩ ?_
      refine xr_goto (tgt := 37) (off := -127) (by decide +kernel) (by decide) ?_
      exact x_R.sub [1, 2, 0] rfl h
theorem ok_64 : x_mOK 64 := ⟨x_tm4 (List.mem_of_getElem? (i := 153) rfl) rfl, 110, by decide +kernel⟩
/-! X6_wordCost: method 65, ScrawlHouse$Reader.wordCost(II)I -/
set_option maxRecDepth 100000 in
theorem w_X6_wordCost_0 {E : Nat × (Nat → Int32)} {d : Nat} {v : xV} {x1 : Int32} {x2 : Int32} {Q : Int32 → xV → Prop} (h : vp_in x1 80 ∧ ∀ y2 : Int32, y2 = ((gA v 7) (x1).toNatClampNeg) → (((x2 + y2) ≤ (gI v 49 15) → RI E d 65 28 [(0, .ref 49), (1, .int x1), (2, .int x2), (3, .int y2), (4, .int (nI 0)), (5, .int (nI 0))] v Q) ∧ (¬ (x2 + y2) ≤ (gI v 49 15) → Q (-1 : Int32) v))) : RI E d 65 0 [(0, .ref 49), (1, .int x1), (2, .int x2)] v Q := by
  unfold RI
  obtain ⟨hb1, h⟩ := h
  refine xr_blk (lv1 := [(0, .ref 49), (1, .int x1), (2, .int x2)]) (st1 := [.int ((gA v 7) (x1).toNatClampNeg)]) (S1 := rt v) (pc1 := 9) [(.aload_n 0, .null, 0, 0), (.getfield 50, .null, 6, 0), (.getfield 201, .null, 3, 3), (.iload_n 1, .null, 0, 0), (.iaload, .null, 0, 0)] [(x1, 80)] (by decide +kernel) rfl ⟨hb1, trivial⟩ ?_
  refine xr_topi (fun y2 ey2 => ?_)
  replace h := h y2 ey2
  refine xr_blk (lv1 := [(3, .int y2), (0, .ref 49), (1, .int x1), (2, .int x2)]) (st1 := [.int (gI v 49 15), .int (x2 + y2)]) (S1 := rt v) (pc1 := 17) [(.istore_n 3, .null, 0, 0), (.iload_n 2, .null, 0, 0), (.iload_n 3, .null, 0, 0), (.iadd, .null, 0, 0), (.aload_n 0, .null, 0, 0), (.getfield 47, .null, 6, 15)] [] (by decide +kernel) rfl trivial ?_
  refine xr_ic_le (tgt := 22) (off := 5) (by decide +kernel) (by decide) (fun hc => ?_) (fun hc => ?_)
  · replace h := h.1 hc
    refine xr_blk (lv1 := [(5, .int (nI 0)), (4, .int (nI 0)), (3, .int y2), (0, .ref 49), (1, .int x1), (2, .int x2)]) (st1 := []) (S1 := rt v) (pc1 := 28) [(.iconst 0, .int (nI 0), 0, 0), (.istore 4, .null, 0, 0), (.iconst 0, .int (nI 0), 0, 0), (.istore 5, .null, 0, 0)] [] (by decide +kernel) rfl trivial ?_
    exact x_R.sub [3, 4, 5, 2, 1, 0] rfl h
  · replace h := h.2 hc
    refine xr_blk (lv1 := [(3, .int y2), (0, .ref 49), (1, .int x1), (2, .int x2)]) (st1 := [.int (-1)]) (S1 := rt v) (pc1 := 21) [(.iconst (-1), .int (-1), 0, 0)] [] (by decide +kernel) rfl trivial ?_
    exact xr_iret (by decide +kernel) rfl ⟨_, _, rfl, rfl, h⟩
set_option maxRecDepth 100000 in
theorem w_X6_wordCost_28 {E : Nat × (Nat → Int32)} {d : Nat} {v : xV} {x1 : Int32} {x2 : Int32} {x3 : Int32} {x4 : Int32} {x5 : Int32} {Q : Int32 → xV → Prop} (h : ((x3 ≤ x5 → Q x4 v) ∧ (¬ x3 ≤ x5 → vp_in ((x1 * (nI 10)) + x5) 800 ∧ vp_in (((x2 + x5) * (nI 26)) + ((gA v 6) (((x1 * (nI 10)) + x5)).toNatClampNeg)) 624 ∧ ∀ y3 : Int32, y3 = ((gA v 51) ((((x2 + x5) * (nI 26)) + ((gA v 6) (((x1 * (nI 10)) + x5)).toNatClampNeg))).toNatClampNeg) → (((nI 0) ≤ y3 → ∀ y4 : Int32, y4 = (x4 + y3) → RI E d 65 28 [(0, .ref 49), (1, .int x1), (2, .int x2), (3, .int x3), (4, .int y4), (5, .int (x5 + (nI 1)))] v Q) ∧ (¬ (nI 0) ≤ y3 → Q (-1 : Int32) v))))) : RI E d 65 28 [(0, .ref 49), (1, .int x1), (2, .int x2), (3, .int x3), (4, .int x4), (5, .int x5)] v Q := by
  unfold RI
  refine xr_blk (lv1 := [(0, .ref 49), (1, .int x1), (2, .int x2), (3, .int x3), (4, .int x4), (5, .int x5)]) (st1 := [.int x3, .int x5]) (S1 := rt v) (pc1 := 31) [(.iload 5, .null, 0, 0), (.iload_n 3, .null, 0, 0)] [] (by decide +kernel) rfl trivial ?_
  refine xr_ic_ge (tgt := 84) (off := 53) (by decide +kernel) (by decide) (fun hc => ?_) (fun hc => ?_)
  · replace h := h.1 hc
    refine xr_blk (lv1 := [(0, .ref 49), (1, .int x1), (2, .int x2), (3, .int x3), (4, .int x4), (5, .int x5)]) (st1 := [.int x4]) (S1 := rt v) (pc1 := 86) [(.iload 4, .null, 0, 0)] [] (by decide +kernel) rfl trivial ?_
    exact xr_iret (by decide +kernel) rfl ⟨_, _, rfl, rfl, h⟩
  · replace h := h.2 hc
    obtain ⟨hb1, h⟩ := h
    obtain ⟨hb2, h⟩ := h
    refine xr_blk (lv1 := [(0, .ref 49), (1, .int x1), (2, .int x2), (3, .int x3), (4, .int x4), (5, .int x5)]) (st1 := [.int ((gA v 51) ((((x2 + x5) * (nI 26)) + ((gA v 6) (((x1 * (nI 10)) + x5)).toNatClampNeg))).toNatClampNeg)]) (S1 := rt v) (pc1 := 62) [(.aload_n 0, .null, 0, 0), (.getfield 15, .null, 6, 5), (.iload_n 2, .null, 0, 0), (.iload 5, .null, 0, 0), (.iadd, .null, 0, 0), (.bipush 26, .int (nI 26), 0, 0), (.imul, .null, 0, 0), (.aload_n 0, .null, 0, 0), (.getfield 50, .null, 6, 0), (.getfield 204, .null, 3, 2), (.iload_n 1, .null, 0, 0), (.bipush 10, .int (nI 10), 0, 0), (.imul, .null, 0, 0), (.iload 5, .null, 0, 0), (.iadd, .null, 0, 0), (.iaload, .null, 0, 0), (.iadd, .null, 0, 0), (.iaload, .null, 0, 0)] [(((x1 * (nI 10)) + x5), 800), ((((x2 + x5) * (nI 26)) + ((gA v 6) (((x1 * (nI 10)) + x5)).toNatClampNeg)), 624)] (by decide +kernel) rfl ⟨hb1, hb2, trivial⟩ ?_
    refine xr_topi (fun y3 ey3 => ?_)
    replace h := h y3 ey3
    refine xr_blk (lv1 := [(6, .int y3), (0, .ref 49), (1, .int x1), (2, .int x2), (3, .int x3), (4, .int x4), (5, .int x5)]) (st1 := [.int y3]) (S1 := rt v) (pc1 := 66) [(.istore 6, .null, 0, 0), (.iload 6, .null, 0, 0)] [] (by decide +kernel) rfl trivial ?_
    refine xr_if_ge (tgt := 71) (off := 5) (by decide +kernel) (by decide) (fun hc => ?_) (fun hc => ?_)
    · replace h := h.1 hc
      refine xr_blk (lv1 := [(6, .int y3), (0, .ref 49), (1, .int x1), (2, .int x2), (3, .int x3), (4, .int x4), (5, .int x5)]) (st1 := [.int (x4 + y3)]) (S1 := rt v) (pc1 := 76) [(.iload 4, .null, 0, 0), (.iload 6, .null, 0, 0), (.iadd, .null, 0, 0)] [] (by decide +kernel) rfl trivial ?_
      refine xr_topi (fun y4 ey4 => ?_)
      replace h := h y4 ey4
      refine xr_blk (lv1 := [(5, .int (x5 + (nI 1))), (4, .int y4), (6, .int y3), (0, .ref 49), (1, .int x1), (2, .int x2), (3, .int x3)]) (st1 := []) (S1 := rt v) (pc1 := 81) [(.istore 4, .null, 0, 0), (.iinc 5 1, .int (nI 1), 0, 0)] [] (by decide +kernel) rfl trivial ?_
      refine xr_goto (tgt := 28) (off := -53) (by decide +kernel) (by decide) ?_
      exact x_R.sub [3, 4, 5, 6, 1, 0] rfl h
    · replace h := h.2 hc
      refine xr_blk (lv1 := [(6, .int y3), (0, .ref 49), (1, .int x1), (2, .int x2), (3, .int x3), (4, .int x4), (5, .int x5)]) (st1 := [.int (-1)]) (S1 := rt v) (pc1 := 70) [(.iconst (-1), .int (-1), 0, 0)] [] (by decide +kernel) rfl trivial ?_
      exact xr_iret (by decide +kernel) rfl ⟨_, _, rfl, rfl, h⟩
theorem ok_65 : x_mOK 65 := ⟨x_tm4 (List.mem_of_getElem? (i := 157) rfl) rfl, 110, by decide +kernel⟩
/-! X6_keepBest: method 66, ScrawlHouse$Reader.keepBest(I)V -/
set_option maxRecDepth 100000 in
theorem w_X6_keepBest_0 {E : Nat × (Nat → Int32)} {d : Nat} {v : xV} {x1 : Int32} {Q : xV → Prop} (h : gK v (gb v) = 100 ∧ vp_in (nI 0) (gN v (gb v)) ∧ vp_in x1 20 ∧ ∀ f4 : Nat → Int32, f4 = (upd (gA v 42) (x1).toNatClampNeg ((gA v (gb v)) ((nI 0)).toNatClampNeg)) → gK v (gb v + 1) = 100 ∧ vp_in (nI 0) (gN v (gb v + 1)) ∧ vp_in x1 20 ∧ ∀ f8 : Nat → Int32, f8 = (upd (gA v 43) (x1).toNatClampNeg ((gA (v_A v 42 f4) (gb v + 1)) ((nI 0)).toNatClampNeg)) → RV E (d + 1) 66 40 [(0, .ref 49), (1, .int x1), (2, .int (nI 0)), (3, .int (nI 0)), (4, .int (nI 0)), (5, .int (nI 0))] (v_A (v_A v 42 f4) 43 f8) Q) : RV E (d + 1) 66 0 [(0, .ref 49), (1, .int x1)] v Q := by
  unfold RV
  refine xr_blk (lv1 := [(0, .ref 49), (1, .int x1)]) (st1 := [.int (nI 0), .ref (gb v), .int x1, .ref 42]) (S1 := rt v) (pc1 := 13) [(.aload_n 0, .null, 0, 0), (.getfield 62, .null, 6, 3), (.getfield 207, .null, 7, 3), (.iload_n 1, .null, 0, 0), (.aload_n 0, .null, 0, 0), (.getfield 34, .null, 6, 11), (.iconst 0, .int (nI 0), 0, 0)] [] (by decide +kernel) rfl trivial ?_
  obtain ⟨hk2, hb1, h⟩ := h
  refine xr_iald (by decide +kernel) hk2 hb1 ?_
  show x_R E (d + 1) 66 14 [(0, .ref 49), (1, .int x1)] [.int ((gA v (gb v)) ((nI 0)).toNatClampNeg), .int x1, .ref 42] (rt v) _
  obtain ⟨hb3, h⟩ := h
  refine xr_blk (lv1 := [(0, .ref 49), (1, .int x1)]) (st1 := [.int (nI 0), .ref (gb v + 1), .int x1, .ref 43]) (S1 := rt (v_A v 42 (upd (gA v 42) (x1).toNatClampNeg ((gA v (gb v)) ((nI 0)).toNatClampNeg)))) (pc1 := 28) [(.iastore, .null, 0, 0), (.aload_n 0, .null, 0, 0), (.getfield 62, .null, 6, 3), (.getfield 210, .null, 7, 4), (.iload_n 1, .null, 0, 0), (.aload_n 0, .null, 0, 0), (.getfield 37, .null, 6, 12), (.iconst 0, .int (nI 0), 0, 0)] [(x1, 20)] (by decide +kernel) rfl ⟨hb3, trivial⟩ ?_
  refine (fun (k : ∀ f4 : Nat → Int32, f4 = (upd (gA v 42) (x1).toNatClampNeg ((gA v (gb v)) ((nI 0)).toNatClampNeg)) → x_R E (d + 1) 66 28 [(0, .ref 49), (1, .int x1)] [.int (nI 0), .ref (gb v + 1), .int x1, .ref 43] (rt (v_A v 42 f4)) _) => k _ rfl) (fun f4 ef4 => ?_)
  replace h := h f4 ef4
  obtain ⟨hk6, hb5, h⟩ := h
  refine xr_iald (by decide +kernel) hk6 hb5 ?_
  show x_R E (d + 1) 66 29 [(0, .ref 49), (1, .int x1)] [.int ((gA (v_A v 42 f4) (gb v + 1)) ((nI 0)).toNatClampNeg), .int x1, .ref 43] (rt (v_A v 42 f4)) _
  obtain ⟨hb7, h⟩ := h
  refine xr_blk (lv1 := [(5, .int (nI 0)), (4, .int (nI 0)), (3, .int (nI 0)), (2, .int (nI 0)), (0, .ref 49), (1, .int x1)]) (st1 := []) (S1 := rt (v_A (v_A v 42 f4) 43 (upd (gA v 43) (x1).toNatClampNeg ((gA (v_A v 42 f4) (gb v + 1)) ((nI 0)).toNatClampNeg)))) (pc1 := 40) [(.iastore, .null, 0, 0), (.iconst 0, .int (nI 0), 0, 0), (.istore_n 2, .null, 0, 0), (.iconst 0, .int (nI 0), 0, 0), (.istore_n 3, .null, 0, 0), (.iconst 0, .int (nI 0), 0, 0), (.istore 4, .null, 0, 0), (.iconst 0, .int (nI 0), 0, 0), (.istore 5, .null, 0, 0)] [(x1, 20)] (by decide +kernel) rfl ⟨hb7, trivial⟩ ?_
  refine (fun (k : ∀ f8 : Nat → Int32, f8 = (upd (gA v 43) (x1).toNatClampNeg ((gA (v_A v 42 f4) (gb v + 1)) ((nI 0)).toNatClampNeg)) → x_R E (d + 1) 66 40 [(5, .int (nI 0)), (4, .int (nI 0)), (3, .int (nI 0)), (2, .int (nI 0)), (0, .ref 49), (1, .int x1)] [] (rt (v_A (v_A v 42 f4) 43 f8)) _) => k _ rfl) (fun f8 ef8 => ?_)
  replace h := h f8 ef8
  exact x_R.sub [4, 5, 3, 2, 1, 0] rfl h
set_option maxRecDepth 100000 in
theorem w_X6_keepBest_40 {E : Nat × (Nat → Int32)} {d : Nat} {v : xV} {x1 : Int32} {x2 : Int32} {x3 : Int32} {x4 : Int32} {x5 : Int32} {Q : xV → Prop} (h : (((nI 6) ≤ x5 → RV E (d + 1) 66 142 [(0, .ref 49), (1, .int x1), (4, .int x4)] v Q) ∧ (¬ (nI 6) ≤ x5 → (((gI v 49 15) ≤ x3 → RV E (d + 1) 66 142 [(0, .ref 49), (1, .int x1), (4, .int x4)] v Q) ∧ (¬ (gI v 49 15) ≤ x3 → ((x2 < (nI 0) → RV E (d + 1) 66 142 [(0, .ref 49), (1, .int x1), (4, .int x4)] v Q) ∧ (¬ x2 < (nI 0) → gK v (gb v + 2) = 100 ∧ vp_in ((x2 * (nI 25)) + x3) (gN v (gb v + 2)) ∧ ∀ y3 : Int32, y3 = ((gA v (gb v + 2)) (((x2 * (nI 25)) + x3)).toNatClampNeg) → ((y3 < (nI 0) → RV E (d + 1) 66 40 [(0, .ref 49), (1, .int x1), (2, .int x2), (3, .int x3), (4, .int x4), (5, .int (x5 + (nI 1)))] v Q) ∧ (¬ y3 < (nI 0) → vp_in ((x1 * (nI 6)) + x4) 120 ∧ ∀ f5 : Nat → Int32, f5 = (upd (gA v 45) (((x1 * (nI 6)) + x4)).toNatClampNeg y3) → KV E d 67 [.ref 49, .int x1, .int y3] (v_A v 45 f5) (fun v6 => vp_in y3 80 ∧ KI E d 34 [.ref 21, .int x2, .int ((gA v6 8) (y3).toNatClampNeg)] v6 (fun y9 v8 => vp_in y3 80 ∧ ∀ y11 : Int32, y11 = (x3 + ((gA v8 7) (y3).toNatClampNeg)) → RV E (d + 1) 66 40 [(0, .ref 49), (1, .int x1), (2, .int y9), (3, .int y11), (4, .int (x4 + (nI 1))), (5, .int (x5 + (nI 1)))] v8 Q))))))))))) : RV E (d + 1) 66 40 [(0, .ref 49), (1, .int x1), (2, .int x2), (3, .int x3), (4, .int x4), (5, .int x5)] v Q := by
  unfold RV
  refine xr_blk (lv1 := [(0, .ref 49), (1, .int x1), (2, .int x2), (3, .int x3), (4, .int x4), (5, .int x5)]) (st1 := [.int (nI 6), .int x5]) (S1 := rt v) (pc1 := 44) [(.iload 5, .null, 0, 0), (.bipush 6, .int (nI 6), 0, 0)] [] (by decide +kernel) rfl trivial ?_
  refine xr_ic_ge (tgt := 142) (off := 98) (by decide +kernel) (by decide) (fun hc => ?_) (fun hc => ?_)
  · replace h := h.1 hc
    exact x_R.sub [0, 1, 4] rfl h
  · replace h := h.2 hc
    refine xr_blk (lv1 := [(0, .ref 49), (1, .int x1), (2, .int x2), (3, .int x3), (4, .int x4), (5, .int x5)]) (st1 := [.int (gI v 49 15), .int x3]) (S1 := rt v) (pc1 := 52) [(.iload_n 3, .null, 0, 0), (.aload_n 0, .null, 0, 0), (.getfield 47, .null, 6, 15)] [] (by decide +kernel) rfl trivial ?_
    refine xr_ic_ge (tgt := 142) (off := 90) (by decide +kernel) (by decide) (fun hc => ?_) (fun hc => ?_)
    · replace h := h.1 hc
      exact x_R.sub [0, 1, 4] rfl h
    · replace h := h.2 hc
      refine xr_blk (lv1 := [(0, .ref 49), (1, .int x1), (2, .int x2), (3, .int x3), (4, .int x4), (5, .int x5)]) (st1 := [.int x2]) (S1 := rt v) (pc1 := 56) [(.iload_n 2, .null, 0, 0)] [] (by decide +kernel) rfl trivial ?_
      refine xr_if_lt (tgt := 142) (off := 86) (by decide +kernel) (by decide) (fun hc => ?_) (fun hc => ?_)
      · replace h := h.1 hc
        exact x_R.sub [0, 1, 4] rfl h
      · replace h := h.2 hc
        refine xr_blk (lv1 := [(0, .ref 49), (1, .int x1), (2, .int x2), (3, .int x3), (4, .int x4), (5, .int x5)]) (st1 := [.int ((x2 * (nI 25)) + x3), .ref (gb v + 2)]) (S1 := rt v) (pc1 := 69) [(.aload_n 0, .null, 0, 0), (.getfield 40, .null, 6, 13), (.iload_n 2, .null, 0, 0), (.bipush 25, .int (nI 25), 0, 0), (.imul, .null, 0, 0), (.iload_n 3, .null, 0, 0), (.iadd, .null, 0, 0)] [] (by decide +kernel) rfl trivial ?_
        obtain ⟨hk2, hb1, h⟩ := h
        refine xr_iald (by decide +kernel) hk2 hb1 ?_
        show x_R E (d + 1) 66 70 [(0, .ref 49), (1, .int x1), (2, .int x2), (3, .int x3), (4, .int x4), (5, .int x5)] [.int ((gA v (gb v + 2)) (((x2 * (nI 25)) + x3)).toNatClampNeg)] (rt v) _
        refine xr_topi (fun y3 ey3 => ?_)
        replace h := h y3 ey3
        refine xr_blk (lv1 := [(6, .int y3), (0, .ref 49), (1, .int x1), (2, .int x2), (3, .int x3), (4, .int x4), (5, .int x5)]) (st1 := [.int y3]) (S1 := rt v) (pc1 := 74) [(.istore 6, .null, 0, 0), (.iload 6, .null, 0, 0)] [] (by decide +kernel) rfl trivial ?_
        refine xr_if_lt (tgt := 136) (off := 62) (by decide +kernel) (by decide) (fun hc => ?_) (fun hc => ?_)
        · replace h := h.1 hc
          refine xr_blk (lv1 := [(5, .int (x5 + (nI 1))), (6, .int y3), (0, .ref 49), (1, .int x1), (2, .int x2), (3, .int x3), (4, .int x4)]) (st1 := []) (S1 := rt v) (pc1 := 139) [(.iinc 5 1, .int (nI 1), 0, 0)] [] (by decide +kernel) rfl trivial ?_
          refine xr_goto (tgt := 40) (off := -99) (by decide +kernel) (by decide) ?_
          exact x_R.sub [2, 3, 4, 5, 6, 0] rfl h
        · replace h := h.2 hc
          obtain ⟨hb4, h⟩ := h
          refine xr_blk (lv1 := [(4, .int (x4 + (nI 1))), (6, .int y3), (0, .ref 49), (1, .int x1), (2, .int x2), (3, .int x3), (5, .int x5)]) (st1 := [.int y3, .int x1, .ref 49]) (S1 := rt (v_A v 45 (upd (gA v 45) (((x1 * (nI 6)) + x4)).toNatClampNeg y3))) (pc1 := 101) [(.aload_n 0, .null, 0, 0), (.getfield 62, .null, 6, 3), (.getfield 213, .null, 7, 6), (.iload_n 1, .null, 0, 0), (.bipush 6, .int (nI 6), 0, 0), (.imul, .null, 0, 0), (.iload 4, .null, 0, 0), (.iadd, .null, 0, 0), (.iload 6, .null, 0, 0), (.iastore, .null, 0, 0), (.iinc 4 1, .int (nI 1), 0, 0), (.aload_n 0, .null, 0, 0), (.iload_n 1, .null, 0, 0), (.iload 6, .null, 0, 0)] [(((x1 * (nI 6)) + x4), 120)] (by decide +kernel) rfl ⟨hb4, trivial⟩ ?_
          refine (fun (k : ∀ f5 : Nat → Int32, f5 = (upd (gA v 45) (((x1 * (nI 6)) + x4)).toNatClampNeg y3) → x_R E (d + 1) 66 101 [(4, .int (x4 + (nI 1))), (6, .int y3), (0, .ref 49), (1, .int x1), (2, .int x2), (3, .int x3), (5, .int x5)] [.int y3, .int x1, .ref 49] (rt (v_A v 45 f5)) _) => k _ rfl) (fun f5 ef5 => ?_)
          replace h := h f5 ef5
          refine xk_VV (As := [.int x1, .int y3]) (bb := 49) (rest := []) (idx := 215) (i0 := 215) (m1 := 67) (ps := [990, 992, 25]) (by decide +kernel) (by decide +kernel) (by decide) rfl ((gK_s (by decide)).trans (by decide +kernel)) (by decide) (Nat.le_of_ble_eq_true rfl) rfl h (fun v6 h => ?_)
          obtain ⟨hb7, h⟩ := h
          refine xr_blk (lv1 := [(4, .int (x4 + (nI 1))), (6, .int y3), (0, .ref 49), (1, .int x1), (2, .int x2), (3, .int x3), (5, .int x5)]) (st1 := [.int ((gA v6 8) (y3).toNatClampNeg), .int x2, .ref 21]) (S1 := rt v6) (pc1 := 119) [(.aload_n 0, .null, 0, 0), (.getfield 54, .null, 6, 1), (.iload_n 2, .null, 0, 0), (.aload_n 0, .null, 0, 0), (.getfield 50, .null, 6, 0), (.getfield 198, .null, 3, 4), (.iload 6, .null, 0, 0), (.iaload, .null, 0, 0)] [(y3, 80)] (by decide +kernel) rfl ⟨hb7, trivial⟩ ?_
          refine xk_VI (As := [.int x2, .int ((gA v6 8) (y3).toNatClampNeg)]) (bb := 21) (rest := []) (idx := 185) (i0 := 185) (m1 := 34) (ps := [978, 979, 980]) (by decide +kernel) (by decide +kernel) (by decide) rfl ((gK_s (by decide)).trans (by decide +kernel)) (by decide) (Nat.le_of_ble_eq_true rfl) rfl h (fun y9 v8 h => ?_)
          obtain ⟨hb10, h⟩ := h
          refine xr_blk (lv1 := [(2, .int y9), (4, .int (x4 + (nI 1))), (6, .int y3), (0, .ref 49), (1, .int x1), (3, .int x3), (5, .int x5)]) (st1 := [.int (x3 + ((gA v8 7) (y3).toNatClampNeg))]) (S1 := rt v8) (pc1 := 135) [(.istore_n 2, .null, 0, 0), (.iload_n 3, .null, 0, 0), (.aload_n 0, .null, 0, 0), (.getfield 50, .null, 6, 0), (.getfield 201, .null, 3, 3), (.iload 6, .null, 0, 0), (.iaload, .null, 0, 0), (.iadd, .null, 0, 0)] [(y3, 80)] (by decide +kernel) rfl ⟨hb10, trivial⟩ ?_
          refine xr_topi (fun y11 ey11 => ?_)
          replace h := h y11 ey11
          refine xr_blk (lv1 := [(5, .int (x5 + (nI 1))), (3, .int y11), (2, .int y9), (4, .int (x4 + (nI 1))), (6, .int y3), (0, .ref 49), (1, .int x1)]) (st1 := []) (S1 := rt v8) (pc1 := 139) [(.istore_n 3, .null, 0, 0), (.iinc 5 1, .int (nI 1), 0, 0)] [] (by decide +kernel) rfl trivial ?_
          refine xr_goto (tgt := 40) (off := -99) (by decide +kernel) (by decide) ?_
          exact x_R.sub [5, 6, 2, 1, 3, 0] rfl h
set_option maxRecDepth 100000 in
theorem w_X6_keepBest_142 {E : Nat × (Nat → Int32)} {d : Nat} {v : xV} {x1 : Int32} {x4 : Int32} {Q : xV → Prop} (h : vp_in x1 20 ∧ ∀ f2 : Nat → Int32, f2 = (upd (gA v 44) (x1).toNatClampNeg x4) → Q (v_A v 44 f2)) : RV E (d + 1) 66 142 [(0, .ref 49), (1, .int x1), (4, .int x4)] v Q := by
  unfold RV
  obtain ⟨hb1, h⟩ := h
  refine xr_blk (lv1 := [(0, .ref 49), (1, .int x1), (4, .int x4)]) (st1 := []) (S1 := rt (v_A v 44 (upd (gA v 44) (x1).toNatClampNeg x4))) (pc1 := 153) [(.aload_n 0, .null, 0, 0), (.getfield 62, .null, 6, 3), (.getfield 218, .null, 7, 5), (.iload_n 1, .null, 0, 0), (.iload 4, .null, 0, 0), (.iastore, .null, 0, 0)] [(x1, 20)] (by decide +kernel) rfl ⟨hb1, trivial⟩ ?_
  refine (fun (k : ∀ f2 : Nat → Int32, f2 = (upd (gA v 44) (x1).toNatClampNeg x4) → x_R E (d + 1) 66 153 [(0, .ref 49), (1, .int x1), (4, .int x4)] [] (rt (v_A v 44 f2)) _) => k _ rfl) (fun f2 ef2 => ?_)
  replace h := h f2 ef2
  exact xr_ret0 (by decide +kernel) rfl ⟨_, rfl, rfl, h⟩
theorem ok_66 : x_mOK 66 := ⟨x_tm4 (List.mem_of_getElem? (i := 169) rfl) rfl, 110, by decide +kernel⟩
/-! X6_keepFirst: method 67, ScrawlHouse$Reader.keepFirst(II)V -/
set_option maxRecDepth 100000 in
theorem w_X6_keepFirst_0 {E : Nat × (Nat → Int32)} {d : Nat} {v : xV} {x1 : Int32} {x2 : Int32} {Q : xV → Prop} (h : vp_in x2 80 ∧ ∀ y2 : Int32, y2 = ((gA v 8) (x2).toNatClampNeg) → (((nI 3) ≤ y2 → Q v) ∧ (¬ (nI 3) ≤ y2 → KI E d 74 [.ref 38, .int x1, .int y2] v (fun y4 v3 => ((¬ y4 = (-1 : Int32) → Q v3) ∧ (y4 = (-1 : Int32) → vp_in ((x1 * (nI 3)) + y2) 60 ∧ Q (v_A v3 46 (upd (gA v3 46) (((x1 * (nI 3)) + y2)).toNatClampNeg x2)))))))) : RV E (d + 1) 67 0 [(0, .ref 49), (1, .int x1), (2, .int x2)] v Q := by
  unfold RV
  obtain ⟨hb1, h⟩ := h
  refine xr_blk (lv1 := [(0, .ref 49), (1, .int x1), (2, .int x2)]) (st1 := [.int ((gA v 8) (x2).toNatClampNeg)]) (S1 := rt v) (pc1 := 9) [(.aload_n 0, .null, 0, 0), (.getfield 50, .null, 6, 0), (.getfield 198, .null, 3, 4), (.iload_n 2, .null, 0, 0), (.iaload, .null, 0, 0)] [(x2, 80)] (by decide +kernel) rfl ⟨hb1, trivial⟩ ?_
  refine xr_topi (fun y2 ey2 => ?_)
  replace h := h y2 ey2
  refine xr_blk (lv1 := [(3, .int y2), (0, .ref 49), (1, .int x1), (2, .int x2)]) (st1 := [.int (nI 3), .int y2]) (S1 := rt v) (pc1 := 12) [(.istore_n 3, .null, 0, 0), (.iload_n 3, .null, 0, 0), (.iconst 3, .int (nI 3), 0, 0)] [] (by decide +kernel) rfl trivial ?_
  refine xr_ic_ge (tgt := 42) (off := 30) (by decide +kernel) (by decide) (fun hc => ?_) (fun hc => ?_)
  · replace h := h.1 hc
    exact xr_ret0 (by decide +kernel) rfl ⟨_, rfl, rfl, h⟩
  · replace h := h.2 hc
    refine xr_blk (lv1 := [(3, .int y2), (0, .ref 49), (1, .int x1), (2, .int x2)]) (st1 := [.int y2, .int x1, .ref 38]) (S1 := rt v) (pc1 := 21) [(.aload_n 0, .null, 0, 0), (.getfield 62, .null, 6, 3), (.iload_n 1, .null, 0, 0), (.iload_n 3, .null, 0, 0)] [] (by decide +kernel) rfl trivial ?_
    refine xk_VI (As := [.int x1, .int y2]) (bb := 38) (rest := []) (idx := 221) (i0 := 221) (m1 := 74) (ps := [994, 995, 996]) (by decide +kernel) (by decide +kernel) (by decide) rfl ((gK_s (by decide)).trans (by decide +kernel)) (by decide) (Nat.le_of_ble_eq_true rfl) rfl h (fun y4 v3 h => ?_)
    refine xr_blk (lv1 := [(3, .int y2), (0, .ref 49), (1, .int x1), (2, .int x2)]) (st1 := [.int (-1), .int y4]) (S1 := rt v3) (pc1 := 25) [(.iconst (-1), .int (-1), 0, 0)] [] (by decide +kernel) rfl trivial ?_
    refine xr_ic_ne (tgt := 42) (off := 17) (by decide +kernel) (by decide) (fun hc => ?_) (fun hc => ?_)
    · replace h := h.1 hc
      exact xr_ret0 (by decide +kernel) rfl ⟨_, rfl, rfl, h⟩
    · replace h := h.2 hc
      obtain ⟨hb5, h⟩ := h
      refine xr_blk (lv1 := [(3, .int y2), (0, .ref 49), (1, .int x1), (2, .int x2)]) (st1 := []) (S1 := rt (v_A v3 46 (upd (gA v3 46) (((x1 * (nI 3)) + y2)).toNatClampNeg x2))) (pc1 := 42) [(.aload_n 0, .null, 0, 0), (.getfield 62, .null, 6, 3), (.getfield 224, .null, 7, 7), (.iload_n 1, .null, 0, 0), (.iconst 3, .int (nI 3), 0, 0), (.imul, .null, 0, 0), (.iload_n 3, .null, 0, 0), (.iadd, .null, 0, 0), (.iload_n 2, .null, 0, 0), (.iastore, .null, 0, 0)] [(((x1 * (nI 3)) + y2), 60)] (by decide +kernel) rfl ⟨hb5, trivial⟩ ?_
      exact xr_ret0 (by decide +kernel) rfl ⟨_, rfl, rfl, h⟩
theorem ok_67 : x_mOK 67 := ⟨x_tm4 (List.mem_of_getElem? (i := 173) rfl) rfl, 110, by decide +kernel⟩
/-! X6_keepForms: method 68, ScrawlHouse$Reader.keepForms(I)V -/
set_option maxRecDepth 100000 in
theorem w_X6_keepForms_0 {E : Nat × (Nat → Int32)} {d : Nat} {v : xV} {x1 : Int32} {Q : xV → Prop} (h : ((¬ (gI v 49 14) = (-1 : Int32) → KV E d 230 [.ref 56, .int (-1)] v (fun v1 => RV E (d + 1) 68 21 [(0, .ref 49), (1, .int x1), (2, .int (nI 0)), (3, .int (nI 0))] v1 Q)) ∧ ((gI v 49 14) = (-1 : Int32) → Q v))) : RV E (d + 1) 68 0 [(0, .ref 49), (1, .int x1)] v Q := by
  unfold RV
  refine xr_blk (lv1 := [(0, .ref 49), (1, .int x1)]) (st1 := [.int (-1), .int (gI v 49 14)]) (S1 := rt v) (pc1 := 5) [(.aload_n 0, .null, 0, 0), (.getfield 43, .null, 6, 14), (.iconst (-1), .int (-1), 0, 0)] [] (by decide +kernel) rfl trivial ?_
  refine xr_ic_ne (tgt := 9) (off := 4) (by decide +kernel) (by decide) (fun hc => ?_) (fun hc => ?_)
  · replace h := h.1 hc
    refine xr_blk (lv1 := [(0, .ref 49), (1, .int x1)]) (st1 := [.int (-1), .ref 56]) (S1 := rt v) (pc1 := 14) [(.aload_n 0, .null, 0, 0), (.getfield 31, .null, 6, 10), (.iconst (-1), .int (-1), 0, 0)] [] (by decide +kernel) rfl trivial ?_
    refine xk_SV (As := [.ref 56, .int (-1)]) (rest := []) (idx := 227) (i0 := 227) (m1 := 230) (ps := [1002, 197]) (by decide +kernel) (by decide +kernel) (by decide) rfl (Nat.le_of_ble_eq_true rfl) rfl h (fun v1 h => ?_)
    refine xr_blk (lv1 := [(3, .int (nI 0)), (2, .int (nI 0)), (0, .ref 49), (1, .int x1)]) (st1 := []) (S1 := rt v1) (pc1 := 21) [(.iconst 0, .int (nI 0), 0, 0), (.istore_n 2, .null, 0, 0), (.iconst 0, .int (nI 0), 0, 0), (.istore_n 3, .null, 0, 0)] [] (by decide +kernel) rfl trivial ?_
    exact x_R.sub [2, 3, 1, 0] rfl h
  · replace h := h.2 hc
    exact xr_ret0 (by decide +kernel) rfl ⟨_, rfl, rfl, h⟩
set_option maxRecDepth 100000 in
theorem w_X6_keepForms_21 {E : Nat × (Nat → Int32)} {d : Nat} {v : xV} {x1 : Int32} {x2 : Int32} {x3 : Int32} {Q : xV → Prop} (h : vp_in x1 20 ∧ ((((gA v 44) (x1).toNatClampNeg) ≤ x3 → RV E (d + 1) 68 128 [(0, .ref 49), (1, .int x1), (3, .int (nI 0))] v Q) ∧ (¬ ((gA v 44) (x1).toNatClampNeg) ≤ x3 → vp_in ((x1 * (nI 6)) + x3) 120 ∧ ∀ y3 : Int32, y3 = ((gA v 45) (((x1 * (nI 6)) + x3)).toNatClampNeg) → RV E (d + 1) 68 53 [(0, .ref 49), (1, .int x1), (2, .int x2), (3, .int x3), (4, .int y3), (5, .int (nI 0))] v Q))) : RV E (d + 1) 68 21 [(0, .ref 49), (1, .int x1), (2, .int x2), (3, .int x3)] v Q := by
  unfold RV
  obtain ⟨hb1, h⟩ := h
  refine xr_blk (lv1 := [(0, .ref 49), (1, .int x1), (2, .int x2), (3, .int x3)]) (st1 := [.int ((gA v 44) (x1).toNatClampNeg), .int x3]) (S1 := rt v) (pc1 := 31) [(.iload_n 3, .null, 0, 0), (.aload_n 0, .null, 0, 0), (.getfield 62, .null, 6, 3), (.getfield 218, .null, 7, 5), (.iload_n 1, .null, 0, 0), (.iaload, .null, 0, 0)] [(x1, 20)] (by decide +kernel) rfl ⟨hb1, trivial⟩ ?_
  refine xr_ic_ge (tgt := 126) (off := 95) (by decide +kernel) (by decide) (fun hc => ?_) (fun hc => ?_)
  · replace h := h.1 hc
    refine xr_blk (lv1 := [(3, .int (nI 0)), (0, .ref 49), (1, .int x1), (2, .int x2)]) (st1 := []) (S1 := rt v) (pc1 := 128) [(.iconst 0, .int (nI 0), 0, 0), (.istore_n 3, .null, 0, 0)] [] (by decide +kernel) rfl trivial ?_
    exact x_R.sub [1, 2, 0] rfl h
  · replace h := h.2 hc
    obtain ⟨hb2, h⟩ := h
    refine xr_blk (lv1 := [(0, .ref 49), (1, .int x1), (2, .int x2), (3, .int x3)]) (st1 := [.int ((gA v 45) (((x1 * (nI 6)) + x3)).toNatClampNeg)]) (S1 := rt v) (pc1 := 48) [(.aload_n 0, .null, 0, 0), (.getfield 62, .null, 6, 3), (.getfield 213, .null, 7, 6), (.iload_n 1, .null, 0, 0), (.bipush 6, .int (nI 6), 0, 0), (.imul, .null, 0, 0), (.iload_n 3, .null, 0, 0), (.iadd, .null, 0, 0), (.iaload, .null, 0, 0)] [(((x1 * (nI 6)) + x3), 120)] (by decide +kernel) rfl ⟨hb2, trivial⟩ ?_
    refine xr_topi (fun y3 ey3 => ?_)
    replace h := h y3 ey3
    refine xr_blk (lv1 := [(5, .int (nI 0)), (4, .int y3), (0, .ref 49), (1, .int x1), (2, .int x2), (3, .int x3)]) (st1 := []) (S1 := rt v) (pc1 := 53) [(.istore 4, .null, 0, 0), (.iconst 0, .int (nI 0), 0, 0), (.istore 5, .null, 0, 0)] [] (by decide +kernel) rfl trivial ?_
    exact x_R.sub [2, 3, 4, 5, 1, 0] rfl h
set_option maxRecDepth 100000 in
theorem w_X6_keepForms_53 {E : Nat × (Nat → Int32)} {d : Nat} {v : xV} {x1 : Int32} {x2 : Int32} {x3 : Int32} {x4 : Int32} {x5 : Int32} {Q : xV → Prop} (h : vp_in x4 80 ∧ ((((gA v 7) (x4).toNatClampNeg) ≤ x5 → RV E (d + 1) 68 21 [(0, .ref 49), (1, .int x1), (2, .int x2), (3, .int (x3 + (nI 1)))] v Q) ∧ (¬ ((gA v 7) (x4).toNatClampNeg) ≤ x5 → (((gI v 49 15) ≤ x2 → RV E (d + 1) 68 21 [(0, .ref 49), (1, .int x1), (2, .int x2), (3, .int (x3 + (nI 1)))] v Q) ∧ (¬ (gI v 49 15) ≤ x2 → vp_in ((x4 * (nI 10)) + x5) 800 ∧ ∀ y3 : Int32, y3 = ((gA v 6) (((x4 * (nI 10)) + x5)).toNatClampNeg) → vp_in y3 26 ∧ KI E d 69 [.ref 49, .int x2, .int y3] v (fun y6 v5 => vp_in y3 26 ∧ ∀ f8 : Nat → Int32, f8 = (upd (gA v5 56) (y3).toNatClampNeg (((gA v 56) (y3).toNatClampNeg) &&& y6)) → RV E (d + 1) 68 53 [(0, .ref 49), (1, .int x1), (2, .int (x2 + (nI 1))), (3, .int x3), (4, .int x4), (5, .int (x5 + (nI 1)))] (v_A v5 56 f8) Q)))))) : RV E (d + 1) 68 53 [(0, .ref 49), (1, .int x1), (2, .int x2), (3, .int x3), (4, .int x4), (5, .int x5)] v Q := by
  unfold RV
  obtain ⟨hb1, h⟩ := h
  refine xr_blk (lv1 := [(0, .ref 49), (1, .int x1), (2, .int x2), (3, .int x3), (4, .int x4), (5, .int x5)]) (st1 := [.int ((gA v 7) (x4).toNatClampNeg), .int x5]) (S1 := rt v) (pc1 := 65) [(.iload 5, .null, 0, 0), (.aload_n 0, .null, 0, 0), (.getfield 50, .null, 6, 0), (.getfield 201, .null, 3, 3), (.iload 4, .null, 0, 0), (.iaload, .null, 0, 0)] [(x4, 80)] (by decide +kernel) rfl ⟨hb1, trivial⟩ ?_
  refine xr_ic_ge (tgt := 120) (off := 55) (by decide +kernel) (by decide) (fun hc => ?_) (fun hc => ?_)
  · replace h := h.1 hc
    refine xr_blk (lv1 := [(3, .int (x3 + (nI 1))), (0, .ref 49), (1, .int x1), (2, .int x2), (4, .int x4), (5, .int x5)]) (st1 := []) (S1 := rt v) (pc1 := 123) [(.iinc 3 1, .int (nI 1), 0, 0)] [] (by decide +kernel) rfl trivial ?_
    refine xr_goto (tgt := 21) (off := -102) (by decide +kernel) (by decide) ?_
    exact x_R.sub [1, 2, 3, 0] rfl h
  · replace h := h.2 hc
    refine xr_blk (lv1 := [(0, .ref 49), (1, .int x1), (2, .int x2), (3, .int x3), (4, .int x4), (5, .int x5)]) (st1 := [.int (gI v 49 15), .int x2]) (S1 := rt v) (pc1 := 73) [(.iload_n 2, .null, 0, 0), (.aload_n 0, .null, 0, 0), (.getfield 47, .null, 6, 15)] [] (by decide +kernel) rfl trivial ?_
    refine xr_ic_ge (tgt := 120) (off := 47) (by decide +kernel) (by decide) (fun hc => ?_) (fun hc => ?_)
    · replace h := h.1 hc
      refine xr_blk (lv1 := [(3, .int (x3 + (nI 1))), (0, .ref 49), (1, .int x1), (2, .int x2), (4, .int x4), (5, .int x5)]) (st1 := []) (S1 := rt v) (pc1 := 123) [(.iinc 3 1, .int (nI 1), 0, 0)] [] (by decide +kernel) rfl trivial ?_
      refine xr_goto (tgt := 21) (off := -102) (by decide +kernel) (by decide) ?_
      exact x_R.sub [1, 2, 3, 0] rfl h
    · replace h := h.2 hc
      obtain ⟨hb2, h⟩ := h
      refine xr_blk (lv1 := [(0, .ref 49), (1, .int x1), (2, .int x2), (3, .int x3), (4, .int x4), (5, .int x5)]) (st1 := [.int ((gA v 6) (((x4 * (nI 10)) + x5)).toNatClampNeg)]) (S1 := rt v) (pc1 := 92) [(.aload_n 0, .null, 0, 0), (.getfield 50, .null, 6, 0), (.getfield 204, .null, 3, 2), (.iload 4, .null, 0, 0), (.bipush 10, .int (nI 10), 0, 0), (.imul, .null, 0, 0), (.iload 5, .null, 0, 0), (.iadd, .null, 0, 0), (.iaload, .null, 0, 0)] [(((x4 * (nI 10)) + x5), 800)] (by decide +kernel) rfl ⟨hb2, trivial⟩ ?_
      refine xr_topi (fun y3 ey3 => ?_)
      replace h := h y3 ey3
      obtain ⟨hb4, h⟩ := h
      refine xr_blk (lv1 := [(6, .int y3), (0, .ref 49), (1, .int x1), (2, .int x2), (3, .int x3), (4, .int x4), (5, .int x5)]) (st1 := [.int y3, .int x2, .ref 49, .int ((gA v 56) (y3).toNatClampNeg), .int y3, .ref 56]) (S1 := rt v) (pc1 := 106) [(.istore 6, .null, 0, 0), (.aload_n 0, .null, 0, 0), (.getfield 31, .null, 6, 10), (.iload 6, .null, 0, 0), (.dup2, .null, 0, 0), (.iaload, .null, 0, 0), (.aload_n 0, .null, 0, 0), (.iload_n 2, .null, 0, 0), (.iload 6, .null, 0, 0)] [(y3, 26)] (by decide +kernel) rfl ⟨hb4, trivial⟩ ?_
      refine xk_VI (As := [.int x2, .int y3]) (bb := 49) (rest := [.int ((gA v 56) (y3).toNatClampNeg), .int y3, .ref 56]) (idx := 230) (i0 := 230) (m1 := 69) (ps := [1003, 1005, 27]) (by decide +kernel) (by decide +kernel) (by decide) rfl ((gK_s (by decide)).trans (by decide +kernel)) (by decide) (Nat.le_of_ble_eq_true rfl) rfl h (fun y6 v5 h => ?_)
      obtain ⟨hb7, h⟩ := h
      refine xr_blk (lv1 := [(5, .int (x5 + (nI 1))), (2, .int (x2 + (nI 1))), (6, .int y3), (0, .ref 49), (1, .int x1), (3, .int x3), (4, .int x4)]) (st1 := []) (S1 := rt (v_A v5 56 (upd (gA v5 56) (y3).toNatClampNeg (((gA v 56) (y3).toNatClampNeg) &&& y6)))) (pc1 := 117) [(.iand, .null, 0, 0), (.iastore, .null, 0, 0), (.iinc 2 1, .int (nI 1), 0, 0), (.iinc 5 1, .int (nI 1), 0, 0)] [(y3, 26)] (by decide +kernel) rfl ⟨hb7, trivial⟩ ?_
      refine (fun (k : ∀ f8 : Nat → Int32, f8 = (upd (gA v5 56) (y3).toNatClampNeg (((gA v 56) (y3).toNatClampNeg) &&& y6)) → x_R E (d + 1) 68 117 [(5, .int (x5 + (nI 1))), (2, .int (x2 + (nI 1))), (6, .int y3), (0, .ref 49), (1, .int x1), (3, .int x3), (4, .int x4)] [] (rt (v_A v5 56 f8)) _) => k _ rfl) (fun f8 ef8 => ?_)
      replace h := h f8 ef8
      refine xr_goto (tgt := 53) (off := -64) (by decide +kernel) (by decide) ?_
      exact x_R.sub [3, 4, 1, 5, 6, 0] rfl h
set_option maxRecDepth 100000 in
theorem w_X6_keepForms_128 {E : Nat × (Nat → Int32)} {d : Nat} {v : xV} {x1 : Int32} {x3 : Int32} {Q : xV → Prop} (h : (((nI 26) ≤ x3 → Q v) ∧ (¬ (nI 26) ≤ x3 → vp_in x3 26 ∧ KI E d 70 [.int ((gA v 56) (x3).toNatClampNeg)] v (fun y3 v2 => vp_in ((x1 * (nI 26)) + x3) 520 ∧ vp_in x1 20 ∧ ∀ f6 : Nat → Int32, f6 = (upd (gA v2 47) (((x1 * (nI 26)) + x3)).toNatClampNeg y3) → ((¬ y3 = (-1 : Int32) → vp_in x1 20 ∧ ∀ f8 : Nat → Int32, f8 = (upd (gA v2 48) (x1).toNatClampNeg (((gA v2 48) (x1).toNatClampNeg) + (nI 1))) → RV E (d + 1) 68 128 [(0, .ref 49), (1, .int x1), (3, .int (x3 + (nI 1)))] (v_A (v_A v2 47 f6) 48 f8) Q) ∧ (y3 = (-1 : Int32) → vp_in x1 20 ∧ ∀ f10 : Nat → Int32, f10 = (upd (gA v2 48) (x1).toNatClampNeg (((gA v2 48) (x1).toNatClampNeg) + (nI 0))) → RV E (d + 1) 68 128 [(0, .ref 49), (1, .int x1), (3, .int (x3 + (nI 1)))] (v_A (v_A v2 47 f6) 48 f10) Q)))))) : RV E (d + 1) 68 128 [(0, .ref 49), (1, .int x1), (3, .int x3)] v Q := by
  unfold RV
  refine xr_blk (lv1 := [(0, .ref 49), (1, .int x1), (3, .int x3)]) (st1 := [.int (nI 26), .int x3]) (S1 := rt v) (pc1 := 131) [(.iload_n 3, .null, 0, 0), (.bipush 26, .int (nI 26), 0, 0)] [] (by decide +kernel) rfl trivial ?_
  refine xr_ic_ge (tgt := 190) (off := 59) (by decide +kernel) (by decide) (fun hc => ?_) (fun hc => ?_)
  · replace h := h.1 hc
    exact xr_ret0 (by decide +kernel) rfl ⟨_, rfl, rfl, h⟩
  · replace h := h.2 hc
    obtain ⟨hb1, h⟩ := h
    refine xr_blk (lv1 := [(0, .ref 49), (1, .int x1), (3, .int x3)]) (st1 := [.int ((gA v 56) (x3).toNatClampNeg)]) (S1 := rt v) (pc1 := 140) [(.aload_n 0, .null, 0, 0), (.getfield 31, .null, 6, 10), (.iload_n 3, .null, 0, 0), (.iaload, .null, 0, 0)] [(x3, 26)] (by decide +kernel) rfl ⟨hb1, trivial⟩ ?_
    refine xk_SI (As := [.int ((gA v 56) (x3).toNatClampNeg)]) (rest := []) (idx := 233) (i0 := 233) (m1 := 70) (ps := [1007, 1008]) (by decide +kernel) (by decide +kernel) (by decide) rfl (Nat.le_of_ble_eq_true rfl) rfl h (fun y3 v2 h => ?_)
    obtain ⟨hb4, h⟩ := h
    obtain ⟨hb5, h⟩ := h
    refine xr_blk (lv1 := [(4, .int y3), (0, .ref 49), (1, .int x1), (3, .int x3)]) (st1 := [.int (-1), .int y3, .int ((gA v2 48) (x1).toNatClampNeg), .int x1, .ref 48]) (S1 := rt (v_A v2 47 (upd (gA v2 47) (((x1 * (nI 26)) + x3)).toNatClampNeg y3))) (pc1 := 174) [(.istore 4, .null, 0, 0), (.aload_n 0, .null, 0, 0), (.getfield 62, .null, 6, 3), (.getfield 236, .null, 7, 8), (.iload_n 1, .null, 0, 0), (.bipush 26, .int (nI 26), 0, 0), (.imul, .null, 0, 0), (.iload_n 3, .null, 0, 0), (.iadd, .null, 0, 0), (.iload 4, .null, 0, 0), (.iastore, .null, 0, 0), (.aload_n 0, .null, 0, 0), (.getfield 62, .null, 6, 3), (.getfield 239, .null, 7, 9), (.iload_n 1, .null, 0, 0), (.dup2, .null, 0, 0), (.iaload, .null, 0, 0), (.iload 4, .null, 0, 0), (.iconst (-1), .int (-1), 0, 0)] [(((x1 * (nI 26)) + x3), 520), (x1, 20)] (by decide +kernel) rfl ⟨hb4, hb5, trivial⟩ ?_
    refine (fun (k : ∀ f6 : Nat → Int32, f6 = (upd (gA v2 47) (((x1 * (nI 26)) + x3)).toNatClampNeg y3) → x_R E (d + 1) 68 174 [(4, .int y3), (0, .ref 49), (1, .int x1), (3, .int x3)] [.int (-1), .int y3, .int ((gA v2 48) (x1).toNatClampNeg), .int x1, .ref 48] (rt (v_A v2 47 f6)) _) => k _ rfl) (fun f6 ef6 => ?_)
    replace h := h f6 ef6
    refine xr_ic_ne (tgt := 181) (off := 7) (by decide +kernel) (by decide) (fun hc => ?_) (fun hc => ?_)
    · replace h := h.1 hc
      obtain ⟨hb7, h⟩ := h
      refine xr_blk (lv1 := [(3, .int (x3 + (nI 1))), (4, .int y3), (0, .ref 49), (1, .int x1)]) (st1 := []) (S1 := rt (v_A (v_A v2 47 f6) 48 (upd (gA v2 48) (x1).toNatClampNeg (((gA v2 48) (x1).toNatClampNeg) + (nI 1))))) (pc1 := 187) [(.iconst 1, .int (nI 1), 0, 0), (.iadd, .null, 0, 0), (.iastore, .null, 0, 0), (.iinc 3 1, .int (nI 1), 0, 0)] [(x1, 20)] (by decide +kernel) rfl ⟨hb7, trivial⟩ ?_
      refine (fun (k : ∀ f8 : Nat → Int32, f8 = (upd (gA v2 48) (x1).toNatClampNeg (((gA v2 48) (x1).toNatClampNeg) + (nI 1))) → x_R E (d + 1) 68 187 [(3, .int (x3 + (nI 1))), (4, .int y3), (0, .ref 49), (1, .int x1)] [] (rt (v_A (v_A v2 47 f6) 48 f8)) _) => k _ rfl) (fun f8 ef8 => ?_)
      replace h := h f8 ef8
      refine xr_goto (tgt := 128) (off := -59) (by decide +kernel) (by decide) ?_
      exact x_R.sub [2, 3, 0] rfl h
    · replace h := h.2 hc
      refine xr_blk (lv1 := [(4, .int y3), (0, .ref 49), (1, .int x1), (3, .int x3)]) (st1 := [.int (nI 0), .int ((gA v2 48) (x1).toNatClampNeg), .int x1, .ref 48]) (S1 := rt (v_A v2 47 f6)) (pc1 := 178) [(.iconst 0, .int (nI 0), 0, 0)] [] (by decide +kernel) rfl trivial ?_
      refine xr_goto (tgt := 182) (off := 4) (by decide +kernel) (by decide) ?_
      obtain ⟨hb9, h⟩ := h
      refine xr_blk (lv1 := [(3, .int (x3 + (nI 1))), (4, .int y3), (0, .ref 49), (1, .int x1)]) (st1 := []) (S1 := rt (v_A (v_A v2 47 f6) 48 (upd (gA v2 48) (x1).toNatClampNeg (((gA v2 48) (x1).toNatClampNeg) + (nI 0))))) (pc1 := 187) [(.iadd, .null, 0, 0), (.iastore, .null, 0, 0), (.iinc 3 1, .int (nI 1), 0, 0)] [(x1, 20)] (by decide +kernel) rfl ⟨hb9, trivial⟩ ?_
      refine (fun (k : ∀ f10 : Nat → Int32, f10 = (upd (gA v2 48) (x1).toNatClampNeg (((gA v2 48) (x1).toNatClampNeg) + (nI 0))) → x_R E (d + 1) 68 187 [(3, .int (x3 + (nI 1))), (4, .int y3), (0, .ref 49), (1, .int x1)] [] (rt (v_A (v_A v2 47 f6) 48 f10)) _) => k _ rfl) (fun f10 ef10 => ?_)
      replace h := h f10 ef10
      refine xr_goto (tgt := 128) (off := -59) (by decide +kernel) (by decide) ?_
      exact x_R.sub [2, 3, 0] rfl h
theorem ok_68 : x_mOK 68 := ⟨x_tm4 (List.mem_of_getElem? (i := 181) rfl) rfl, 110, by decide +kernel⟩
/-! X6_formsThatMay: method 69, ScrawlHouse$Reader.formsThatMay(II)I -/
set_option maxRecDepth 100000 in
theorem w_X6_formsThatMay_0 {E : Nat × (Nat → Int32)} {d : Nat} {v : xV} {x1 : Int32} {x2 : Int32} {Q : Int32 → xV → Prop} (h : RI E (d + 1) 69 5 [(0, .ref 49), (1, .int x1), (2, .int x2), (3, .int (nI 0)), (4, .int (nI 0))] v Q) : RI E (d + 1) 69 0 [(0, .ref 49), (1, .int x1), (2, .int x2)] v Q := by
  unfold RI
  refine xr_blk (lv1 := [(4, .int (nI 0)), (3, .int (nI 0)), (0, .ref 49), (1, .int x1), (2, .int x2)]) (st1 := []) (S1 := rt v) (pc1 := 5) [(.iconst 0, .int (nI 0), 0, 0), (.istore_n 3, .null, 0, 0), (.iconst 0, .int (nI 0), 0, 0), (.istore 4, .null, 0, 0)] [] (by decide +kernel) rfl trivial ?_
  exact x_R.sub [2, 3, 4, 1, 0] rfl h
set_option maxRecDepth 100000 in
theorem w_X6_formsThatMay_5 {E : Nat × (Nat → Int32)} {d : Nat} {v : xV} {x1 : Int32} {x2 : Int32} {x3 : Int32} {x4 : Int32} {Q : Int32 → xV → Prop} (h : vp_in x2 26 ∧ ((((gA v 5) (x2).toNatClampNeg) ≤ x4 → Q x3 v) ∧ (¬ ((gA v 5) (x2).toNatClampNeg) ≤ x4 → KI E d 59 [.ref 49, .int x1, .int x2, .int x4] v (fun y3 v2 => ((y3 = (nI 0) → RI E (d + 1) 69 5 [(0, .ref 49), (1, .int x1), (2, .int x2), (3, .int x3), (4, .int (x4 + (nI 1)))] v2 Q) ∧ (¬ y3 = (nI 0) → ∀ y4 : Int32, y4 = (x3 ||| ((nI 1) <<< (x4 &&& 31))) → RI E (d + 1) 69 5 [(0, .ref 49), (1, .int x1), (2, .int x2), (3, .int y4), (4, .int (x4 + (nI 1)))] v2 Q)))))) : RI E (d + 1) 69 5 [(0, .ref 49), (1, .int x1), (2, .int x2), (3, .int x3), (4, .int x4)] v Q := by
  unfold RI
  obtain ⟨hb1, h⟩ := h
  refine xr_blk (lv1 := [(0, .ref 49), (1, .int x1), (2, .int x2), (3, .int x3), (4, .int x4)]) (st1 := [.int ((gA v 5) (x2).toNatClampNeg), .int x4]) (S1 := rt v) (pc1 := 16) [(.iload 4, .null, 0, 0), (.aload_n 0, .null, 0, 0), (.getfield 50, .null, 6, 0), (.getfield 137, .null, 3, 1), (.iload_n 2, .null, 0, 0), (.iaload, .null, 0, 0)] [(x2, 26)] (by decide +kernel) rfl ⟨hb1, trivial⟩ ?_
  refine xr_ic_ge (tgt := 43) (off := 27) (by decide +kernel) (by decide) (fun hc => ?_) (fun hc => ?_)
  · replace h := h.1 hc
    refine xr_blk (lv1 := [(0, .ref 49), (1, .int x1), (2, .int x2), (3, .int x3), (4, .int x4)]) (st1 := [.int x3]) (S1 := rt v) (pc1 := 44) [(.iload_n 3, .null, 0, 0)] [] (by decide +kernel) rfl trivial ?_
    exact xr_iret (by decide +kernel) rfl ⟨_, _, rfl, rfl, h⟩
  · replace h := h.2 hc
    refine xr_blk (lv1 := [(0, .ref 49), (1, .int x1), (2, .int x2), (3, .int x3), (4, .int x4)]) (st1 := [.int x4, .int x2, .int x1, .ref 49]) (S1 := rt v) (pc1 := 24) [(.aload_n 0, .null, 0, 0), (.iload_n 1, .null, 0, 0), (.iload_n 2, .null, 0, 0), (.iload 4, .null, 0, 0)] [] (by decide +kernel) rfl trivial ?_
    refine xk_VI (As := [.int x1, .int x2, .int x4]) (bb := 49) (rest := []) (idx := 140) (i0 := 140) (m1 := 59) (ps := [914, 916, 15]) (by decide +kernel) (by decide +kernel) (by decide) rfl ((gK_s (by decide)).trans (by decide +kernel)) (by decide) (Nat.le_of_ble_eq_true rfl) rfl h (fun y3 v2 h => ?_)
    refine xr_if_eq (tgt := 37) (off := 10) (by decide +kernel) (by decide) (fun hc => ?_) (fun hc => ?_)
    · replace h := h.1 hc
      refine xr_blk (lv1 := [(4, .int (x4 + (nI 1))), (0, .ref 49), (1, .int x1), (2, .int x2), (3, .int x3)]) (st1 := []) (S1 := rt v2) (pc1 := 40) [(.iinc 4 1, .int (nI 1), 0, 0)] [] (by decide +kernel) rfl trivial ?_
      refine xr_goto (tgt := 5) (off := -35) (by decide +kernel) (by decide) ?_
      exact x_R.sub [1, 2, 3, 4, 0] rfl h
    · replace h := h.2 hc
      refine xr_blk (lv1 := [(0, .ref 49), (1, .int x1), (2, .int x2), (3, .int x3), (4, .int x4)]) (st1 := [.int (x3 ||| ((nI 1) <<< (x4 &&& 31)))]) (S1 := rt v2) (pc1 := 36) [(.iload_n 3, .null, 0, 0), (.iconst 1, .int (nI 1), 0, 0), (.iload 4, .null, 0, 0), (.ishl, .null, 0, 0), (.ior, .null, 0, 0)] [] (by decide +kernel) rfl trivial ?_
      refine xr_topi (fun y4 ey4 => ?_)
      replace h := h y4 ey4
      refine xr_blk (lv1 := [(4, .int (x4 + (nI 1))), (3, .int y4), (0, .ref 49), (1, .int x1), (2, .int x2)]) (st1 := []) (S1 := rt v2) (pc1 := 40) [(.istore_n 3, .null, 0, 0), (.iinc 4 1, .int (nI 1), 0, 0)] [] (by decide +kernel) rfl trivial ?_
      refine xr_goto (tgt := 5) (off := -35) (by decide +kernel) (by decide) ?_
      exact x_R.sub [2, 3, 4, 1, 0] rfl h
theorem ok_69 : x_mOK 69 := ⟨x_tm4 (List.mem_of_getElem? (i := 186) rfl) rfl, 110, by decide +kernel⟩
/-! X6_onlyForm: method 70, ScrawlHouse$Reader.onlyForm(I)I -/
set_option maxRecDepth 100000 in
theorem w_X6_onlyForm_0 {E : Nat × (Nat → Int32)} {d : Nat} {v : xV} {x0 : Int32} {Q : Int32 → xV → Prop} (h : RI E d 70 2 [(0, .int x0), (1, .int (nI 0))] v Q) : RI E d 70 0 [(0, .int x0)] v Q := by
  unfold RI
  refine xr_blk (lv1 := [(1, .int (nI 0)), (0, .int x0)]) (st1 := []) (S1 := rt v) (pc1 := 2) [(.iconst 0, .int (nI 0), 0, 0), (.istore_n 1, .null, 0, 0)] [] (by decide +kernel) rfl trivial ?_
  exact x_R.sub [1, 0] rfl h
set_option maxRecDepth 100000 in
theorem w_X6_onlyForm_2 {E : Nat × (Nat → Int32)} {d : Nat} {v : xV} {x0 : Int32} {x1 : Int32} {Q : Int32 → xV → Prop} (h : (((nI 3) ≤ x1 → Q (-1 : Int32) v) ∧ (¬ (nI 3) ≤ x1 → ((¬ x0 = ((nI 1) <<< (x1 &&& 31)) → RI E d 70 2 [(0, .int x0), (1, .int (x1 + (nI 1)))] v Q) ∧ (x0 = ((nI 1) <<< (x1 &&& 31)) → Q x1 v))))) : RI E d 70 2 [(0, .int x0), (1, .int x1)] v Q := by
  unfold RI
  refine xr_blk (lv1 := [(0, .int x0), (1, .int x1)]) (st1 := [.int (nI 3), .int x1]) (S1 := rt v) (pc1 := 4) [(.iload_n 1, .null, 0, 0), (.iconst 3, .int (nI 3), 0, 0)] [] (by decide +kernel) rfl trivial ?_
  refine xr_ic_ge (tgt := 22) (off := 18) (by decide +kernel) (by decide) (fun hc => ?_) (fun hc => ?_)
  · replace h := h.1 hc
    refine xr_blk (lv1 := [(0, .int x0), (1, .int x1)]) (st1 := [.int (-1)]) (S1 := rt v) (pc1 := 23) [(.iconst (-1), .int (-1), 0, 0)] [] (by decide +kernel) rfl trivial ?_
    exact xr_iret (by decide +kernel) rfl ⟨_, _, rfl, rfl, h⟩
  · replace h := h.2 hc
    refine xr_blk (lv1 := [(0, .int x0), (1, .int x1)]) (st1 := [.int ((nI 1) <<< (x1 &&& 31)), .int x0]) (S1 := rt v) (pc1 := 11) [(.iload_n 0, .null, 0, 0), (.iconst 1, .int (nI 1), 0, 0), (.iload_n 1, .null, 0, 0), (.ishl, .null, 0, 0)] [] (by decide +kernel) rfl trivial ?_
    refine xr_ic_ne (tgt := 16) (off := 5) (by decide +kernel) (by decide) (fun hc => ?_) (fun hc => ?_)
    · replace h := h.1 hc
      refine xr_blk (lv1 := [(1, .int (x1 + (nI 1))), (0, .int x0)]) (st1 := []) (S1 := rt v) (pc1 := 19) [(.iinc 1 1, .int (nI 1), 0, 0)] [] (by decide +kernel) rfl trivial ?_
      refine xr_goto (tgt := 2) (off := -17) (by decide +kernel) (by decide) ?_
      exact x_R.sub [1, 0] rfl h
    · replace h := h.2 hc
      refine xr_blk (lv1 := [(0, .int x0), (1, .int x1)]) (st1 := [.int x1]) (S1 := rt v) (pc1 := 15) [(.iload_n 1, .null, 0, 0)] [] (by decide +kernel) rfl trivial ?_
      exact xr_iret (by decide +kernel) rfl ⟨_, _, rfl, rfl, h⟩
theorem ok_70 : x_mOK 70 := ⟨x_tm4 (List.mem_of_getElem? (i := 189) rfl) rfl, 110, by decide +kernel⟩
/-! X7_forget: method 72, ScrawlHouse$Readings.forget()V -/
set_option maxRecDepth 100000 in
theorem w_X7_forget_0 {E : Nat × (Nat → Int32)} {d : Nat} {v : xV} {Q : xV → Prop} (h : RV E d 72 2 [(0, .ref 38), (1, .int (nI 0))] v Q) : RV E d 72 0 [(0, .ref 38)] v Q := by
  unfold RV
  refine xr_blk (lv1 := [(1, .int (nI 0)), (0, .ref 38)]) (st1 := []) (S1 := rt v) (pc1 := 2) [(.iconst 0, .int (nI 0), 0, 0), (.istore_n 1, .null, 0, 0)] [] (by decide +kernel) rfl trivial ?_
  exact x_R.sub [1, 0] rfl h
set_option maxRecDepth 100000 in
theorem w_X7_forget_2 {E : Nat × (Nat → Int32)} {d : Nat} {v : xV} {x1 : Int32} {Q : xV → Prop} (h : (((nI 20) ≤ x1 → Q v) ∧ (¬ (nI 20) ≤ x1 → vp_in x1 20 ∧ RV E d 72 2 [(0, .ref 38), (1, .int (x1 + (nI 1)))] (v_A v 39 (upd (gA v 39) (x1).toNatClampNeg (nI 0))) Q))) : RV E d 72 2 [(0, .ref 38), (1, .int x1)] v Q := by
  unfold RV
  refine xr_blk (lv1 := [(0, .ref 38), (1, .int x1)]) (st1 := [.int (nI 20), .int x1]) (S1 := rt v) (pc1 := 5) [(.iload_n 1, .null, 0, 0), (.bipush 20, .int (nI 20), 0, 0)] [] (by decide +kernel) rfl trivial ?_
  refine xr_ic_ge (tgt := 21) (off := 16) (by decide +kernel) (by decide) (fun hc => ?_) (fun hc => ?_)
  · replace h := h.1 hc
    exact xr_ret0 (by decide +kernel) rfl ⟨_, rfl, rfl, h⟩
  · replace h := h.2 hc
    obtain ⟨hb1, h⟩ := h
    refine xr_blk (lv1 := [(1, .int (x1 + (nI 1))), (0, .ref 38)]) (st1 := []) (S1 := rt (v_A v 39 (upd (gA v 39) (x1).toNatClampNeg (nI 0)))) (pc1 := 18) [(.aload_n 0, .null, 0, 0), (.getfield 9, .null, 7, 0), (.iload_n 1, .null, 0, 0), (.iconst 0, .int (nI 0), 0, 0), (.bastore, .null, 0, 0), (.iinc 1 1, .int (nI 1), 0, 0)] [(x1, 20), ((nI 0), 2)] (by decide +kernel) rfl ⟨hb1, x_inl (by decide), trivial⟩ ?_
    refine xr_goto (tgt := 2) (off := -16) (by decide +kernel) (by decide) ?_
    exact x_R.sub [1, 0] rfl h
theorem ok_72 : x_mOK 72 := ⟨x_tm3 (List.mem_of_getElem? (i := 83) rfl) rfl, 109, by decide +kernel⟩
/-! X7_clear: method 73, ScrawlHouse$Readings.clear(I)V -/
set_option maxRecDepth 100000 in
theorem w_X7_clear_0 {E : Nat × (Nat → Int32)} {d : Nat} {v : xV} {x1 : Int32} {Q : xV → Prop} (h : vp_in x1 20 ∧ vp_in x1 20 ∧ vp_in x1 20 ∧ vp_in x1 20 ∧ KV E d 231 [.ref 46, .int (x1 * (nI 3)), .int ((x1 + (nI 1)) * (nI 3)), .int (-1)] (v_A (v_A (v_A (v_A v 42 (upd (gA v 42) (x1).toNatClampNeg (-1 : Int32))) 43 (upd (gA v 43) (x1).toNatClampNeg (-1 : Int32))) 44 (upd (gA v 44) (x1).toNatClampNeg (nI 0))) 48 (upd (gA v 48) (x1).toNatClampNeg (nI 0))) (fun v5 => KV E d 231 [.ref 47, .int (x1 * (nI 26)), .int ((x1 + (nI 1)) * (nI 26)), .int (-1)] v5 (fun v6 => Q v6))) : RV E (d + 1) 73 0 [(0, .ref 38), (1, .int x1)] v Q := by
  unfold RV
  obtain ⟨hb1, h⟩ := h
  obtain ⟨hb2, h⟩ := h
  obtain ⟨hb3, h⟩ := h
  obtain ⟨hb4, h⟩ := h
  refine xr_blk (lv1 := [(0, .ref 38), (1, .int x1)]) (st1 := [.int (-1), .int ((x1 + (nI 1)) * (nI 3)), .int (x1 * (nI 3)), .ref 46]) (S1 := rt (v_A (v_A (v_A (v_A v 42 (upd (gA v 42) (x1).toNatClampNeg (-1 : Int32))) 43 (upd (gA v 43) (x1).toNatClampNeg (-1 : Int32))) 44 (upd (gA v 44) (x1).toNatClampNeg (nI 0))) 48 (upd (gA v 48) (x1).toNatClampNeg (nI 0)))) (pc1 := 41) [(.aload_n 0, .null, 0, 0), (.getfield 22, .null, 7, 3), (.iload_n 1, .null, 0, 0), (.iconst (-1), .int (-1), 0, 0), (.iastore, .null, 0, 0), (.aload_n 0, .null, 0, 0), (.getfield 25, .null, 7, 4), (.iload_n 1, .null, 0, 0), (.iconst (-1), .int (-1), 0, 0), (.iastore, .null, 0, 0), (.aload_n 0, .null, 0, 0), (.getfield 28, .null, 7, 5), (.iload_n 1, .null, 0, 0), (.iconst 0, .int (nI 0), 0, 0), (.iastore, .null, 0, 0), (.aload_n 0, .null, 0, 0), (.getfield 40, .null, 7, 9), (.iload_n 1, .null, 0, 0), (.iconst 0, .int (nI 0), 0, 0), (.iastore, .null, 0, 0), (.aload_n 0, .null, 0, 0), (.getfield 34, .null, 7, 7), (.iload_n 1, .null, 0, 0), (.iconst 3, .int (nI 3), 0, 0), (.imul, .null, 0, 0), (.iload_n 1, .null, 0, 0), (.iconst 1, .int (nI 1), 0, 0), (.iadd, .null, 0, 0), (.iconst 3, .int (nI 3), 0, 0), (.imul, .null, 0, 0), (.iconst (-1), .int (-1), 0, 0)] [(x1, 20), (x1, 20), (x1, 20), (x1, 20)] (by decide +kernel) rfl ⟨hb1, hb2, hb3, hb4, trivial⟩ ?_
  refine xk_SV (As := [.ref 46, .int (x1 * (nI 3)), .int ((x1 + (nI 1)) * (nI 3)), .int (-1)]) (rest := []) (idx := 43) (i0 := 43) (m1 := 231) (ps := [947, 948]) (by decide +kernel) (by decide +kernel) (by decide) rfl (Nat.le_of_ble_eq_true rfl) rfl h (fun v5 h => ?_)
  refine xr_blk (lv1 := [(0, .ref 38), (1, .int x1)]) (st1 := [.int (-1), .int ((x1 + (nI 1)) * (nI 26)), .int (x1 * (nI 26)), .ref 47]) (S1 := rt v5) (pc1 := 59) [(.aload_n 0, .null, 0, 0), (.getfield 37, .null, 7, 8), (.iload_n 1, .null, 0, 0), (.bipush 26, .int (nI 26), 0, 0), (.imul, .null, 0, 0), (.iload_n 1, .null, 0, 0), (.iconst 1, .int (nI 1), 0, 0), (.iadd, .null, 0, 0), (.bipush 26, .int (nI 26), 0, 0), (.imul, .null, 0, 0), (.iconst (-1), .int (-1), 0, 0)] [] (by decide +kernel) rfl trivial ?_
  refine xk_SV (As := [.ref 47, .int (x1 * (nI 26)), .int ((x1 + (nI 1)) * (nI 26)), .int (-1)]) (rest := []) (idx := 43) (i0 := 43) (m1 := 231) (ps := [947, 948]) (by decide +kernel) (by decide +kernel) (by decide) rfl (Nat.le_of_ble_eq_true rfl) rfl h (fun v6 h => ?_)
  exact xr_ret0 (by decide +kernel) rfl ⟨_, rfl, rfl, h⟩
theorem ok_73 : x_mOK 73 := ⟨x_tm4 (List.mem_of_getElem? (i := 126) rfl) rfl, 109, by decide +kernel⟩
/-! X7_firstOf: method 74, ScrawlHouse$Readings.firstOf(II)I -/
set_option maxRecDepth 100000 in
theorem w_X7_firstOf_0 {E : Nat × (Nat → Int32)} {d : Nat} {v : xV} {x1 : Int32} {x2 : Int32} {Q : Int32 → xV → Prop} (h : vp_in ((x1 * (nI 3)) + x2) 60 ∧ Q ((gA v 46) (((x1 * (nI 3)) + x2)).toNatClampNeg) v) : RI E d 74 0 [(0, .ref 38), (1, .int x1), (2, .int x2)] v Q := by
  unfold RI
  obtain ⟨hb1, h⟩ := h
  refine xr_blk (lv1 := [(0, .ref 38), (1, .int x1), (2, .int x2)]) (st1 := [.int ((gA v 46) (((x1 * (nI 3)) + x2)).toNatClampNeg)]) (S1 := rt v) (pc1 := 10) [(.aload_n 0, .null, 0, 0), (.getfield 34, .null, 7, 7), (.iload_n 1, .null, 0, 0), (.iconst 3, .int (nI 3), 0, 0), (.imul, .null, 0, 0), (.iload_n 2, .null, 0, 0), (.iadd, .null, 0, 0), (.iaload, .null, 0, 0)] [(((x1 * (nI 3)) + x2), 60)] (by decide +kernel) rfl ⟨hb1, trivial⟩ ?_
  exact xr_iret (by decide +kernel) rfl ⟨_, _, rfl, rfl, h⟩
theorem ok_74 : x_mOK 74 := ⟨x_tm4 (List.mem_of_getElem? (i := 177) rfl) rfl, 109, by decide +kernel⟩
/-! X7_compare: method 75, ScrawlHouse$Readings.compare(II)I -/
set_option maxRecDepth 100000 in
theorem w_X7_compare_0 {E : Nat × (Nat → Int32)} {d : Nat} {v : xV} {x1 : Int32} {x2 : Int32} {Q : Int32 → xV → Prop} (h : RI E d 75 8 [(0, .ref 38), (1, .int x1), (2, .int x2), (3, .int (nI 0)), (4, .int (nI 0)), (5, .int (nI 0))] v Q) : RI E d 75 0 [(0, .ref 38), (1, .int x1), (2, .int x2)] v Q := by
  unfold RI
  refine xr_blk (lv1 := [(5, .int (nI 0)), (4, .int (nI 0)), (3, .int (nI 0)), (0, .ref 38), (1, .int x1), (2, .int x2)]) (st1 := []) (S1 := rt v) (pc1 := 8) [(.iconst 0, .int (nI 0), 0, 0), (.istore_n 3, .null, 0, 0), (.iconst 0, .int (nI 0), 0, 0), (.istore 4, .null, 0, 0), (.iconst 0, .int (nI 0), 0, 0), (.istore 5, .null, 0, 0)] [] (by decide +kernel) rfl trivial ?_
  exact x_R.sub [3, 4, 5, 2, 1, 0] rfl h
set_option maxRecDepth 100000 in
theorem w_X7_compare_8 {E : Nat × (Nat → Int32)} {d : Nat} {v : xV} {x1 : Int32} {x2 : Int32} {x3 : Int32} {x4 : Int32} {x5 : Int32} {Q : Int32 → xV → Prop} (h : (((nI 26) ≤ x5 → ((x4 ≤ (nI 0) → Q x3 v) ∧ (¬ x4 ≤ (nI 0) → Q ((-1 : Int32) - x4) v))) ∧ (¬ (nI 26) ≤ x5 → vp_in ((x1 * (nI 26)) + x5) 520 ∧ ∀ y2 : Int32, y2 = ((gA v 47) (((x1 * (nI 26)) + x5)).toNatClampNeg) → vp_in ((x2 * (nI 26)) + x5) 520 ∧ ∀ y4 : Int32, y4 = ((gA v 47) (((x2 * (nI 26)) + x5)).toNatClampNeg) → ((y2 = (-1 : Int32) → RI E d 75 8 [(0, .ref 38), (1, .int x1), (2, .int x2), (3, .int x3), (4, .int x4), (5, .int (x5 + (nI 1)))] v Q) ∧ (¬ y2 = (-1 : Int32) → ((y4 = (-1 : Int32) → RI E d 75 8 [(0, .ref 38), (1, .int x1), (2, .int x2), (3, .int x3), (4, .int x4), (5, .int (x5 + (nI 1)))] v Q) ∧ (¬ y4 = (-1 : Int32) → ((¬ y2 = y4 → RI E d 75 8 [(0, .ref 38), (1, .int x1), (2, .int x2), (3, .int x3), (4, .int (x4 + (nI 1))), (5, .int (x5 + (nI 1)))] v Q) ∧ (y2 = y4 → RI E d 75 8 [(0, .ref 38), (1, .int x1), (2, .int x2), (3, .int (x3 + (nI 1))), (4, .int x4), (5, .int (x5 + (nI 1)))] v Q))))))))) : RI E d 75 8 [(0, .ref 38), (1, .int x1), (2, .int x2), (3, .int x3), (4, .int x4), (5, .int x5)] v Q := by
  unfold RI
  refine xr_blk (lv1 := [(0, .ref 38), (1, .int x1), (2, .int x2), (3, .int x3), (4, .int x4), (5, .int x5)]) (st1 := [.int (nI 26), .int x5]) (S1 := rt v) (pc1 := 12) [(.iload 5, .null, 0, 0), (.bipush 26, .int (nI 26), 0, 0)] [] (by decide +kernel) rfl trivial ?_
  refine xr_ic_ge (tgt := 77) (off := 65) (by decide +kernel) (by decide) (fun hc => ?_) (fun hc => ?_)
  · replace h := h.1 hc
    refine xr_blk (lv1 := [(0, .ref 38), (1, .int x1), (2, .int x2), (3, .int x3), (4, .int x4), (5, .int x5)]) (st1 := [.int x4]) (S1 := rt v) (pc1 := 79) [(.iload 4, .null, 0, 0)] [] (by decide +kernel) rfl trivial ?_
    refine xr_if_le (tgt := 89) (off := 10) (by decide +kernel) (by decide) (fun hc => ?_) (fun hc => ?_)
    · replace h := h.1 hc
      refine xr_blk (lv1 := [(0, .ref 38), (1, .int x1), (2, .int x2), (3, .int x3), (4, .int x4), (5, .int x5)]) (st1 := [.int x3]) (S1 := rt v) (pc1 := 90) [(.iload_n 3, .null, 0, 0)] [] (by decide +kernel) rfl trivial ?_
      exact xr_iret (by decide +kernel) rfl ⟨_, _, rfl, rfl, h⟩
    · replace h := h.2 hc
      refine xr_blk (lv1 := [(0, .ref 38), (1, .int x1), (2, .int x2), (3, .int x3), (4, .int x4), (5, .int x5)]) (st1 := [.int ((-1 : Int32) - x4)]) (S1 := rt v) (pc1 := 86) [(.iconst (-1), .int (-1), 0, 0), (.iload 4, .null, 0, 0), (.isub, .null, 0, 0)] [] (by decide +kernel) rfl trivial ?_
      refine xr_goto (tgt := 90) (off := 4) (by decide +kernel) (by decide) ?_
      exact xr_iret (by decide +kernel) rfl ⟨_, _, rfl, rfl, h⟩
  · replace h := h.2 hc
    obtain ⟨hb1, h⟩ := h
    refine xr_blk (lv1 := [(0, .ref 38), (1, .int x1), (2, .int x2), (3, .int x3), (4, .int x4), (5, .int x5)]) (st1 := [.int ((gA v 47) (((x1 * (nI 26)) + x5)).toNatClampNeg)]) (S1 := rt v) (pc1 := 27) [(.aload_n 0, .null, 0, 0), (.getfield 37, .null, 7, 8), (.iload_n 1, .null, 0, 0), (.bipush 26, .int (nI 26), 0, 0), (.imul, .null, 0, 0), (.iload 5, .null, 0, 0), (.iadd, .null, 0, 0), (.iaload, .null, 0, 0)] [(((x1 * (nI 26)) + x5), 520)] (by decide +kernel) rfl ⟨hb1, trivial⟩ ?_
    refine xr_topi (fun y2 ey2 => ?_)
    replace h := h y2 ey2
    obtain ⟨hb3, h⟩ := h
    refine xr_blk (lv1 := [(6, .int y2), (0, .ref 38), (1, .int x1), (2, .int x2), (3, .int x3), (4, .int x4), (5, .int x5)]) (st1 := [.int ((gA v 47) (((x2 * (nI 26)) + x5)).toNatClampNeg)]) (S1 := rt v) (pc1 := 41) [(.istore 6, .null, 0, 0), (.aload_n 0, .null, 0, 0), (.getfield 37, .null, 7, 8), (.iload_n 2, .null, 0, 0), (.bipush 26, .int (nI 26), 0, 0), (.imul, .null, 0, 0), (.iload 5, .null, 0, 0), (.iadd, .null, 0, 0), (.iaload, .null, 0, 0)] [(((x2 * (nI 26)) + x5), 520)] (by decide +kernel) rfl ⟨hb3, trivial⟩ ?_
    refine xr_topi (fun y4 ey4 => ?_)
    replace h := h y4 ey4
    refine xr_blk (lv1 := [(7, .int y4), (6, .int y2), (0, .ref 38), (1, .int x1), (2, .int x2), (3, .int x3), (4, .int x4), (5, .int x5)]) (st1 := [.int (-1), .int y2]) (S1 := rt v) (pc1 := 46) [(.istore 7, .null, 0, 0), (.iload 6, .null, 0, 0), (.iconst (-1), .int (-1), 0, 0)] [] (by decide +kernel) rfl trivial ?_
    refine xr_ic_eq (tgt := 71) (off := 25) (by decide +kernel) (by decide) (fun hc => ?_) (fun hc => ?_)
    · replace h := h.1 hc
      refine xr_blk (lv1 := [(5, .int (x5 + (nI 1))), (7, .int y4), (6, .int y2), (0, .ref 38), (1, .int x1), (2, .int x2), (3, .int x3), (4, .int x4)]) (st1 := []) (S1 := rt v) (pc1 := 74) [(.iinc 5 1, .int (nI 1), 0, 0)] [] (by decide +kernel) rfl trivial ?_
      refine xr_goto (tgt := 8) (off := -66) (by decide +kernel) (by decide) ?_
      exact x_R.sub [3, 4, 5, 6, 7, 0] rfl h
    · replace h := h.2 hc
      refine xr_blk (lv1 := [(7, .int y4), (6, .int y2), (0, .ref 38), (1, .int x1), (2, .int x2), (3, .int x3), (4, .int x4), (5, .int x5)]) (st1 := [.int (-1), .int y4]) (S1 := rt v) (pc1 := 52) [(.iload 7, .null, 0, 0), (.iconst (-1), .int (-1), 0, 0)] [] (by decide +kernel) rfl trivial ?_
      refine xr_ic_eq (tgt := 71) (off := 19) (by decide +kernel) (by decide) (fun hc => ?_) (fun hc => ?_)
      · replace h := h.1 hc
        refine xr_blk (lv1 := [(5, .int (x5 + (nI 1))), (7, .int y4), (6, .int y2), (0, .ref 38), (1, .int x1), (2, .int x2), (3, .int x3), (4, .int x4)]) (st1 := []) (S1 := rt v) (pc1 := 74) [(.iinc 5 1, .int (nI 1), 0, 0)] [] (by decide +kernel) rfl trivial ?_
        refine xr_goto (tgt := 8) (off := -66) (by decide +kernel) (by decide) ?_
        exact x_R.sub [3, 4, 5, 6, 7, 0] rfl h
      · replace h := h.2 hc
        refine xr_blk (lv1 := [(7, .int y4), (6, .int y2), (0, .ref 38), (1, .int x1), (2, .int x2), (3, .int x3), (4, .int x4), (5, .int x5)]) (st1 := [.int y4, .int y2]) (S1 := rt v) (pc1 := 59) [(.iload 6, .null, 0, 0), (.iload 7, .null, 0, 0)] [] (by decide +kernel) rfl trivial ?_
        refine xr_ic_ne (tgt := 68) (off := 9) (by decide +kernel) (by decide) (fun hc => ?_) (fun hc => ?_)
        · replace h := h.1 hc
          refine xr_blk (lv1 := [(5, .int (x5 + (nI 1))), (4, .int (x4 + (nI 1))), (7, .int y4), (6, .int y2), (0, .ref 38), (1, .int x1), (2, .int x2), (3, .int x3)]) (st1 := []) (S1 := rt v) (pc1 := 74) [(.iinc 4 1, .int (nI 1), 0, 0), (.iinc 5 1, .int (nI 1), 0, 0)] [] (by decide +kernel) rfl trivial ?_
          refine xr_goto (tgt := 8) (off := -66) (by decide +kernel) (by decide) ?_
          exact x_R.sub [4, 5, 6, 7, 1, 0] rfl h
        · replace h := h.2 hc
          refine xr_blk (lv1 := [(3, .int (x3 + (nI 1))), (7, .int y4), (6, .int y2), (0, .ref 38), (1, .int x1), (2, .int x2), (4, .int x4), (5, .int x5)]) (st1 := []) (S1 := rt v) (pc1 := 65) [(.iinc 3 1, .int (nI 1), 0, 0)] [] (by decide +kernel) rfl trivial ?_
          refine xr_goto (tgt := 71) (off := 6) (by decide +kernel) (by decide) ?_
          refine xr_blk (lv1 := [(5, .int (x5 + (nI 1))), (3, .int (x3 + (nI 1))), (7, .int y4), (6, .int y2), (0, .ref 38), (1, .int x1), (2, .int x2), (4, .int x4)]) (st1 := []) (S1 := rt v) (pc1 := 74) [(.iinc 5 1, .int (nI 1), 0, 0)] [] (by decide +kernel) rfl trivial ?_
          refine xr_goto (tgt := 8) (off := -66) (by decide +kernel) (by decide) ?_
          exact x_R.sub [4, 5, 6, 1, 7, 0] rfl h
theorem ok_75 : x_mOK 75 := ⟨x_tm4 (List.mem_of_getElem? (i := 206) rfl) rfl, 109, by decide +kernel⟩
/-! X8_addNumber: method 77, ScrawlHouse$Tape.addNumber(I)V -/
set_option maxRecDepth 100000 in
theorem w_X8_addNumber_0 {E : Nat × (Nat → Int32)} {d : Nat} {v : xV} {x1 : Int32} {Q : xV → Prop} (h : RV E d 77 3 [(0, .ref 1), (1, .int x1), (2, .int (nI 24))] v Q) : RV E d 77 0 [(0, .ref 1), (1, .int x1)] v Q := by
  unfold RV
  refine xr_blk (lv1 := [(2, .int (nI 24)), (0, .ref 1), (1, .int x1)]) (st1 := []) (S1 := rt v) (pc1 := 3) [(.bipush 24, .int (nI 24), 0, 0), (.istore_n 2, .null, 0, 0)] [] (by decide +kernel) rfl trivial ?_
  exact x_R.sub [1, 2, 0] rfl h
set_option maxRecDepth 100000 in
theorem w_X8_addNumber_3 {E : Nat × (Nat → Int32)} {d : Nat} {v : xV} {x1 : Int32} {x2 : Int32} {Q : xV → Prop} (h : ((x2 < (nI 0) → Q v) ∧ (¬ x2 < (nI 0) → (((nI 240) ≤ (gI v 1 1) → RV E d 77 3 [(0, .ref 1), (1, .int x1), (2, .int (x2 + (-8 : Int32)))] v Q) ∧ (¬ (nI 240) ≤ (gI v 1 1) → vp_in (gI v 1 1) 240 ∧ RV E d 77 3 [(0, .ref 1), (1, .int x1), (2, .int (x2 + (-8 : Int32)))] (v_I (v_A v 2 (upd (gA v 2) ((gI v 1 1)).toNatClampNeg (((x1).toUInt32 >>> ((x2).toUInt32 &&& Int32.toUInt32 31)).toInt32 &&& (nI 255)))) 1 1 ((gI v 1 1) + (nI 1))) Q))))) : RV E d 77 3 [(0, .ref 1), (1, .int x1), (2, .int x2)] v Q := by
  unfold RV
  refine xr_blk (lv1 := [(0, .ref 1), (1, .int x1), (2, .int x2)]) (st1 := [.int x2]) (S1 := rt v) (pc1 := 4) [(.iload_n 2, .null, 0, 0)] [] (by decide +kernel) rfl trivial ?_
  refine xr_if_lt (tgt := 49) (off := 45) (by decide +kernel) (by decide) (fun hc => ?_) (fun hc => ?_)
  · replace h := h.1 hc
    exact xr_ret0 (by decide +kernel) rfl ⟨_, rfl, rfl, h⟩
  · replace h := h.2 hc
    refine xr_blk (lv1 := [(0, .ref 1), (1, .int x1), (2, .int x2)]) (st1 := [.int (nI 240), .int (gI v 1 1)]) (S1 := rt v) (pc1 := 14) [(.aload_n 0, .null, 0, 0), (.getfield 15, .null, 8, 1), (.sipush 240, .int (nI 240), 0, 0)] [] (by decide +kernel) rfl trivial ?_
    refine xr_ic_ge (tgt := 43) (off := 29) (by decide +kernel) (by decide) (fun hc => ?_) (fun hc => ?_)
    · replace h := h.1 hc
      refine xr_blk (lv1 := [(2, .int (x2 + (-8 : Int32))), (0, .ref 1), (1, .int x1)]) (st1 := []) (S1 := rt v) (pc1 := 46) [(.iinc 2 (-8), .int (-8), 0, 0)] [] (by decide +kernel) rfl trivial ?_
      refine xr_goto (tgt := 3) (off := -43) (by decide +kernel) (by decide) ?_
      exact x_R.sub [1, 2, 0] rfl h
    · replace h := h.2 hc
      obtain ⟨hb1, h⟩ := h
      refine xr_blk (lv1 := [(2, .int (x2 + (-8 : Int32))), (0, .ref 1), (1, .int x1)]) (st1 := []) (S1 := rt (v_I (v_A v 2 (upd (gA v 2) ((gI v 1 1)).toNatClampNeg (((x1).toUInt32 >>> ((x2).toUInt32 &&& Int32.toUInt32 31)).toInt32 &&& (nI 255)))) 1 1 ((gI v 1 1) + (nI 1)))) (pc1 := 46) [(.aload_n 0, .null, 0, 0), (.getfield 9, .null, 8, 0), (.aload_n 0, .null, 0, 0), (.getfield 15, .null, 8, 1), (.iload_n 1, .null, 0, 0), (.iload_n 2, .null, 0, 0), (.iushr, .null, 0, 0), (.sipush 255, .int (nI 255), 0, 0), (.iand, .null, 0, 0), (.iastore, .null, 0, 0), (.aload_n 0, .null, 0, 0), (.dup, .null, 0, 0), (.getfield 15, .null, 8, 1), (.iconst 1, .int (nI 1), 0, 0), (.iadd, .null, 0, 0), (.putfield 15, .null, 8, 1), (.iinc 2 (-8), .int (-8), 0, 0)] [((gI v 1 1), 240)] (by decide +kernel) rfl ⟨hb1, trivial⟩ ?_
      refine xr_goto (tgt := 3) (off := -43) (by decide +kernel) (by decide) ?_
      exact x_R.sub [1, 2, 0] rfl h
theorem ok_77 : x_mOK 77 := ⟨x_tm3 (List.mem_of_getElem? (i := 60) rfl) rfl, 102, by decide +kernel⟩
/-! X8_at: method 78, ScrawlHouse$Tape.at(I)I -/
set_option maxRecDepth 100000 in
theorem w_X8_at_0 {E : Nat × (Nat → Int32)} {d : Nat} {v : xV} {x1 : Int32} {Q : Int32 → xV → Prop} (h : ((x1 < (nI 0) → Q (-1 : Int32) v) ∧ (¬ x1 < (nI 0) → (((gI v 1 1) ≤ x1 → Q (-1 : Int32) v) ∧ (¬ (gI v 1 1) ≤ x1 → (((nI 240) ≤ x1 → Q (-1 : Int32) v) ∧ (¬ (nI 240) ≤ x1 → vp_in x1 240 ∧ Q ((gA v 2) (x1).toNatClampNeg) v))))))) : RI E d 78 0 [(0, .ref 1), (1, .int x1)] v Q := by
  unfold RI
  refine xr_blk (lv1 := [(0, .ref 1), (1, .int x1)]) (st1 := [.int x1]) (S1 := rt v) (pc1 := 1) [(.iload_n 1, .null, 0, 0)] [] (by decide +kernel) rfl trivial ?_
  refine xr_if_lt (tgt := 28) (off := 27) (by decide +kernel) (by decide) (fun hc => ?_) (fun hc => ?_)
  · replace h := h.1 hc
    refine xr_blk (lv1 := [(0, .ref 1), (1, .int x1)]) (st1 := [.int (-1)]) (S1 := rt v) (pc1 := 29) [(.iconst (-1), .int (-1), 0, 0)] [] (by decide +kernel) rfl trivial ?_
    exact xr_iret (by decide +kernel) rfl ⟨_, _, rfl, rfl, h⟩
  · replace h := h.2 hc
    refine xr_blk (lv1 := [(0, .ref 1), (1, .int x1)]) (st1 := [.int (gI v 1 1), .int x1]) (S1 := rt v) (pc1 := 9) [(.iload_n 1, .null, 0, 0), (.aload_n 0, .null, 0, 0), (.getfield 15, .null, 8, 1)] [] (by decide +kernel) rfl trivial ?_
    refine xr_ic_ge (tgt := 28) (off := 19) (by decide +kernel) (by decide) (fun hc => ?_) (fun hc => ?_)
    · replace h := h.1 hc
      refine xr_blk (lv1 := [(0, .ref 1), (1, .int x1)]) (st1 := [.int (-1)]) (S1 := rt v) (pc1 := 29) [(.iconst (-1), .int (-1), 0, 0)] [] (by decide +kernel) rfl trivial ?_
      exact xr_iret (by decide +kernel) rfl ⟨_, _, rfl, rfl, h⟩
    · replace h := h.2 hc
      refine xr_blk (lv1 := [(0, .ref 1), (1, .int x1)]) (st1 := [.int (nI 240), .int x1]) (S1 := rt v) (pc1 := 16) [(.iload_n 1, .null, 0, 0), (.sipush 240, .int (nI 240), 0, 0)] [] (by decide +kernel) rfl trivial ?_
      refine xr_ic_ge (tgt := 28) (off := 12) (by decide +kernel) (by decide) (fun hc => ?_) (fun hc => ?_)
      · replace h := h.1 hc
        refine xr_blk (lv1 := [(0, .ref 1), (1, .int x1)]) (st1 := [.int (-1)]) (S1 := rt v) (pc1 := 29) [(.iconst (-1), .int (-1), 0, 0)] [] (by decide +kernel) rfl trivial ?_
        exact xr_iret (by decide +kernel) rfl ⟨_, _, rfl, rfl, h⟩
      · replace h := h.2 hc
        obtain ⟨hb1, h⟩ := h
        refine xr_blk (lv1 := [(0, .ref 1), (1, .int x1)]) (st1 := [.int ((gA v 2) (x1).toNatClampNeg)]) (S1 := rt v) (pc1 := 25) [(.aload_n 0, .null, 0, 0), (.getfield 9, .null, 8, 0), (.iload_n 1, .null, 0, 0), (.iaload, .null, 0, 0)] [(x1, 240)] (by decide +kernel) rfl ⟨hb1, trivial⟩ ?_
        refine xr_goto (tgt := 29) (off := 4) (by decide +kernel) (by decide) ?_
        exact xr_iret (by decide +kernel) rfl ⟨_, _, rfl, rfl, h⟩
theorem ok_78 : x_mOK 78 := ⟨x_tm3 (List.mem_of_getElem? (i := 99) rfl) rfl, 102, by decide +kernel⟩
/-! X9_addStreet: method 80, ScrawlHouse$Town.addStreet(III)Z -/
set_option maxRecDepth 100000 in
theorem w_X9_addStreet_0 {E : Nat × (Nat → Int32)} {d : Nat} {v : xV} {x1 : Int32} {x2 : Int32} {x3 : Int32} {Q : Int32 → xV → Prop} (h : (((nI 30) ≤ (gI v 11 6) → Q (nI 0) v) ∧ (¬ (nI 30) ≤ (gI v 11 6) → KI E d 84 [.int x1] v (fun y2 v1 => ((y2 = (nI 0) → Q (nI 0) v1) ∧ (¬ y2 = (nI 0) → KI E d 84 [.int x2] v1 (fun y4 v3 => ((y4 = (nI 0) → Q (nI 0) v3) ∧ (¬ y4 = (nI 0) → ((¬ x1 = x2 → ((x3 < (nI 1) → Q (nI 0) v3) ∧ (¬ x3 < (nI 1) → ((x3 ≤ (nI 99) → KV E d 81 [.ref 11, .int x1, .int x2, .int x3] (v_I v3 11 6 ((gI v3 11 6) + (nI 1))) (fun v5 => Q (nI 1) v5)) ∧ (¬ x3 ≤ (nI 99) → Q (nI 0) v3))))) ∧ (x1 = x2 → Q (nI 0) v3))))))))))) : RI E (d + 1) 80 0 [(0, .ref 11), (1, .int x1), (2, .int x2), (3, .int x3)] v Q := by
  unfold RI
  refine xr_blk (lv1 := [(0, .ref 11), (1, .int x1), (2, .int x2), (3, .int x3)]) (st1 := [.int (nI 30), .int (gI v 11 6)]) (S1 := rt v) (pc1 := 6) [(.aload_n 0, .null, 0, 0), (.getfield 31, .null, 9, 6), (.bipush 30, .int (nI 30), 0, 0)] [] (by decide +kernel) rfl trivial ?_
  refine xr_ic_ge (tgt := 28) (off := 22) (by decide +kernel) (by decide) (fun hc => ?_) (fun hc => ?_)
  · replace h := h.1 hc
    refine xr_blk (lv1 := [(0, .ref 11), (1, .int x1), (2, .int x2), (3, .int x3)]) (st1 := [.int (nI 0)]) (S1 := rt v) (pc1 := 29) [(.iconst 0, .int (nI 0), 0, 0)] [] (by decide +kernel) rfl trivial ?_
    exact xr_zret (by decide +kernel) rfl x_in2_0 ⟨_, _, rfl, rfl, h⟩
  · replace h := h.2 hc
    refine xr_blk (lv1 := [(0, .ref 11), (1, .int x1), (2, .int x2), (3, .int x3)]) (st1 := [.int x1]) (S1 := rt v) (pc1 := 10) [(.iload_n 1, .null, 0, 0)] [] (by decide +kernel) rfl trivial ?_
    refine xk_SI (As := [.int x1]) (rest := []) (idx := 44) (i0 := 44) (m1 := 84) (ps := [695, 696]) (by decide +kernel) (by decide +kernel) (by decide) rfl (Nat.le_of_ble_eq_true rfl) rfl h (fun y2 v1 h => ?_)
    refine xr_if_eq (tgt := 28) (off := 15) (by decide +kernel) (by decide) (fun hc => ?_) (fun hc => ?_)
    · replace h := h.1 hc
      refine xr_blk (lv1 := [(0, .ref 11), (1, .int x1), (2, .int x2), (3, .int x3)]) (st1 := [.int (nI 0)]) (S1 := rt v1) (pc1 := 29) [(.iconst 0, .int (nI 0), 0, 0)] [] (by decide +kernel) rfl trivial ?_
      exact xr_zret (by decide +kernel) rfl x_in2_0 ⟨_, _, rfl, rfl, h⟩
    · replace h := h.2 hc
      refine xr_blk (lv1 := [(0, .ref 11), (1, .int x1), (2, .int x2), (3, .int x3)]) (st1 := [.int x2]) (S1 := rt v1) (pc1 := 17) [(.iload_n 2, .null, 0, 0)] [] (by decide +kernel) rfl trivial ?_
      refine xk_SI (As := [.int x2]) (rest := []) (idx := 44) (i0 := 44) (m1 := 84) (ps := [695, 696]) (by decide +kernel) (by decide +kernel) (by decide) rfl (Nat.le_of_ble_eq_true rfl) rfl h (fun y4 v3 h => ?_)
      refine xr_if_eq (tgt := 28) (off := 8) (by decide +kernel) (by decide) (fun hc => ?_) (fun hc => ?_)
      · replace h := h.1 hc
        refine xr_blk (lv1 := [(0, .ref 11), (1, .int x1), (2, .int x2), (3, .int x3)]) (st1 := [.int (nI 0)]) (S1 := rt v3) (pc1 := 29) [(.iconst 0, .int (nI 0), 0, 0)] [] (by decide +kernel) rfl trivial ?_
        exact xr_zret (by decide +kernel) rfl x_in2_0 ⟨_, _, rfl, rfl, h⟩
      · replace h := h.2 hc
        refine xr_blk (lv1 := [(0, .ref 11), (1, .int x1), (2, .int x2), (3, .int x3)]) (st1 := [.int x2, .int x1]) (S1 := rt v3) (pc1 := 25) [(.iload_n 1, .null, 0, 0), (.iload_n 2, .null, 0, 0)] [] (by decide +kernel) rfl trivial ?_
        refine xr_ic_ne (tgt := 30) (off := 5) (by decide +kernel) (by decide) (fun hc => ?_) (fun hc => ?_)
        · replace h := h.1 hc
          refine xr_blk (lv1 := [(0, .ref 11), (1, .int x1), (2, .int x2), (3, .int x3)]) (st1 := [.int (nI 1), .int x3]) (S1 := rt v3) (pc1 := 32) [(.iload_n 3, .null, 0, 0), (.iconst 1, .int (nI 1), 0, 0)] [] (by decide +kernel) rfl trivial ?_
          refine xr_ic_lt (tgt := 41) (off := 9) (by decide +kernel) (by decide) (fun hc => ?_) (fun hc => ?_)
          · replace h := h.1 hc
            refine xr_blk (lv1 := [(0, .ref 11), (1, .int x1), (2, .int x2), (3, .int x3)]) (st1 := [.int (nI 0)]) (S1 := rt v3) (pc1 := 42) [(.iconst 0, .int (nI 0), 0, 0)] [] (by decide +kernel) rfl trivial ?_
            exact xr_zret (by decide +kernel) rfl x_in2_0 ⟨_, _, rfl, rfl, h⟩
          · replace h := h.2 hc
            refine xr_blk (lv1 := [(0, .ref 11), (1, .int x1), (2, .int x2), (3, .int x3)]) (st1 := [.int (nI 99), .int x3]) (S1 := rt v3) (pc1 := 38) [(.iload_n 3, .null, 0, 0), (.bipush 99, .int (nI 99), 0, 0)] [] (by decide +kernel) rfl trivial ?_
            refine xr_ic_le (tgt := 43) (off := 5) (by decide +kernel) (by decide) (fun hc => ?_) (fun hc => ?_)
            · replace h := h.1 hc
              refine xr_blk (lv1 := [(0, .ref 11), (1, .int x1), (2, .int x2), (3, .int x3)]) (st1 := [.int x3, .int x2, .int x1, .ref 11]) (S1 := rt (v_I v3 11 6 ((gI v3 11 6) + (nI 1)))) (pc1 := 57) [(.aload_n 0, .null, 0, 0), (.dup, .null, 0, 0), (.getfield 31, .null, 9, 6), (.iconst 1, .int (nI 1), 0, 0), (.iadd, .null, 0, 0), (.putfield 31, .null, 9, 6), (.aload_n 0, .null, 0, 0), (.iload_n 1, .null, 0, 0), (.iload_n 2, .null, 0, 0), (.iload_n 3, .null, 0, 0)] [] (by decide +kernel) rfl trivial ?_
              refine xk_VV (As := [.int x1, .int x2, .int x3]) (bb := 11) (rest := []) (idx := 48) (i0 := 48) (m1 := 81) (ps := [698, 700, 2]) (by decide +kernel) (by decide +kernel) (by decide) rfl ((gK_s (by decide)).trans (by decide +kernel)) (by decide) (Nat.le_of_ble_eq_true rfl) rfl h (fun v5 h => ?_)
              refine xr_blk (lv1 := [(0, .ref 11), (1, .int x1), (2, .int x2), (3, .int x3)]) (st1 := [.int (nI 1)]) (S1 := rt v5) (pc1 := 61) [(.iconst 1, .int (nI 1), 0, 0)] [] (by decide +kernel) rfl trivial ?_
              exact xr_zret (by decide +kernel) rfl x_in2_1 ⟨_, _, rfl, rfl, h⟩
            · replace h := h.2 hc
              refine xr_blk (lv1 := [(0, .ref 11), (1, .int x1), (2, .int x2), (3, .int x3)]) (st1 := [.int (nI 0)]) (S1 := rt v3) (pc1 := 42) [(.iconst 0, .int (nI 0), 0, 0)] [] (by decide +kernel) rfl trivial ?_
              exact xr_zret (by decide +kernel) rfl x_in2_0 ⟨_, _, rfl, rfl, h⟩
        · replace h := h.2 hc
          refine xr_blk (lv1 := [(0, .ref 11), (1, .int x1), (2, .int x2), (3, .int x3)]) (st1 := [.int (nI 0)]) (S1 := rt v3) (pc1 := 29) [(.iconst 0, .int (nI 0), 0, 0)] [] (by decide +kernel) rfl trivial ?_
          exact xr_zret (by decide +kernel) rfl x_in2_0 ⟨_, _, rfl, rfl, h⟩
theorem ok_80 : x_mOK 80 := ⟨x_tm3 (List.mem_of_getElem? (i := 114) rfl) rfl, 104, by decide +kernel⟩
/-! X9_shorten: method 81, ScrawlHouse$Town.shorten(III)V -/
set_option maxRecDepth 100000 in
theorem w_X9_shorten_0 {E : Nat × (Nat → Int32)} {d : Nat} {v : xV} {x1 : Int32} {x2 : Int32} {x3 : Int32} {Q : xV → Prop} (h : RV E (d + 1) 81 3 [(0, .ref 11), (1, .int x1), (2, .int x2), (3, .int x3), (4, .int (nI 0))] v Q) : RV E (d + 1) 81 0 [(0, .ref 11), (1, .int x1), (2, .int x2), (3, .int x3)] v Q := by
  unfold RV
  refine xr_blk (lv1 := [(4, .int (nI 0)), (0, .ref 11), (1, .int x1), (2, .int x2), (3, .int x3)]) (st1 := []) (S1 := rt v) (pc1 := 3) [(.iconst 0, .int (nI 0), 0, 0), (.istore 4, .null, 0, 0)] [] (by decide +kernel) rfl trivial ?_
  exact x_R.sub [1, 2, 3, 4, 0] rfl h
set_option maxRecDepth 100000 in
theorem w_X9_shorten_3 {E : Nat × (Nat → Int32)} {d : Nat} {v : xV} {x1 : Int32} {x2 : Int32} {x3 : Int32} {x4 : Int32} {Q : xV → Prop} (h : (((nI 12) ≤ x4 → Q v) ∧ (¬ (nI 12) ≤ x4 → RV E (d + 1) 81 13 [(0, .ref 11), (1, .int x1), (2, .int x2), (3, .int x3), (4, .int x4), (5, .int (nI 0))] v Q))) : RV E (d + 1) 81 3 [(0, .ref 11), (1, .int x1), (2, .int x2), (3, .int x3), (4, .int x4)] v Q := by
  unfold RV
  refine xr_blk (lv1 := [(0, .ref 11), (1, .int x1), (2, .int x2), (3, .int x3), (4, .int x4)]) (st1 := [.int (nI 12), .int x4]) (S1 := rt v) (pc1 := 7) [(.iload 4, .null, 0, 0), (.bipush 12, .int (nI 12), 0, 0)] [] (by decide +kernel) rfl trivial ?_
  refine xr_ic_ge (tgt := 132) (off := 125) (by decide +kernel) (by decide) (fun hc => ?_) (fun hc => ?_)
  · replace h := h.1 hc
    exact xr_ret0 (by decide +kernel) rfl ⟨_, rfl, rfl, h⟩
  · replace h := h.2 hc
    refine xr_blk (lv1 := [(5, .int (nI 0)), (0, .ref 11), (1, .int x1), (2, .int x2), (3, .int x3), (4, .int x4)]) (st1 := []) (S1 := rt v) (pc1 := 13) [(.iconst 0, .int (nI 0), 0, 0), (.istore 5, .null, 0, 0)] [] (by decide +kernel) rfl trivial ?_
    exact x_R.sub [1, 2, 3, 4, 5, 0] rfl h
set_option maxRecDepth 100000 in
theorem w_X9_shorten_13 {E : Nat × (Nat → Int32)} {d : Nat} {v : xV} {x1 : Int32} {x2 : Int32} {x3 : Int32} {x4 : Int32} {x5 : Int32} {Q : xV → Prop} (h : (((nI 12) ≤ x5 → RV E (d + 1) 81 3 [(0, .ref 11), (1, .int x1), (2, .int x2), (3, .int x3), (4, .int (x4 + (nI 1)))] v Q) ∧ (¬ (nI 12) ≤ x5 → vp_in ((x4 * (nI 12)) + x1) 144 ∧ vp_in ((x2 * (nI 12)) + x5) 144 ∧ ∀ y3 : Int32, y3 = ((((gA v 12) (((x4 * (nI 12)) + x1)).toNatClampNeg) + x3) + ((gA v 12) (((x2 * (nI 12)) + x5)).toNatClampNeg)) → vp_in ((x4 * (nI 12)) + x2) 144 ∧ vp_in ((x1 * (nI 12)) + x5) 144 ∧ ∀ y6 : Int32, y6 = ((((gA v 12) (((x4 * (nI 12)) + x2)).toNatClampNeg) + x3) + ((gA v 12) (((x1 * (nI 12)) + x5)).toNatClampNeg)) → ∀ y7 : Int32, y7 = (if y6 < y3 then y6 else y3) → vp_in ((x4 * (nI 12)) + x5) 144 ∧ ((((gA v 12) (((x4 * (nI 12)) + x5)).toNatClampNeg) ≤ y7 → RV E (d + 1) 81 13 [(0, .ref 11), (1, .int x1), (2, .int x2), (3, .int x3), (4, .int x4), (5, .int (x5 + (nI 1)))] v Q) ∧ (¬ ((gA v 12) (((x4 * (nI 12)) + x5)).toNatClampNeg) ≤ y7 → vp_in ((x4 * (nI 12)) + x5) 144 ∧ RV E (d + 1) 81 13 [(0, .ref 11), (1, .int x1), (2, .int x2), (3, .int x3), (4, .int x4), (5, .int (x5 + (nI 1)))] (v_A v 12 (upd (gA v 12) (((x4 * (nI 12)) + x5)).toNatClampNeg y7)) Q))))) : RV E (d + 1) 81 13 [(0, .ref 11), (1, .int x1), (2, .int x2), (3, .int x3), (4, .int x4), (5, .int x5)] v Q := by
  unfold RV
  refine xr_blk (lv1 := [(0, .ref 11), (1, .int x1), (2, .int x2), (3, .int x3), (4, .int x4), (5, .int x5)]) (st1 := [.int (nI 12), .int x5]) (S1 := rt v) (pc1 := 17) [(.iload 5, .null, 0, 0), (.bipush 12, .int (nI 12), 0, 0)] [] (by decide +kernel) rfl trivial ?_
  refine xr_ic_ge (tgt := 126) (off := 109) (by decide +kernel) (by decide) (fun hc => ?_) (fun hc => ?_)
  · replace h := h.1 hc
    refine xr_blk (lv1 := [(4, .int (x4 + (nI 1))), (0, .ref 11), (1, .int x1), (2, .int x2), (3, .int x3), (5, .int x5)]) (st1 := []) (S1 := rt v) (pc1 := 129) [(.iinc 4 1, .int (nI 1), 0, 0)] [] (by decide +kernel) rfl trivial ?_
    refine xr_goto (tgt := 3) (off := -126) (by decide +kernel) (by decide) ?_
    exact x_R.sub [1, 2, 3, 4, 0] rfl h
  · replace h := h.2 hc
    obtain ⟨hb1, h⟩ := h
    obtain ⟨hb2, h⟩ := h
    refine xr_blk (lv1 := [(0, .ref 11), (1, .int x1), (2, .int x2), (3, .int x3), (4, .int x4), (5, .int x5)]) (st1 := [.int ((((gA v 12) (((x4 * (nI 12)) + x1)).toNatClampNeg) + x3) + ((gA v 12) (((x2 * (nI 12)) + x5)).toNatClampNeg))]) (S1 := rt v) (pc1 := 47) [(.aload_n 0, .null, 0, 0), (.getfield 9, .null, 9, 0), (.iload 4, .null, 0, 0), (.bipush 12, .int (nI 12), 0, 0), (.imul, .null, 0, 0), (.iload_n 1, .null, 0, 0), (.iadd, .null, 0, 0), (.iaload, .null, 0, 0), (.iload_n 3, .null, 0, 0), (.iadd, .null, 0, 0), (.aload_n 0, .null, 0, 0), (.getfield 9, .null, 9, 0), (.iload_n 2, .null, 0, 0), (.bipush 12, .int (nI 12), 0, 0), (.imul, .null, 0, 0), (.iload 5, .null, 0, 0), (.iadd, .null, 0, 0), (.iaload, .null, 0, 0), (.iadd, .null, 0, 0)] [(((x4 * (nI 12)) + x1), 144), (((x2 * (nI 12)) + x5), 144)] (by decide +kernel) rfl ⟨hb1, hb2, trivial⟩ ?_
    refine xr_topi (fun y3 ey3 => ?_)
    replace h := h y3 ey3
    obtain ⟨hb4, h⟩ := h
    obtain ⟨hb5, h⟩ := h
    refine xr_blk (lv1 := [(6, .int y3), (0, .ref 11), (1, .int x1), (2, .int x2), (3, .int x3), (4, .int x4), (5, .int x5)]) (st1 := [.int ((((gA v 12) (((x4 * (nI 12)) + x2)).toNatClampNeg) + x3) + ((gA v 12) (((x1 * (nI 12)) + x5)).toNatClampNeg))]) (S1 := rt v) (pc1 := 76) [(.istore 6, .null, 0, 0), (.aload_n 0, .null, 0, 0), (.getfield 9, .null, 9, 0), (.iload 4, .null, 0, 0), (.bipush 12, .int (nI 12), 0, 0), (.imul, .null, 0, 0), (.iload_n 2, .null, 0, 0), (.iadd, .null, 0, 0), (.iaload, .null, 0, 0), (.iload_n 3, .null, 0, 0), (.iadd, .null, 0, 0), (.aload_n 0, .null, 0, 0), (.getfield 9, .null, 9, 0), (.iload_n 1, .null, 0, 0), (.bipush 12, .int (nI 12), 0, 0), (.imul, .null, 0, 0), (.iload 5, .null, 0, 0), (.iadd, .null, 0, 0), (.iaload, .null, 0, 0), (.iadd, .null, 0, 0)] [(((x4 * (nI 12)) + x2), 144), (((x1 * (nI 12)) + x5), 144)] (by decide +kernel) rfl ⟨hb4, hb5, trivial⟩ ?_
    refine xr_topi (fun y6 ey6 => ?_)
    replace h := h y6 ey6
    refine xr_blk (lv1 := [(7, .int y6), (6, .int y3), (0, .ref 11), (1, .int x1), (2, .int x2), (3, .int x3), (4, .int x4), (5, .int x5)]) (st1 := [.int y6, .int y3]) (S1 := rt v) (pc1 := 82) [(.istore 7, .null, 0, 0), (.iload 6, .null, 0, 0), (.iload 7, .null, 0, 0)] [] (by decide +kernel) rfl trivial ?_
    refine xr_mmin (idx := 52) (i0 := 52) (ps := [702, 703]) (by decide +kernel) (by decide +kernel) (by decide) (Nat.le_of_ble_eq_true rfl) ?_
    refine xr_topi (fun y7 ey7 => ?_)
    replace h := h y7 ey7
    obtain ⟨hb8, h⟩ := h
    refine xr_blk (lv1 := [(8, .int y7), (7, .int y6), (6, .int y3), (0, .ref 11), (1, .int x1), (2, .int x2), (3, .int x3), (4, .int x4), (5, .int x5)]) (st1 := [.int ((gA v 12) (((x4 * (nI 12)) + x5)).toNatClampNeg), .int y7]) (S1 := rt v) (pc1 := 102) [(.istore 8, .null, 0, 0), (.iload 8, .null, 0, 0), (.aload_n 0, .null, 0, 0), (.getfield 9, .null, 9, 0), (.iload 4, .null, 0, 0), (.bipush 12, .int (nI 12), 0, 0), (.imul, .null, 0, 0), (.iload 5, .null, 0, 0), (.iadd, .null, 0, 0), (.iaload, .null, 0, 0)] [(((x4 * (nI 12)) + x5), 144)] (by decide +kernel) rfl ⟨hb8, trivial⟩ ?_
    refine xr_ic_ge (tgt := 120) (off := 18) (by decide +kernel) (by decide) (fun hc => ?_) (fun hc => ?_)
    · replace h := h.1 hc
      refine xr_blk (lv1 := [(5, .int (x5 + (nI 1))), (8, .int y7), (7, .int y6), (6, .int y3), (0, .ref 11), (1, .int x1), (2, .int x2), (3, .int x3), (4, .int x4)]) (st1 := []) (S1 := rt v) (pc1 := 123) [(.iinc 5 1, .int (nI 1), 0, 0)] [] (by decide +kernel) rfl trivial ?_
      refine xr_goto (tgt := 13) (off := -110) (by decide +kernel) (by decide) ?_
      exact x_R.sub [4, 5, 6, 7, 8, 0] rfl h
    · replace h := h.2 hc
      obtain ⟨hb9, h⟩ := h
      refine xr_blk (lv1 := [(5, .int (x5 + (nI 1))), (8, .int y7), (7, .int y6), (6, .int y3), (0, .ref 11), (1, .int x1), (2, .int x2), (3, .int x3), (4, .int x4)]) (st1 := []) (S1 := rt (v_A v 12 (upd (gA v 12) (((x4 * (nI 12)) + x5)).toNatClampNeg y7))) (pc1 := 123) [(.aload_n 0, .null, 0, 0), (.getfield 9, .null, 9, 0), (.iload 4, .null, 0, 0), (.bipush 12, .int (nI 12), 0, 0), (.imul, .null, 0, 0), (.iload 5, .null, 0, 0), (.iadd, .null, 0, 0), (.iload 8, .null, 0, 0), (.iastore, .null, 0, 0), (.iinc 5 1, .int (nI 1), 0, 0)] [(((x4 * (nI 12)) + x5), 144)] (by decide +kernel) rfl ⟨hb9, trivial⟩ ?_
      refine xr_goto (tgt := 13) (off := -110) (by decide +kernel) (by decide) ?_
      exact x_R.sub [4, 5, 6, 7, 8, 0] rfl h
theorem ok_81 : x_mOK 81 := ⟨x_tm3 (List.mem_of_getElem? (i := 121) rfl) rfl, 104, by decide +kernel⟩
/-! X9_addWall: method 82, ScrawlHouse$Town.addWall(II)I -/
set_option maxRecDepth 100000 in
theorem w_X9_addWall_0 {E : Nat × (Nat → Int32)} {d : Nat} {v : xV} {x1 : Int32} {x2 : Int32} {Q : Int32 → xV → Prop} (h : (((nI 8) ≤ (gI v 11 7) → Q (-1 : Int32) v) ∧ (¬ (nI 8) ≤ (gI v 11 7) → KI E d 84 [.int x1] v (fun y2 v1 => ((y2 = (nI 0) → Q (-1 : Int32) v1) ∧ (¬ y2 = (nI 0) → ((x2 < (nI 1) → Q (-1 : Int32) v1) ∧ (¬ x2 < (nI 1) → ((x2 ≤ (nI 4) → vp_in (gI v1 11 7) 8 ∧ vp_in (gI v1 11 7) 8 ∧ Q (((gI v1 11 7) + (nI 1)) - (nI 1)) (v_I (v_A (v_A v1 13 (upd (gA v1 13) ((gI v1 11 7)).toNatClampNeg x1)) 14 (upd (gA v1 14) ((gI v1 11 7)).toNatClampNeg x2)) 11 7 ((gI v1 11 7) + (nI 1)))) ∧ (¬ x2 ≤ (nI 4) → Q (-1 : Int32) v1)))))))))) : RI E (d + 1) 82 0 [(0, .ref 11), (1, .int x1), (2, .int x2)] v Q := by
  unfold RI
  refine xr_blk (lv1 := [(0, .ref 11), (1, .int x1), (2, .int x2)]) (st1 := [.int (nI 8), .int (gI v 11 7)]) (S1 := rt v) (pc1 := 6) [(.aload_n 0, .null, 0, 0), (.getfield 34, .null, 9, 7), (.bipush 8, .int (nI 8), 0, 0)] [] (by decide +kernel) rfl trivial ?_
  refine xr_ic_ge (tgt := 26) (off := 20) (by decide +kernel) (by decide) (fun hc => ?_) (fun hc => ?_)
  · replace h := h.1 hc
    refine xr_blk (lv1 := [(0, .ref 11), (1, .int x1), (2, .int x2)]) (st1 := [.int (-1)]) (S1 := rt v) (pc1 := 27) [(.iconst (-1), .int (-1), 0, 0)] [] (by decide +kernel) rfl trivial ?_
    exact xr_iret (by decide +kernel) rfl ⟨_, _, rfl, rfl, h⟩
  · replace h := h.2 hc
    refine xr_blk (lv1 := [(0, .ref 11), (1, .int x1), (2, .int x2)]) (st1 := [.int x1]) (S1 := rt v) (pc1 := 10) [(.iload_n 1, .null, 0, 0)] [] (by decide +kernel) rfl trivial ?_
    refine xk_SI (As := [.int x1]) (rest := []) (idx := 44) (i0 := 44) (m1 := 84) (ps := [695, 696]) (by decide +kernel) (by decide +kernel) (by decide) rfl (Nat.le_of_ble_eq_true rfl) rfl h (fun y2 v1 h => ?_)
    refine xr_if_eq (tgt := 26) (off := 13) (by decide +kernel) (by decide) (fun hc => ?_) (fun hc => ?_)
    · replace h := h.1 hc
      refine xr_blk (lv1 := [(0, .ref 11), (1, .int x1), (2, .int x2)]) (st1 := [.int (-1)]) (S1 := rt v1) (pc1 := 27) [(.iconst (-1), .int (-1), 0, 0)] [] (by decide +kernel) rfl trivial ?_
      exact xr_iret (by decide +kernel) rfl ⟨_, _, rfl, rfl, h⟩
    · replace h := h.2 hc
      refine xr_blk (lv1 := [(0, .ref 11), (1, .int x1), (2, .int x2)]) (st1 := [.int (nI 1), .int x2]) (S1 := rt v1) (pc1 := 18) [(.iload_n 2, .null, 0, 0), (.iconst 1, .int (nI 1), 0, 0)] [] (by decide +kernel) rfl trivial ?_
      refine xr_ic_lt (tgt := 26) (off := 8) (by decide +kernel) (by decide) (fun hc => ?_) (fun hc => ?_)
      · replace h := h.1 hc
        refine xr_blk (lv1 := [(0, .ref 11), (1, .int x1), (2, .int x2)]) (st1 := [.int (-1)]) (S1 := rt v1) (pc1 := 27) [(.iconst (-1), .int (-1), 0, 0)] [] (by decide +kernel) rfl trivial ?_
        exact xr_iret (by decide +kernel) rfl ⟨_, _, rfl, rfl, h⟩
      · replace h := h.2 hc
        refine xr_blk (lv1 := [(0, .ref 11), (1, .int x1), (2, .int x2)]) (st1 := [.int (nI 4), .int x2]) (S1 := rt v1) (pc1 := 23) [(.iload_n 2, .null, 0, 0), (.iconst 4, .int (nI 4), 0, 0)] [] (by decide +kernel) rfl trivial ?_
        refine xr_ic_le (tgt := 28) (off := 5) (by decide +kernel) (by decide) (fun hc => ?_) (fun hc => ?_)
        · replace h := h.1 hc
          obtain ⟨hb3, h⟩ := h
          obtain ⟨hb4, h⟩ := h
          refine xr_blk (lv1 := [(0, .ref 11), (1, .int x1), (2, .int x2)]) (st1 := [.int (((gI v1 11 7) + (nI 1)) - (nI 1))]) (S1 := rt (v_I (v_A (v_A v1 13 (upd (gA v1 13) ((gI v1 11 7)).toNatClampNeg x1)) 14 (upd (gA v1 14) ((gI v1 11 7)).toNatClampNeg x2)) 11 7 ((gI v1 11 7) + (nI 1)))) (pc1 := 64) [(.aload_n 0, .null, 0, 0), (.getfield 15, .null, 9, 1), (.aload_n 0, .null, 0, 0), (.getfield 34, .null, 9, 7), (.iload_n 1, .null, 0, 0), (.iastore, .null, 0, 0), (.aload_n 0, .null, 0, 0), (.getfield 18, .null, 9, 2), (.aload_n 0, .null, 0, 0), (.getfield 34, .null, 9, 7), (.iload_n 2, .null, 0, 0), (.iastore, .null, 0, 0), (.aload_n 0, .null, 0, 0), (.dup, .null, 0, 0), (.getfield 34, .null, 9, 7), (.iconst 1, .int (nI 1), 0, 0), (.iadd, .null, 0, 0), (.putfield 34, .null, 9, 7), (.aload_n 0, .null, 0, 0), (.getfield 34, .null, 9, 7), (.iconst 1, .int (nI 1), 0, 0), (.isub, .null, 0, 0)] [((gI v1 11 7), 8), ((gI v1 11 7), 8)] (by decide +kernel) rfl ⟨hb3, hb4, trivial⟩ ?_
          exact xr_iret (by decide +kernel) rfl ⟨_, _, rfl, rfl, h⟩
        · replace h := h.2 hc
          refine xr_blk (lv1 := [(0, .ref 11), (1, .int x1), (2, .int x2)]) (st1 := [.int (-1)]) (S1 := rt v1) (pc1 := 27) [(.iconst (-1), .int (-1), 0, 0)] [] (by decide +kernel) rfl trivial ?_
          exact xr_iret (by decide +kernel) rfl ⟨_, _, rfl, rfl, h⟩
theorem ok_82 : x_mOK 82 := ⟨x_tm3 (List.mem_of_getElem? (i := 132) rfl) rfl, 104, by decide +kernel⟩
/-! X9_isLayer: method 83, ScrawlHouse$Town.isLayer(II)Z -/
set_option maxRecDepth 100000 in
theorem w_X9_isLayer_0 {E : Nat × (Nat → Int32)} {d : Nat} {v : xV} {x1 : Int32} {x2 : Int32} {Q : Int32 → xV → Prop} (h : ((x1 < (nI 0) → Q (nI 0) v) ∧ (¬ x1 < (nI 0) → (((gI v 11 7) ≤ x1 → Q (nI 0) v) ∧ (¬ (gI v 11 7) ≤ x1 → ((x2 < (nI 0) → Q (nI 0) v) ∧ (¬ x2 < (nI 0) → vp_in x1 8 ∧ ((((gA v 14) (x1).toNatClampNeg) ≤ x2 → Q (nI 0) v) ∧ (¬ ((gA v 14) (x1).toNatClampNeg) ≤ x2 → Q (nI 1) v))))))))) : RI E d 83 0 [(0, .ref 11), (1, .int x1), (2, .int x2)] v Q := by
  unfold RI
  refine xr_blk (lv1 := [(0, .ref 11), (1, .int x1), (2, .int x2)]) (st1 := [.int x1]) (S1 := rt v) (pc1 := 1) [(.iload_n 1, .null, 0, 0)] [] (by decide +kernel) rfl trivial ?_
  refine xr_if_lt (tgt := 30) (off := 29) (by decide +kernel) (by decide) (fun hc => ?_) (fun hc => ?_)
  · replace h := h.1 hc
    refine xr_blk (lv1 := [(0, .ref 11), (1, .int x1), (2, .int x2)]) (st1 := [.int (nI 0)]) (S1 := rt v) (pc1 := 31) [(.iconst 0, .int (nI 0), 0, 0)] [] (by decide +kernel) rfl trivial ?_
    exact xr_zret (by decide +kernel) rfl x_in2_0 ⟨_, _, rfl, rfl, h⟩
  · replace h := h.2 hc
    refine xr_blk (lv1 := [(0, .ref 11), (1, .int x1), (2, .int x2)]) (st1 := [.int (gI v 11 7), .int x1]) (S1 := rt v) (pc1 := 9) [(.iload_n 1, .null, 0, 0), (.aload_n 0, .null, 0, 0), (.getfield 34, .null, 9, 7)] [] (by decide +kernel) rfl trivial ?_
    refine xr_ic_ge (tgt := 30) (off := 21) (by decide +kernel) (by decide) (fun hc => ?_) (fun hc => ?_)
    · replace h := h.1 hc
      refine xr_blk (lv1 := [(0, .ref 11), (1, .int x1), (2, .int x2)]) (st1 := [.int (nI 0)]) (S1 := rt v) (pc1 := 31) [(.iconst 0, .int (nI 0), 0, 0)] [] (by decide +kernel) rfl trivial ?_
      exact xr_zret (by decide +kernel) rfl x_in2_0 ⟨_, _, rfl, rfl, h⟩
    · replace h := h.2 hc
      refine xr_blk (lv1 := [(0, .ref 11), (1, .int x1), (2, .int x2)]) (st1 := [.int x2]) (S1 := rt v) (pc1 := 13) [(.iload_n 2, .null, 0, 0)] [] (by decide +kernel) rfl trivial ?_
      refine xr_if_lt (tgt := 30) (off := 17) (by decide +kernel) (by decide) (fun hc => ?_) (fun hc => ?_)
      · replace h := h.1 hc
        refine xr_blk (lv1 := [(0, .ref 11), (1, .int x1), (2, .int x2)]) (st1 := [.int (nI 0)]) (S1 := rt v) (pc1 := 31) [(.iconst 0, .int (nI 0), 0, 0)] [] (by decide +kernel) rfl trivial ?_
        exact xr_zret (by decide +kernel) rfl x_in2_0 ⟨_, _, rfl, rfl, h⟩
      · replace h := h.2 hc
        obtain ⟨hb1, h⟩ := h
        refine xr_blk (lv1 := [(0, .ref 11), (1, .int x1), (2, .int x2)]) (st1 := [.int ((gA v 14) (x1).toNatClampNeg), .int x2]) (S1 := rt v) (pc1 := 23) [(.iload_n 2, .null, 0, 0), (.aload_n 0, .null, 0, 0), (.getfield 18, .null, 9, 2), (.iload_n 1, .null, 0, 0), (.iaload, .null, 0, 0)] [(x1, 8)] (by decide +kernel) rfl ⟨hb1, trivial⟩ ?_
        refine xr_ic_ge (tgt := 30) (off := 7) (by decide +kernel) (by decide) (fun hc => ?_) (fun hc => ?_)
        · replace h := h.1 hc
          refine xr_blk (lv1 := [(0, .ref 11), (1, .int x1), (2, .int x2)]) (st1 := [.int (nI 0)]) (S1 := rt v) (pc1 := 31) [(.iconst 0, .int (nI 0), 0, 0)] [] (by decide +kernel) rfl trivial ?_
          exact xr_zret (by decide +kernel) rfl x_in2_0 ⟨_, _, rfl, rfl, h⟩
        · replace h := h.2 hc
          refine xr_blk (lv1 := [(0, .ref 11), (1, .int x1), (2, .int x2)]) (st1 := [.int (nI 1)]) (S1 := rt v) (pc1 := 27) [(.iconst 1, .int (nI 1), 0, 0)] [] (by decide +kernel) rfl trivial ?_
          refine xr_goto (tgt := 31) (off := 4) (by decide +kernel) (by decide) ?_
          exact xr_zret (by decide +kernel) rfl x_in2_1 ⟨_, _, rfl, rfl, h⟩
theorem ok_83 : x_mOK 83 := ⟨x_tm4 (List.mem_of_getElem? (i := 37) rfl) rfl, 104, by decide +kernel⟩
/-! X9_isCorner: method 84, ScrawlHouse$Town.isCorner(I)Z -/
set_option maxRecDepth 100000 in
theorem w_X9_isCorner_0 {E : Nat × (Nat → Int32)} {d : Nat} {v : xV} {x0 : Int32} {Q : Int32 → xV → Prop} (h : ((x0 < (nI 0) → Q (nI 0) v) ∧ (¬ x0 < (nI 0) → (((nI 12) ≤ x0 → Q (nI 0) v) ∧ (¬ (nI 12) ≤ x0 → Q (nI 1) v))))) : RI E d 84 0 [(0, .int x0)] v Q := by
  unfold RI
  refine xr_blk (lv1 := [(0, .int x0)]) (st1 := [.int x0]) (S1 := rt v) (pc1 := 1) [(.iload_n 0, .null, 0, 0)] [] (by decide +kernel) rfl trivial ?_
  refine xr_if_lt (tgt := 14) (off := 13) (by decide +kernel) (by decide) (fun hc => ?_) (fun hc => ?_)
  · replace h := h.1 hc
    refine xr_blk (lv1 := [(0, .int x0)]) (st1 := [.int (nI 0)]) (S1 := rt v) (pc1 := 15) [(.iconst 0, .int (nI 0), 0, 0)] [] (by decide +kernel) rfl trivial ?_
    exact xr_zret (by decide +kernel) rfl x_in2_0 ⟨_, _, rfl, rfl, h⟩
  · replace h := h.2 hc
    refine xr_blk (lv1 := [(0, .int x0)]) (st1 := [.int (nI 12), .int x0]) (S1 := rt v) (pc1 := 7) [(.iload_n 0, .null, 0, 0), (.bipush 12, .int (nI 12), 0, 0)] [] (by decide +kernel) rfl trivial ?_
    refine xr_ic_ge (tgt := 14) (off := 7) (by decide +kernel) (by decide) (fun hc => ?_) (fun hc => ?_)
    · replace h := h.1 hc
      refine xr_blk (lv1 := [(0, .int x0)]) (st1 := [.int (nI 0)]) (S1 := rt v) (pc1 := 15) [(.iconst 0, .int (nI 0), 0, 0)] [] (by decide +kernel) rfl trivial ?_
      exact xr_zret (by decide +kernel) rfl x_in2_0 ⟨_, _, rfl, rfl, h⟩
    · replace h := h.2 hc
      refine xr_blk (lv1 := [(0, .int x0)]) (st1 := [.int (nI 1)]) (S1 := rt v) (pc1 := 11) [(.iconst 1, .int (nI 1), 0, 0)] [] (by decide +kernel) rfl trivial ?_
      refine xr_goto (tgt := 15) (off := 4) (by decide +kernel) (by decide) ?_
      exact xr_zret (by decide +kernel) rfl x_in2_1 ⟨_, _, rfl, rfl, h⟩
theorem ok_84 : x_mOK 84 := ⟨x_tm3 (List.mem_of_getElem? (i := 117) rfl) rfl, 104, by decide +kernel⟩

theorem x_tm1 {w : Cond} (h : w ∈ tables_1_1) (hg : goodWord w = true) : w ∈ x_tbl := List.mem_filter.mpr ⟨List.mem_append_right _ (List.mem_append_left _ h), hg⟩
theorem x_tm2 {w : Cond} (h : w ∈ tables_1_2) (hg : goodWord w = true) : w ∈ x_tbl := List.mem_filter.mpr ⟨List.mem_append_right _ (List.mem_append_right _ (List.mem_append_left _ h)), hg⟩
theorem x_tm3 {w : Cond} (h : w ∈ tables_1_3) (hg : goodWord w = true) : w ∈ x_tbl := List.mem_filter.mpr ⟨List.mem_append_right _ (List.mem_append_right _ (List.mem_append_right _ (List.mem_append_left _ h))), hg⟩
theorem x_tm4 {w : Cond} (h : w ∈ tables_1_4) (hg : goodWord w = true) : w ∈ x_tbl := List.mem_filter.mpr ⟨List.mem_append_right _ (List.mem_append_right _ (List.mem_append_right _ (List.mem_append_right _ (List.mem_append_left _ h)))), hg⟩
theorem x_tm5 {w : Cond} (h : w ∈ tables_1_5) (hg : goodWord w = true) : w ∈ x_tbl := List.mem_filter.mpr ⟨List.mem_append_right _ (List.mem_append_right _ (List.mem_append_right _ (List.mem_append_right _ (List.mem_append_right _ (List.mem_append_left _ h))))), hg⟩
theorem x_tm6 {w : Cond} (h : w ∈ tables_1_6) (hg : goodWord w = true) : w ∈ x_tbl := List.mem_filter.mpr ⟨List.mem_append_right _ (List.mem_append_right _ (List.mem_append_right _ (List.mem_append_right _ (List.mem_append_right _ (List.mem_append_right _ (List.mem_append_left _ h)))))), hg⟩
theorem x_tm7 {w : Cond} (h : w ∈ tables_1_7) (hg : goodWord w = true) : w ∈ x_tbl := List.mem_filter.mpr ⟨List.mem_append_right _ (List.mem_append_right _ (List.mem_append_right _ (List.mem_append_right _ (List.mem_append_right _ (List.mem_append_right _ (List.mem_append_right _ (List.mem_append_left _ h))))))), hg⟩
theorem x_tm8 {w : Cond} (h : w ∈ tables_1_8) (hg : goodWord w = true) : w ∈ x_tbl := List.mem_filter.mpr ⟨List.mem_append_right _ (List.mem_append_right _ (List.mem_append_right _ (List.mem_append_right _ (List.mem_append_right _ (List.mem_append_right _ (List.mem_append_right _ (List.mem_append_right _ (h)))))))), hg⟩
theorem gK_s {v : xV} {i : Nat} (h : i < 140) : x_K (rt v) i = x_K0 i := if_pos h
theorem gN_s {v : xV} {i : Nat} (h : i < 140) : gN v i = x_N0 i := if_pos h
theorem x_inl {i : Int32} {n : Nat} (h : decide (¬ (i < 0 ∨ n ≤ i.toNatClampNeg)) = true) : vp_in i n := by
  have h1 := of_decide_eq_true h
  exact h1
theorem xk_VI {E : Nat × (Nat → Int32)} {d m pc idx i0 m1 bb : Nat} {ps : List Nat} {lv : List (Nat × Value)} {As rest st : List Value} {v : xV} {Q : Option Value → xS → Prop} (hdg : decode (x_mB m) pc = .ok (.invokevirtual idx, 3)) (hf : x_cl (x_mo m) idx = some (i0, 0, m1, ps)) (ho : x_mo m < 20) (hn : As.length = x_mN m1) (hK : x_K (rt v) bb = x_mo m1) (hK2 : x_mo m1 < 13) (hst : (rest.map fun v => v.category).sum ≤ 8) (hs : As.reverse ++ .ref bb :: rest = st) {P : Int32 → xV → Prop} (h : KI E d m1 (.ref bb :: As) v P) (k : ∀ y w, P y w → x_R E (d + 1) m (pc + 3) lv (.int y :: rest) (rt w) Q) : x_R E (d + 1) m pc lv st (rt v) Q := xr_callV hdg hf ho hn hK hK2 hst hs (x_K1.mono h (fun r S ⟨y, w, h1, h2, h3⟩ => by
  subst h1
  subst h2
  exact k y w h3))
theorem xk_VJ {E : Nat × (Nat → Int32)} {d m pc idx i0 m1 bb : Nat} {ps : List Nat} {lv : List (Nat × Value)} {As rest st : List Value} {v : xV} {Q : Option Value → xS → Prop} (hdg : decode (x_mB m) pc = .ok (.invokevirtual idx, 3)) (hf : x_cl (x_mo m) idx = some (i0, 0, m1, ps)) (ho : x_mo m < 20) (hn : As.length = x_mN m1) (hK : x_K (rt v) bb = x_mo m1) (hK2 : x_mo m1 < 13) (hst : (rest.map fun v => v.category).sum ≤ 8) (hs : As.reverse ++ .ref bb :: rest = st) {P : Int64 → xV → Prop} (h : KJ E d m1 (.ref bb :: As) v P) (k : ∀ y w, P y w → x_R E (d + 1) m (pc + 3) lv (.long y :: rest) (rt w) Q) : x_R E (d + 1) m pc lv st (rt v) Q := xr_callV hdg hf ho hn hK hK2 hst hs (x_K1.mono h (fun r S ⟨y, w, h1, h2, h3⟩ => by
  subst h1
  subst h2
  exact k y w h3))
theorem xk_VV {E : Nat × (Nat → Int32)} {d m pc idx i0 m1 bb : Nat} {ps : List Nat} {lv : List (Nat × Value)} {As rest st : List Value} {v : xV} {Q : Option Value → xS → Prop} (hdg : decode (x_mB m) pc = .ok (.invokevirtual idx, 3)) (hf : x_cl (x_mo m) idx = some (i0, 0, m1, ps)) (ho : x_mo m < 20) (hn : As.length = x_mN m1) (hK : x_K (rt v) bb = x_mo m1) (hK2 : x_mo m1 < 13) (hst : (rest.map fun v => v.category).sum ≤ 8) (hs : As.reverse ++ .ref bb :: rest = st) {P : xV → Prop} (h : KV E d m1 (.ref bb :: As) v P) (k : ∀ w, P w → x_R E (d + 1) m (pc + 3) lv (rest) (rt w) Q) : x_R E (d + 1) m pc lv st (rt v) Q := xr_callV hdg hf ho hn hK hK2 hst hs (x_K1.mono h (fun r S ⟨w, h1, h2, h3⟩ => by
  subst h1
  subst h2
  exact k w h3))
theorem xk_SI {E : Nat × (Nat → Int32)} {d m pc idx i0 m1 : Nat} {ps : List Nat} {lv : List (Nat × Value)} {As rest st : List Value} {v : xV} {Q : Option Value → xS → Prop} (hdg : decode (x_mB m) pc = .ok (.invokestatic idx, 3)) (hf : x_cl (x_mo m) idx = some (i0, 1, m1, ps)) (ho : x_mo m < 20) (hn : As.length = x_mN m1) (hst : (rest.map fun v => v.category).sum ≤ 8) (hs : As.reverse ++ rest = st) {P : Int32 → xV → Prop} (h : KI E d m1 As v P) (k : ∀ y w, P y w → x_R E (d + 1) m (pc + 3) lv (.int y :: rest) (rt w) Q) : x_R E (d + 1) m pc lv st (rt v) Q := xr_callS hdg hf ho hn hst hs (x_K1.mono h (fun r S ⟨y, w, h1, h2, h3⟩ => by
  subst h1
  subst h2
  exact k y w h3))
theorem xk_SJ {E : Nat × (Nat → Int32)} {d m pc idx i0 m1 : Nat} {ps : List Nat} {lv : List (Nat × Value)} {As rest st : List Value} {v : xV} {Q : Option Value → xS → Prop} (hdg : decode (x_mB m) pc = .ok (.invokestatic idx, 3)) (hf : x_cl (x_mo m) idx = some (i0, 1, m1, ps)) (ho : x_mo m < 20) (hn : As.length = x_mN m1) (hst : (rest.map fun v => v.category).sum ≤ 8) (hs : As.reverse ++ rest = st) {P : Int64 → xV → Prop} (h : KJ E d m1 As v P) (k : ∀ y w, P y w → x_R E (d + 1) m (pc + 3) lv (.long y :: rest) (rt w) Q) : x_R E (d + 1) m pc lv st (rt v) Q := xr_callS hdg hf ho hn hst hs (x_K1.mono h (fun r S ⟨y, w, h1, h2, h3⟩ => by
  subst h1
  subst h2
  exact k y w h3))
theorem xk_SV {E : Nat × (Nat → Int32)} {d m pc idx i0 m1 : Nat} {ps : List Nat} {lv : List (Nat × Value)} {As rest st : List Value} {v : xV} {Q : Option Value → xS → Prop} (hdg : decode (x_mB m) pc = .ok (.invokestatic idx, 3)) (hf : x_cl (x_mo m) idx = some (i0, 1, m1, ps)) (ho : x_mo m < 20) (hn : As.length = x_mN m1) (hst : (rest.map fun v => v.category).sum ≤ 8) (hs : As.reverse ++ rest = st) {P : xV → Prop} (h : KV E d m1 As v P) (k : ∀ w, P w → x_R E (d + 1) m (pc + 3) lv (rest) (rt w) Q) : x_R E (d + 1) m pc lv st (rt v) Q := xr_callS hdg hf ho hn hst hs (x_K1.mono h (fun r S ⟨w, h1, h2, h3⟩ => by
  subst h1
  subst h2
  exact k w h3))
theorem xk_NI {E : Nat × (Nat → Int32)} {d m pc idx i0 m1 : Nat} {ps : List Nat} {lv : List (Nat × Value)} {As rest st : List Value} {v : xV} {Q : Option Value → xS → Prop} (hdg : decode (x_mB m) pc = .ok (.invokestatic idx, 3)) (hf : x_cl (x_mo m) idx = some (i0, 5, m1, ps)) (ho : x_mo m < 20) (hn : As.length = x_mN m1) (hst : (rest.map fun v => v.category).sum ≤ 8) (hs : As.reverse ++ rest = st) {P : Int32 → xV → Prop} (h : KI E d m1 As v P) (k : ∀ y w, P y w → x_R E (d + 1) m (pc + 3) lv (.int y :: rest) (rt w) Q) : x_R E (d + 1) m pc lv st (rt v) Q := xr_callSN hdg hf ho hn hst hs (x_K1.mono h (fun r S ⟨y, w, h1, h2, h3⟩ => by
  subst h1
  subst h2
  exact k y w h3))
theorem xk_NJ {E : Nat × (Nat → Int32)} {d m pc idx i0 m1 : Nat} {ps : List Nat} {lv : List (Nat × Value)} {As rest st : List Value} {v : xV} {Q : Option Value → xS → Prop} (hdg : decode (x_mB m) pc = .ok (.invokestatic idx, 3)) (hf : x_cl (x_mo m) idx = some (i0, 5, m1, ps)) (ho : x_mo m < 20) (hn : As.length = x_mN m1) (hst : (rest.map fun v => v.category).sum ≤ 8) (hs : As.reverse ++ rest = st) {P : Int64 → xV → Prop} (h : KJ E d m1 As v P) (k : ∀ y w, P y w → x_R E (d + 1) m (pc + 3) lv (.long y :: rest) (rt w) Q) : x_R E (d + 1) m pc lv st (rt v) Q := xr_callSN hdg hf ho hn hst hs (x_K1.mono h (fun r S ⟨y, w, h1, h2, h3⟩ => by
  subst h1
  subst h2
  exact k y w h3))
theorem xk_NV {E : Nat × (Nat → Int32)} {d m pc idx i0 m1 : Nat} {ps : List Nat} {lv : List (Nat × Value)} {As rest st : List Value} {v : xV} {Q : Option Value → xS → Prop} (hdg : decode (x_mB m) pc = .ok (.invokestatic idx, 3)) (hf : x_cl (x_mo m) idx = some (i0, 5, m1, ps)) (ho : x_mo m < 20) (hn : As.length = x_mN m1) (hst : (rest.map fun v => v.category).sum ≤ 8) (hs : As.reverse ++ rest = st) {P : xV → Prop} (h : KV E d m1 As v P) (k : ∀ w, P w → x_R E (d + 1) m (pc + 3) lv (rest) (rt w) Q) : x_R E (d + 1) m pc lv st (rt v) Q := xr_callSN hdg hf ho hn hst hs (x_K1.mono h (fun r S ⟨w, h1, h2, h3⟩ => by
  subst h1
  subst h2
  exact k w h3))
theorem x_sw4 {x : Int32} (h : ¬ (x.toInt < 0 ∨ 3 < x.toInt)) : x = 0 ∨ x = 1 ∨ x = 2 ∨ x = 3 := by
  have e : x = Int32.ofInt x.toInt := by simp
  have h1 : 0 ≤ x.toInt ∧ x.toInt ≤ 3 := by omega
  generalize x.toInt = z at e h1
  rcases (show z = 0 ∨ z = 1 ∨ z = 2 ∨ z = 3 by omega) with h0 | h0 | h0 | h0 <;> subst h0 <;> subst e <;> simp
theorem x_sw5 {x : Int32} (h : ¬ (x.toInt < 0 ∨ 4 < x.toInt)) : x = 0 ∨ x = 1 ∨ x = 2 ∨ x = 3 ∨ x = 4 := by
  have e : x = Int32.ofInt x.toInt := by simp
  have h1 : 0 ≤ x.toInt ∧ x.toInt ≤ 4 := by omega
  generalize x.toInt = z at e h1
  rcases (show z = 0 ∨ z = 1 ∨ z = 2 ∨ z = 3 ∨ z = 4 by omega) with h0 | h0 | h0 | h0 | h0 <;> subst h0 <;> subst e <;> simp
theorem x_sw6 {x : Int32} (h : ¬ (x.toInt < 0 ∨ 5 < x.toInt)) : x = 0 ∨ x = 1 ∨ x = 2 ∨ x = 3 ∨ x = 4 ∨ x = 5 := by
  have e : x = Int32.ofInt x.toInt := by simp
  have h1 : 0 ≤ x.toInt ∧ x.toInt ≤ 5 := by omega
  generalize x.toInt = z at e h1
  rcases (show z = 0 ∨ z = 1 ∨ z = 2 ∨ z = 3 ∨ z = 4 ∨ z = 5 by omega) with h0 | h0 | h0 | h0 | h0 | h0 <;> subst h0 <;> subst e <;> simp
theorem x_sw11 {x : Int32} (h : ¬ (x.toInt < 0 ∨ 10 < x.toInt)) : x = 0 ∨ x = 1 ∨ x = 2 ∨ x = 3 ∨ x = 4 ∨ x = 5 ∨ x = 6 ∨ x = 7 ∨ x = 8 ∨ x = 9 ∨ x = 10 := by
  have e : x = Int32.ofInt x.toInt := by simp
  have h1 : 0 ≤ x.toInt ∧ x.toInt ≤ 10 := by omega
  generalize x.toInt = z at e h1
  rcases (show z = 0 ∨ z = 1 ∨ z = 2 ∨ z = 3 ∨ z = 4 ∨ z = 5 ∨ z = 6 ∨ z = 7 ∨ z = 8 ∨ z = 9 ∨ z = 10 by omega) with h0 | h0 | h0 | h0 | h0 | h0 | h0 | h0 | h0 | h0 | h0 <;> subst h0 <;> subst e <;> simp
theorem x_sw28 {x : Int32} (h : ¬ (x.toInt < 0 ∨ 27 < x.toInt)) : x = 0 ∨ x = 1 ∨ x = 2 ∨ x = 3 ∨ x = 4 ∨ x = 5 ∨ x = 6 ∨ x = 7 ∨ x = 8 ∨ x = 9 ∨ x = 10 ∨ x = 11 ∨ x = 12 ∨ x = 13 ∨ x = 14 ∨ x = 15 ∨ x = 16 ∨ x = 17 ∨ x = 18 ∨ x = 19 ∨ x = 20 ∨ x = 21 ∨ x = 22 ∨ x = 23 ∨ x = 24 ∨ x = 25 ∨ x = 26 ∨ x = 27 := by
  have e : x = Int32.ofInt x.toInt := by simp
  have h1 : 0 ≤ x.toInt ∧ x.toInt ≤ 27 := by omega
  generalize x.toInt = z at e h1
  rcases (show z = 0 ∨ z = 1 ∨ z = 2 ∨ z = 3 ∨ z = 4 ∨ z = 5 ∨ z = 6 ∨ z = 7 ∨ z = 8 ∨ z = 9 ∨ z = 10 ∨ z = 11 ∨ z = 12 ∨ z = 13 ∨ z = 14 ∨ z = 15 ∨ z = 16 ∨ z = 17 ∨ z = 18 ∨ z = 19 ∨ z = 20 ∨ z = 21 ∨ z = 22 ∨ z = 23 ∨ z = 24 ∨ z = 25 ∨ z = 26 ∨ z = 27 by omega) with h0 | h0 | h0 | h0 | h0 | h0 | h0 | h0 | h0 | h0 | h0 | h0 | h0 | h0 | h0 | h0 | h0 | h0 | h0 | h0 | h0 | h0 | h0 | h0 | h0 | h0 | h0 | h0 <;> subst h0 <;> subst e <;> simp
theorem x_mmax_c : Cond.code Lib.Math.max.name Lib.Math.max.code 2 (some .int) ∈ x_tbl := x_tm4 (List.mem_of_getElem? (i := 144) rfl) rfl
theorem xi_mmax {E : Nat × (Nat → Int32)} {d m pc idx i0 : Nat} {ps : List Nat} {x y : Int32} {lv : List (Nat × Value)} {rest : List Value} {S S' : xS} {r : Option Value} (hdg : decode (x_mB m) pc = .ok (.invokestatic idx, 3)) (hf : x_cl (x_mo m) idx = some (i0, 1, 226, ps)) (ho : x_mo m < 20) (hst : (rest.map fun v => v.category).sum ≤ 8) (h : x_Rw E (d + 1) m (pc + 3) lv (.int (if x < y then y else x) :: rest) S r S') : x_Rw E (d + 1) m pc lv (.int y :: .int x :: rest) S r S' := by
  obtain ⟨f1, f2, -, -⟩ := x_cl_ok hf ho
  dsimp only at f2
  subst f2
  have hl : Cond.methodLink (x_o (x_mo m)) i0 Lib.Math.max.name ∈ x_tbl := f1 (Cond.methodLink (x_o (x_mo m)) i0 (x_mY 226)) (by simp [x_cc])
  have hi : Cond.static Lib.Math.max.name ∈ x_tbl := f1 (Cond.static (x_mY 226)) (by simp [x_cc])
  have hini : Cond.initialized "java/lang/Math" ∈ x_tbl := x_at_mem (p := 115) (by decide +kernel)
  refine ⟨h.1, ?_⟩
  intro l p e R s mid args below meth c A D cs q al H locs ls cells slots Q C X hl0 w1 w2 hcc hzz kk
  have hts := C.2.2.2.2.2.2.1
  have hlo := C.2.2.2.2.2.2.2.2.2.2.1
  refine va_mmax C.2.1 C.2.2.1 (by rw [hl0.1]; exact C.2.2.2.1) C.2.2.2.2.1 (hts _ hl) (hts _ hi) (hts _ hini) (hts _ x_mmax_c) (Nat.le_trans (by omega) C.2.2.2.2.2.2.2.2.2.1) (by rw [x_cs_cat]; omega) (by omega) (by omega) hdg ?_
  exact h.2 l p e R s mid args below meth c A D cs q al H locs ls cells slots Q C X hl0 w1 (xwi (xw2 w2)) hcc hzz kk
theorem xr_mmax {E : Nat × (Nat → Int32)} {d m pc idx i0 : Nat} {ps : List Nat} {x y : Int32} {lv : List (Nat × Value)} {rest : List Value} {S : xS} {Q : Option Value → xS → Prop} (hdg : decode (x_mB m) pc = .ok (.invokestatic idx, 3)) (hf : x_cl (x_mo m) idx = some (i0, 1, 226, ps)) (ho : x_mo m < 20) (hst : (rest.map fun v => v.category).sum ≤ 8) (k : x_R E (d + 1) m (pc + 3) lv (.int (if x < y then y else x) :: rest) S Q) : x_R E (d + 1) m pc lv (.int y :: .int x :: rest) S Q := x_R.step (fun _ _ h => xi_mmax hdg hf ho hst h) k
theorem x_mmin_c : Cond.code Lib.Math.min.name Lib.Math.min.code 2 (some .int) ∈ x_tbl := x_tm3 (List.mem_of_getElem? (i := 124) rfl) rfl
theorem xi_mmin {E : Nat × (Nat → Int32)} {d m pc idx i0 : Nat} {ps : List Nat} {x y : Int32} {lv : List (Nat × Value)} {rest : List Value} {S S' : xS} {r : Option Value} (hdg : decode (x_mB m) pc = .ok (.invokestatic idx, 3)) (hf : x_cl (x_mo m) idx = some (i0, 1, 227, ps)) (ho : x_mo m < 20) (hst : (rest.map fun v => v.category).sum ≤ 8) (h : x_Rw E (d + 1) m (pc + 3) lv (.int (if y < x then y else x) :: rest) S r S') : x_Rw E (d + 1) m pc lv (.int y :: .int x :: rest) S r S' := by
  obtain ⟨f1, f2, -, -⟩ := x_cl_ok hf ho
  dsimp only at f2
  subst f2
  have hl : Cond.methodLink (x_o (x_mo m)) i0 Lib.Math.min.name ∈ x_tbl := f1 (Cond.methodLink (x_o (x_mo m)) i0 (x_mY 227)) (by simp [x_cc])
  have hi : Cond.static Lib.Math.min.name ∈ x_tbl := f1 (Cond.static (x_mY 227)) (by simp [x_cc])
  have hini : Cond.initialized "java/lang/Math" ∈ x_tbl := x_at_mem (p := 115) (by decide +kernel)
  refine ⟨h.1, ?_⟩
  intro l p e R s mid args below meth c A D cs q al H locs ls cells slots Q C X hl0 w1 w2 hcc hzz kk
  have hts := C.2.2.2.2.2.2.1
  have hlo := C.2.2.2.2.2.2.2.2.2.2.1
  refine va_mmin C.2.1 C.2.2.1 (by rw [hl0.1]; exact C.2.2.2.1) C.2.2.2.2.1 (hts _ hl) (hts _ hi) (hts _ hini) (hts _ x_mmin_c) (Nat.le_trans (by omega) C.2.2.2.2.2.2.2.2.2.1) (by rw [x_cs_cat]; omega) (by omega) (by omega) hdg ?_
  exact h.2 l p e R s mid args below meth c A D cs q al H locs ls cells slots Q C X hl0 w1 (xwi (xw2 w2)) hcc hzz kk
theorem xr_mmin {E : Nat × (Nat → Int32)} {d m pc idx i0 : Nat} {ps : List Nat} {x y : Int32} {lv : List (Nat × Value)} {rest : List Value} {S : xS} {Q : Option Value → xS → Prop} (hdg : decode (x_mB m) pc = .ok (.invokestatic idx, 3)) (hf : x_cl (x_mo m) idx = some (i0, 1, 227, ps)) (ho : x_mo m < 20) (hst : (rest.map fun v => v.category).sum ≤ 8) (k : x_R E (d + 1) m (pc + 3) lv (.int (if y < x then y else x) :: rest) S Q) : x_R E (d + 1) m pc lv (.int y :: .int x :: rest) S Q := x_R.step (fun _ _ h => xi_mmin hdg hf ho hst h) k

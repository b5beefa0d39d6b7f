/-- three new int arrays of N places: best, ways, picks -/
def v_grow (v : xV) (N : Nat) : xV := (v.1, v.2.1, xu1 (xu1 (xu1 v.2.2.1 (gn v) (fun _ => 0)) (gn v + 1) (fun _ => 0)) (gn v + 2) (fun _ => 0), xu1 (xu1 (xu1 v.2.2.2.1 (gn v) (fun _ => 0)) (gn v + 1) (fun _ => 0)) (gn v + 2) (fun _ => 0), xu1 (xu1 (xu1 v.2.2.2.2.1 (gn v) N) (gn v + 1) N) (gn v + 2) N, gn v, gn v + 3, gk v + 3, gz v + 3 * N)
theorem x_grow_eq {v : xV} {N : Nat} (hn : 140 ≤ gn v) : x_pP (x_newA (x_pP (x_newA (x_pP (x_newA (rt v) 100 N) 49 11 (gn v)) 100 N) 49 12 (gn v + 1)) 100 N) 49 13 (gn v + 2) = rt (v_grow v N) := by
  have hP : xu2 (xu2 (xu2 (x_P0 (gb v)) 49 11 (some (gn v))) 49 12 (some (gn v + 1))) 49 13 (some (gn v + 2)) = x_P0 (gn v) := by
    funext i k
    unfold xu2 x_P0
    by_cases hi : i = 49
    · by_cases h1 : k = 13
      · subst h1; simp [hi]
      · by_cases h2 : k = 12
        · subst h2; simp [hi]
        · by_cases h3 : k = 11
          · subst h3; simp [hi]
          · simp [hi, h1, h2, h3]
    · simp [hi]
  have hN : xu1 (xu1 (xu1 (gN v) (gn v) N) (gn v + 1) N) (gn v + 2) N = gN (v_grow v N) := by
    funext i
    unfold xu1 gN v_grow
    by_cases hi : i < 140
    · simp [hi, show ¬ i = gn v by omega, show ¬ i = gn v + 1 by omega, show ¬ i = gn v + 2 by omega]
    · simp [hi, xu1]
  have hK : xu1 (xu1 (xu1 (gK v) (gn v) 100) (gn v + 1) 100) (gn v + 2) 100 = gK (v_grow v N) := by
    funext i
    unfold xu1 gK
    have e : gn (v_grow v N) = gn v + 3 := rfl
    rw [e]
    by_cases hi : i < 140
    · simp [hi, show ¬ i = gn v by omega, show ¬ i = gn v + 1 by omega, show ¬ i = gn v + 2 by omega]
    · by_cases h2 : i < gn v
      · simp [hi, h2, show i < gn v + 3 by omega, show ¬ i = gn v by omega, show ¬ i = gn v + 1 by omega, show ¬ i = gn v + 2 by omega]
      · by_cases h3 : i < gn v + 3
        · have : i = gn v ∨ i = gn v + 1 ∨ i = gn v + 2 := by omega
          rcases this with h | h | h <;> (simp [hi, h]; intro; omega)
        · simp [hi, h2, h3, show ¬ i = gn v by omega, show ¬ i = gn v + 1 by omega, show ¬ i = gn v + 2 by omega]
  have hz : gz v + N + N + N = gz v + 3 * N := by omega
  show (v.1, v.2.1, xu2 (xu2 (xu2 (x_P0 (gb v)) 49 11 (some (gn v))) 49 12 (some (gn v + 1))) 49 13 (some (gn v + 2)), _, _, xu1 (xu1 (xu1 (gN v) (gn v) N) (gn v + 1) N) (gn v + 2) N, xu1 (xu1 (xu1 (gK v) (gn v) 100) (gn v + 1) 100) (gn v + 2) 100, gn v + 1 + 1 + 1, gk v + 1 + 1 + 1, gz v + N + N + N) = _
  rw [hP, hN, hK, hz]
  rfl
theorem xr_newa {E : Nat × (Nat → Int32)} {d m pc kd : Nat} {n : Int32} {N : Nat} {lv : List (Nat × Value)} {st : List Value} {S : xS} {Q : Option Value → xS → Prop} (hdg : decode (x_mB m) pc = .ok (.newarray (x_at0 kd).1, 2)) (hkd : kd = 100 ∨ kd = 101 ∨ kd = 102) (hn : x_n S < x_ext0) (h0 : ¬ n < 0) (hN : n.toNatClampNeg = N) (hb : N * 8 ≤ 536870912) (k : x_R E d m (pc + 2) lv (.ref (x_n S) :: st) (x_newA S kd N) Q) : x_R E d m pc lv (.int n :: st) S Q := x_R.step (fun _ _ h => xi_newa hdg hkd hn h0 hN hb h) k
theorem xr_putR {E : Nat × (Nat → Int32)} {d m pc idx i0 j ci k p0 : Nat} {lv : List (Nat × Value)} {st : List Value} {S : xS} {Q : Option Value → xS → Prop} {x : Nat} (hdg : decode (x_mB m) pc = .ok (.putfield idx, 3)) (hf : x_fl (x_mo m) idx = some (i0, ci, k, p0)) (ho : x_mo m < 20) (hK : x_K S j = ci) (hfin : ((x_C ci).2.1 k).2.2.2 = false ∨ ((x_mY m).name = "<init>" ∧ ((x_C ci).2.1 k).1 = x_o (x_mo m))) (hv : x_tc ci k = 2) (kk : x_R E d m (pc + 3) lv st (x_pP S j k x) Q) : x_R E d m pc lv (.ref x :: .ref j :: st) S Q := x_R.step (fun _ _ h => xi_putR hdg hf ho hK hfin hv h) kk
theorem xr_grow {E : Nat × (Nat → Int32)} {d N : Nat} {x1 : Int32} {v : xV} {Q : Option Value → xS → Prop} (hn : 140 ≤ gn v) (hn2 : gn v + 3 < x_ext0) (hN8 : N * 8 ≤ 536870912) (k : x_R E d 61 53 [(0, .ref 49), (1, .int x1), (2, .int (nI N))] [] (rt (v_grow v N)) Q) : x_R E d 61 32 [(0, .ref 49), (1, .int x1), (2, .int (nI N))] [] (rt v) Q := by
  have hk0 : x_K (x_newA (rt v) 100 N) 49 = 6 := (xu1_n _ _ (by show (49 : Nat) ≠ gn v; omega)).trans (gK_s (by decide))
  have hk1 : x_K (x_newA (x_pP (x_newA (rt v) 100 N) 49 11 (gn v)) 100 N) 49 = 6 := (xu1_n _ _ (by show (49 : Nat) ≠ gn v + 1; omega)).trans hk0
  have hk2 : x_K (x_newA (x_pP (x_newA (x_pP (x_newA (rt v) 100 N) 49 11 (gn v)) 100 N) 49 12 (gn v + 1)) 100 N) 49 = 6 := (xu1_n _ _ (by show (49 : Nat) ≠ gn v + 2; omega)).trans hk1
  refine xr_blk (lv1 := [(0, .ref 49), (1, .int x1), (2, .int (nI N))]) (st1 := [.int (nI N), .ref 49]) (S1 := (rt v)) (pc1 := 34) [(.aload_n 0, .null, 0, 0), (.iload_n 2, .null, 0, 0)] [] (by decide +kernel) rfl trivial ?_
  refine xr_newa (kd := 100) (N := N) (by decide +kernel) (Or.inl rfl) (show gn v + 0 < x_ext0 by omega) (nI_pos (by omega)) (nI_clamp (by omega)) hN8 ?_
  refine xr_putR (idx := 34) (i0 := 34) (ci := 6) (k := 11) (p0 := 432) (j := 49) (by decide +kernel) (by decide +kernel) (by decide) (by show x_K (x_newA (rt v) 100 N) 49 = 6; exact hk0) (Or.inl (by decide +kernel)) (by decide) ?_
  refine xr_blk (lv1 := [(0, .ref 49), (1, .int x1), (2, .int (nI N))]) (st1 := [.int (nI N), .ref 49]) (S1 := (x_pP (x_newA (rt v) 100 N) 49 11 (gn v))) (pc1 := 41) [(.aload_n 0, .null, 0, 0), (.iload_n 2, .null, 0, 0)] [] (by decide +kernel) rfl trivial ?_
  refine xr_newa (kd := 100) (N := N) (by decide +kernel) (Or.inl rfl) (show gn v + 1 < x_ext0 by omega) (nI_pos (by omega)) (nI_clamp (by omega)) hN8 ?_
  refine xr_putR (idx := 37) (i0 := 37) (ci := 6) (k := 12) (p0 := 433) (j := 49) (by decide +kernel) (by decide +kernel) (by decide) (by show x_K (x_newA (x_pP (x_newA (rt v) 100 N) 49 11 (gn v)) 100 N) 49 = 6; exact hk1) (Or.inl (by decide +kernel)) (by decide) ?_
  refine xr_blk (lv1 := [(0, .ref 49), (1, .int x1), (2, .int (nI N))]) (st1 := [.int (nI N), .ref 49]) (S1 := (x_pP (x_newA (x_pP (x_newA (rt v) 100 N) 49 11 (gn v)) 100 N) 49 12 (gn v + 1))) (pc1 := 48) [(.aload_n 0, .null, 0, 0), (.iload_n 2, .null, 0, 0)] [] (by decide +kernel) rfl trivial ?_
  refine xr_newa (kd := 100) (N := N) (by decide +kernel) (Or.inl rfl) (show gn v + 2 < x_ext0 by omega) (nI_pos (by omega)) (nI_clamp (by omega)) hN8 ?_
  refine xr_putR (idx := 40) (i0 := 40) (ci := 6) (k := 13) (p0 := 434) (j := 49) (by decide +kernel) (by decide +kernel) (by decide) (by show x_K (x_newA (x_pP (x_newA (x_pP (x_newA (rt v) 100 N) 49 11 (gn v)) 100 N) 49 12 (gn v + 1)) 100 N) 49 = 6; exact hk2) (Or.inl (by decide +kernel)) (by decide) ?_
  rw [← x_grow_eq hn] at k
  exact k
def KO (E : Nat × (Nat → Int32)) (d pc : Nat) (args : List Value) (v : xV) (Q : Int32 → xV → Prop) : Prop := ∀ (lv : List (Nat × Value)) (Q' : Option Value → xS → Prop), (∀ y w, Q y w → x_R E (d + 1) 239 (pc + 3) lv [.int y] (rt w) Q') → x_R E (d + 1) 239 pc lv args.reverse (rt v) Q'

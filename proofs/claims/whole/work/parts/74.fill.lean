/-! the reference: a row's table -/
def vcn : Vl → Nat
  | none => 0
  | some (_, n, _) => min n 1000
theorem vcn_le (x : Vl) : vcn x ≤ 1000 := by
  match x with
  | none => exact Nat.zero_le _
  | some (_, n, _) => exact Nat.min_le_right _ _
theorem vt_UL (G : Cx) (t : List Nat) (k : Nat) : UL G [t] k = vt G t k := vadd_n _
theorem vt_bd {G : Cx} (hG : Gok G) {t : List Nat} {k c n p : Nat} (hk : k ≤ cN G) (h : vt G t k = some (c, n, p)) : c ≤ 16 * (cN G - k) := by
  rw [← vt_UL] at h
  exact UL_bd hG (cN G - k) k [t] c n p (by omega) (Or.inr trivial) h
def rowL (ln sr : Nat → Int32) (r : Nat) : List Nat := (List.range (ln r).toNatClampNeg).map (fun i => (sr (6 * r + i)).toNatClampNeg)
theorem rowL_len {ln sr : Nat → Int32} {r n : Nat} (h : ln r = nI n) (hn : n ≤ 6) : (rowL ln sr r).length = n := by
  unfold rowL
  rw [List.length_map, List.length_range, h, nI_clamp (by omega)]
theorem rowL_d {ln sr : Nat → Int32} {r n i : Nat} (h : ln r = nI n) (hn : n ≤ 6) (hi : i < n) : (rowL ln sr r).drop i = (sr (6 * r + i)).toNatClampNeg :: (rowL ln sr r).drop (i + 1) := by
  have hl := rowL_len (sr := sr) h hn
  rw [List.drop_eq_getElem_cons (by omega)]
  congr 1
  unfold rowL
  rw [List.getElem_map, List.getElem_range]
def fr (v : xV) (C F : Nat → Int32) : xV := v_A (v_A v 114 C) 115 F
theorem fr_115 (v : xV) (C F F' : Nat → Int32) : v_A (fr v C F) 115 F' = fr v C F' := by unfold fr; rw [vA_s]
theorem fr_114 (v : xV) (C F C' : Nat → Int32) : v_A (fr v C F) 114 C' = fr v C' F := by unfold fr; rw [vA_c _ (i := 114) (j := 115) (by decide), vA_s]
theorem fr_self (v : xV) : fr v (gA v 114) (gA v 115) = v := by
  unfold fr
  rw [vAself, vAself]
/-- one cell of the table -/
def cellM (C F : Nat → Int32) (j : Nat) (x : Vl) : Prop := C j = eM (vc x) ∧ F j = nI (vcn x)
theorem eM_le {x : Vl} {m : Nat} (h : ∀ c n p, x = some (c, n, p) → c ≤ m) (hm : m < 100000000) : (nI 100000000 ≤ eM (vc x) ↔ x = none) := by
  match x with
  | none => exact ⟨fun _ => rfl, fun _ => by show nI 100000000 ≤ nI 100000000; decide⟩
  | some (c, n, p) =>
    have := h c n p rfl
    show nI 100000000 ≤ nI c ↔ _
    rw [nI_leI (by decide) (by omega)]
    exact ⟨fun h => by omega, fun h => by cases h⟩
theorem k_fillRow {E : Nat × (Nat → Int32)} {d : Nat} {v : xV} {r n N W : Nat} {lc : Nat → Nat → Option Nat} {Q : xV → Prop} (hW : WordM v W) (hG : Gok (Gm v lc N)) (hN2 : N ≤ 24) (hr : r < 256) (hn : gA v 96 r = nI n) (hn6 : n ≤ 6) (hsr : ∀ i, i < n → ∃ z, z < 5 ∧ gA v 97 (6 * r + i) = nI z) (hWC : WC (Gm v lc N) (gA v 113))
    (kk : ∀ C F, (∀ i k, i ≤ n → k ≤ N → cellM C F (175 * r + 25 * i + k) (vt (Gm v lc N) ((rowL (gA v 96) (gA v 97) r).drop i) k)) → (∀ j, ¬ (175 * r ≤ j ∧ j < 175 * r + 175) → C j = gA v 114 j ∧ F j = gA v 115 j) → Q (fr v C F)) : KV E (d + 1) 184 [.ref 80, .int (nI r), .int (nI N)] v Q := by
  obtain ⟨hW1, hW2, hW3, hW4, hW5⟩ := hW
  have hcN : cN (Gm v lc N) = N := rfl
  have hcW : cW (Gm v lc N) = W := by
    show (gI v 80 20).toNatClampNeg = W
    rw [hW1, nI_clamp (by omega)]
  obtain ⟨row, hrow⟩ : ∃ row, row = rowL (gA v 96) (gA v 97) r := ⟨_, rfl⟩
  have rl : row.length = n := by rw [hrow]; exact rowL_len hn hn6
  have rd : ∀ i, i < n → row.drop i = (gA v 97 (6 * r + i)).toNatClampNeg :: row.drop (i + 1) := fun i hi => by rw [hrow]; exact rowL_d hn hn6 hi
  rw [← hrow] at kk
  clear hrow
  -- the rows above the last
  have up : ∀ i, i ≤ n → ∀ C F, (∀ i' k, i ≤ i' → i' ≤ n → k ≤ N → cellM C F (175 * r + 25 * i' + k) (vt (Gm v lc N) (row.drop i') k)) → (∀ j, ¬ (175 * r ≤ j ∧ j < 175 * r + 175) → C j = gA v 114 j ∧ F j = gA v 115 j) → RV E (d + 1) 184 75 [(0, .ref 80), (1, .int (nI r)), (2, .int (nI N)), (4, .int (nI i - nI 1))] (fr v C F) Q := by
    intro i
    induction i with
    | zero => exact fun _ C F h1 h2 => w_X12_fillRow_75 ⟨fun _ => kk C F (fun i k hi hk => h1 i k (Nat.zero_le _) hi hk) h2, fun h => absurd (by decide) h⟩
    | succ i ih =>
      intro hi C F h1 h2
      rw [nI_sub (by omega), Nat.add_sub_cancel]
      refine w_X12_fillRow_75 ⟨fun h => absurd h (nz_lt (by omega)), fun _ => ?_⟩
      obtain ⟨z, hz, ez⟩ := hsr i (by omega)
      have hdrop : row.drop i = z :: row.drop (i + 1) := by
        rw [rd i (by omega), ez, nI_clamp (by omega)]
      have cells : ∀ k, k ≤ N + 1 → ∀ C F, (∀ i' k', i + 1 ≤ i' → i' ≤ n → k' ≤ N → cellM C F (175 * r + 25 * i' + k') (vt (Gm v lc N) (row.drop i') k')) → (∀ k', k' < k → cellM C F (175 * r + 25 * i + k') (vt (Gm v lc N) (row.drop i) k')) → (∀ j, ¬ (175 * r ≤ j ∧ j < 175 * r + 175) → C j = gA v 114 j ∧ F j = gA v 115 j) → RV E (d + 1) 184 83 [(0, .ref 80), (1, .int (nI r)), (2, .int (nI N)), (4, .int (nI i)), (5, .int (nI k))] (fr v C F) Q := by
        intro k hk
        refine lp_up (n := N + 1) (P := fun k => ∀ C F, (∀ i' k', i + 1 ≤ i' → i' ≤ n → k' ≤ N → cellM C F (175 * r + 25 * i' + k') (vt (Gm v lc N) (row.drop i') k')) → (∀ k', k' < k → cellM C F (175 * r + 25 * i + k') (vt (Gm v lc N) (row.drop i) k')) → (∀ j, ¬ (175 * r ≤ j ∧ j < 175 * r + 175) → C j = gA v 114 j ∧ F j = gA v 115 j) → RV E (d + 1) 184 83 [(0, .ref 80), (1, .int (nI r)), (2, .int (nI N)), (4, .int (nI i)), (5, .int (nI k))] (fr v C F) Q) (fun C F g1 g2 g3 => w_X12_fillRow_83 ⟨fun _ => ?_, fun h => absurd (nI_lt (by omega) (by omega)) h⟩) (fun k hk ih2 C F g1 g2 g3 => w_X12_fillRow_83 ⟨fun h => ?_, fun _ => ?_⟩) hk
        · rw [i_m1]
          refine ih (by omega) C F (fun i' k' a1 a2 a3 => ?_) g3
          by_cases e : i' = i
          · subst e
            exact g2 k' (by omega)
          · exact g1 i' k' (by omega) a2 a3
        · exfalso
          rw [nI_ltI (by omega) (by omega)] at h
          omega
        · -- the cell is stored
          have store : ∀ x, x = vt (Gm v lc N) (row.drop i) k → RV E (d + 1) 184 265 [(0, .ref 80), (1, .int (nI r)), (2, .int (nI N)), (4, .int (nI i)), (5, .int (nI k)), (6, .int (eM (vc x))), (7, .int (nI (vcn x)))] (fr v C F) Q := by
            intro x hx
            refine w_X12_fillRow_265 (KI.of ok_181 (Nat.le_of_ble_eq_true rfl) (w_X12_cellOf_0 ?_))
            simp (disch := omega) only [pk_mul, nI_add, nI_clamp, vp_t, true_and, fr_114]
            refine KI.of ok_181 (Nat.le_of_ble_eq_true rfl) (w_X12_cellOf_0 ?_)
            simp (disch := omega) only [pk_mul, nI_add, nI_clamp, vp_t, true_and, fr_115]
            refine ih2 (upd C (175 * r + 25 * i + k) (eM (vc x))) (upd F (175 * r + 25 * i + k) (nI (vcn x))) (fun i' k' a1 a2 a3 => ?_) (fun k' a1 => ?_) (fun j hj => ?_)
            · have := g1 i' k' a1 a2 a3
              exact ⟨(upd_n _ _ (by omega)).trans this.1, (upd_n _ _ (by omega)).trans this.2⟩
            · by_cases e : k' = k
              · rw [e, ← hx]
                exact ⟨upd_s _ _ _, upd_s _ _ _⟩
              · have := g2 k' (by omega)
                exact ⟨(upd_n _ _ (by omega)).trans this.1, (upd_n _ _ (by omega)).trans this.2⟩
            · have := g3 j hj
              exact ⟨(upd_n _ _ (by omega)).trans this.1, (upd_n _ _ (by omega)).trans this.2⟩
          by_cases hkN : k = N
          · have hnone : vt (Gm v lc N) (row.drop i) k = none := by
              rw [hdrop, vt_s, if_neg (by rw [hcN]; omega)]
            have st0 := store none hnone.symm
            refine w_X12_fillRow_100 ?_
            rw [show gI (fr v C F) 80 20 = nI W from hW1]
            refine ⟨fun _ => st0, fun _ => ⟨fun _ => st0, fun h => absurd (nI_le (by omega) (by omega)) h⟩⟩
          · have hkN2 : k < cN (Gm v lc N) := by rw [hcN]; omega
            have hvt : vt (Gm v lc N) (row.drop i) k = vS (fun w => if cs (Gm v lc N) w = z then tag w (cc (Gm v lc N) w k) (vt (Gm v lc N) (row.drop (i + 1)) (k + cl (Gm v lc N) w)) else none) W := by
              rw [hdrop, vt_s, if_pos hkN2, hcW]
            obtain ⟨f, hf⟩ : ∃ f, f = (fun w => if cs (Gm v lc N) w = z then tag w (cc (Gm v lc N) w k) (vt (Gm v lc N) (row.drop (i + 1)) (k + cl (Gm v lc N) w)) else none) := ⟨_, rfl⟩
            have hfw : ∀ w, f w = if cs (Gm v lc N) w = z then tag w (cc (Gm v lc N) w k) (vt (Gm v lc N) (row.drop (i + 1)) (k + cl (Gm v lc N) w)) else none := fun w => by rw [hf]
            rw [← hf] at hvt
            have hfb : ∀ w, w < W → ∀ c n p, f w = some (c, n, p) → c ≤ 384 := by
              intro w hw c n p e
              rw [hfw] at e
              split at e
              · obtain ⟨_, c', b, q, e1, e2, e3⟩ := tag_p e
                have := (hG w (by rw [hcW]; exact hw)).2 k c' e1
                rw [hcN] at this
                have hb := vt_bd hG (by rw [hcN]; omega) e2
                rw [hcN] at hb
                have := (hG w (by rw [hcW]; exact hw)).1
                omega
              · cases e
            clear hf
            have ws : ∀ w, w ≤ W → RV E (d + 1) 184 100 [(0, .ref 80), (1, .int (nI r)), (2, .int (nI N)), (4, .int (nI i)), (5, .int (nI k)), (6, .int (eM (vc (vS f w)))), (7, .int (nI (vcn (vS f w)))), (8, .int (nI w))] (fr v C F) Q := by
              intro w hw
              refine lp_up (n := W) (P := fun w => RV E (d + 1) 184 100 [(0, .ref 80), (1, .int (nI r)), (2, .int (nI N)), (4, .int (nI i)), (5, .int (nI k)), (6, .int (eM (vc (vS f w)))), (7, .int (nI (vcn (vS f w)))), (8, .int (nI w))] (fr v C F) Q) (w_X12_fillRow_100 ?_) (fun w hw ih3 => w_X12_fillRow_100 ?_) hw
              · rw [show gI (fr v C F) 80 20 = nI W from hW1]
                exact ⟨fun _ => store _ hvt.symm, fun h => absurd (nI_le (Nat.le_refl _) (by omega)) h⟩
              · obtain ⟨n1, hn1, en1⟩ := hW3 w hw
                obtain ⟨z1, hz1, ez1⟩ := hW5 w
                have e20 : gI (fr v C F) 80 20 = nI W := hW1
                have e86 : gA (fr v C F) 86 w = nI n1 := en1
                have e87 : gA (fr v C F) 87 w = nI z1 := ez1
                have e97 : gA (fr v C F) 97 (6 * r + i) = nI z := ez
                have e113 : gA (fr v C F) 113 (24 * w + k) = eM (cc (Gm v lc N) w k) := hWC w k (by rw [hcW]; exact hw) hkN2
                have ecs : cs (Gm v lc N) w = z1 := by
                  show (gA v 87 w).toNatClampNeg = z1
                  rw [ez1, nI_clamp (by omega)]
                have ecl : cl (Gm v lc N) w = n1 := by
                  show (gA v 86 w).toNatClampNeg = n1
                  rw [en1, nI_clamp (by omega)]
                have skip : f w = none → RV E (d + 1) 184 100 [(0, .ref 80), (1, .int (nI r)), (2, .int (nI N)), (4, .int (nI i)), (5, .int (nI k)), (6, .int (eM (vc (vS f w)))), (7, .int (nI (vcn (vS f w)))), (8, .int (nI (w + 1)))] (fr v C F) Q := by
                  intro h
                  rw [vS_s, h, vadd_n] at ih3
                  exact ih3
                simp (disch := omega) only [pk_mul, nI_add, nI_clamp, vp_t, true_and, e20, e86, e87, e97, e113, nI_leI, nI_eq]
                refine ⟨fun h => by omega, fun _ => ⟨fun h => by omega, fun _ => ⟨fun h => skip ?_, fun h => ?_⟩⟩⟩
                · rw [hfw, ecs, if_neg h]
                · cases ecc : cc (Gm v lc N) w k with
                  | none =>
                    refine ⟨fun h => absurd h (by decide), fun _ => skip ?_⟩
                    rw [hfw, ecc]
                    split <;> rfl
                  | some x =>
                    obtain ⟨b1, b2⟩ := (hG w (by rw [hcW]; exact hw)).2 k x ecc
                    rw [hcN, ecl] at b2
                    rw [ecl] at b1
                    refine ⟨fun _ => ?_, fun h => ?_⟩
                    · refine KI.of ok_181 (Nat.le_of_ble_eq_true rfl) (w_X12_cellOf_0 ?_)
                      obtain ⟨m1, m2⟩ := g1 (i + 1) (k + n1) (Nat.le_refl _) (by omega) b2
                      have m1 : gA (fr v C F) 114 (175 * r + 25 * (i + 1) + (k + n1)) = eM (vc (vt (Gm v lc N) (row.drop (i + 1)) (k + n1))) := m1
                      have m2 : gA (fr v C F) 115 (175 * r + 25 * (i + 1) + (k + n1)) = nI (vcn (vt (Gm v lc N) (row.drop (i + 1)) (k + n1))) := m2
                      simp (disch := omega) only [pk_mul, nI_add, nI_clamp, vp_t, true_and, e113, m1, forall_eq, ecc]
                      have hft : f w = tag w (some x) (vt (Gm v lc N) (row.drop (i + 1)) (k + n1)) := by rw [hfw, ecs, if_pos h, ecc, ecl]
                      match ev : vt (Gm v lc N) (row.drop (i + 1)) (k + n1) with
                      | none =>
                        refine ⟨fun _ => skip (by rw [hft, ev]; rfl), fun h => absurd ?_ h⟩
                        show nI 100000000 ≤ nI x + nI 100000000
                        rw [nI_add, nI_leI (by decide) (by omega)]
                        omega
                      | some (b, bn, bq) =>
                        have hb := vt_bd hG (by rw [hcN]; omega) ev
                        rw [hcN] at hb
                        have hft : f w = some (x + b, bn, w) := by rw [hft, ev]; rfl
                        rw [show eM (some x) + eM (vc (some (b, bn, bq))) = nI (x + b) from nI_add _ _]
                        rw [ev] at m2
                        have m2 : gA (fr v C F) 115 (175 * r + 25 * (i + 1) + (k + n1)) = nI (min bn 1000) := m2
                        refine ⟨fun h => ?_, fun _ => ?_⟩
                        · exfalso
                          rw [nI_leI (by decide) (by omega)] at h
                          omega
                        rw [vS_s, hft] at ih3
                        -- the sum of how many
                        have add : ∀ n0 c9 : Nat, n0 ≤ 1000 → (∀ x' : Vl, x' = vadd (vS f w) (some (x + b, bn, w)) → eM (vc x') = nI c9 ∧ vcn x' = min (n0 + min bn 1000) 1000) → RV E (d + 1) 184 230 [(0, .ref 80), (1, .int (nI r)), (2, .int (nI N)), (4, .int (nI i)), (5, .int (nI k)), (7, .int (nI n0)), (8, .int (nI w)), (9, .int (nI (175 * r + 25 * (i + 1) + (k + n1)))), (10, .int (nI c9))] (fr v C F) Q := by
                          intro n0 c9 hn0 hx'
                          obtain ⟨q1, q2⟩ := hx' _ rfl
                          rw [q1, q2] at ih3
                          have h1000 : min bn 1000 ≤ 1000 := Nat.min_le_right _ _
                          refine w_X12_fillRow_230 ?_
                          simp (disch := omega) only [nI_add, nI_clamp, vp_t, true_and, m2, forall_eq, nI_leI]
                          refine ⟨fun h => ?_, fun h => ?_⟩
                          · rw [show min (n0 + min bn 1000) 1000 = n0 + min bn 1000 by omega] at ih3
                            exact ih3
                          · rw [show min (n0 + min bn 1000) 1000 = 1000 by omega] at ih3
                            exact ih3
                        match e0 : vS f w with
                        | none =>
                          refine ⟨fun _ => ⟨fun h => ?_, fun _ => add 0 (x + b) (by omega) (fun x' hx' => ?_)⟩, fun h => absurd (show nI (x + b) ≤ nI 100000000 from nI_le (by omega) (by decide)) h⟩
                          · exfalso
                            have h : nI 100000000 ≤ nI (x + b) := h
                            rw [nI_leI (by decide) (by omega)] at h
                            omega
                          rw [hx', e0, n_vadd]
                          refine ⟨rfl, ?_⟩
                          show min bn 1000 = _
                          omega
                        | some (c0, n0, p0) =>
                          obtain ⟨i0, hi0, m0, p0', e00⟩ := vS_mem c0 n0 p0 e0
                          have hc0 := hfb i0 (by omega) c0 m0 p0' e00
                          have L1 : nI (x + b) ≤ eM (vc (some (c0, n0, p0))) ↔ x + b ≤ c0 := nI_leI (by omega) (by omega)
                          have L2 : eM (vc (some (c0, n0, p0))) ≤ nI (x + b) ↔ c0 ≤ x + b := nI_leI (by omega) (by omega)
                          rw [L1, L2]
                          refine ⟨fun h1 => ⟨fun h2 => add (min n0 1000) (x + b) (by omega) (fun x' hx' => ?_), fun h2 => add 0 (x + b) (by omega) (fun x' hx' => ?_)⟩, fun h1 => ?_⟩
                          · obtain rfl : c0 = x + b := by omega
                            rw [hx', e0, vadd_eq]
                            refine ⟨rfl, ?_⟩
                            show min (n0 + bn) 1000 = _
                            omega
                          · rw [hx', e0, vadd_gt (by omega)]
                            refine ⟨rfl, ?_⟩
                            show min bn 1000 = _
                            omega
                          · rw [e0, vadd_lt (by omega)] at ih3
                            exact ih3
                    · exfalso
                      apply h
                      show nI x < nI 100000000
                      rw [nI_ltI (by omega) (by decide)]
                      omega
            exact ws 0 (Nat.zero_le _)
      exact cells 0 (Nat.zero_le _) C F h1 (fun k' h => by omega) h2
  -- the last
  have first : ∀ k, k ≤ N + 1 → ∀ C F, (∀ k', k' < k → cellM C F (175 * r + 25 * n + k') (vt (Gm v lc N) (row.drop n) k')) → (∀ j, ¬ (175 * r ≤ j ∧ j < 175 * r + 175) → C j = gA v 114 j ∧ F j = gA v 115 j) → RV E (d + 1) 184 10 [(0, .ref 80), (1, .int (nI r)), (2, .int (nI N)), (3, .int (nI n)), (4, .int (nI k))] (fr v C F) Q := by
    intro k hk
    refine lp_up (n := N + 1) (P := fun k => ∀ C F, (∀ k', k' < k → cellM C F (175 * r + 25 * n + k') (vt (Gm v lc N) (row.drop n) k')) → (∀ j, ¬ (175 * r ≤ j ∧ j < 175 * r + 175) → C j = gA v 114 j ∧ F j = gA v 115 j) → RV E (d + 1) 184 10 [(0, .ref 80), (1, .int (nI r)), (2, .int (nI N)), (3, .int (nI n)), (4, .int (nI k))] (fr v C F) Q) (fun C F g1 g2 => w_X12_fillRow_10 ⟨fun _ y ey => ?_, fun h => absurd (nI_lt (by omega) (by omega)) h⟩) (fun k hk ih C F g1 g2 => w_X12_fillRow_10 ⟨fun h => ?_, fun _ => KI.of ok_181 (Nat.le_of_ble_eq_true rfl) (w_X12_cellOf_0 ?_)⟩) hk
    · subst ey
      refine up n (Nat.le_refl _) C F (fun i' k a1 a2 a3 => ?_) g2
      obtain rfl : i' = n := by omega
      exact g1 k (by omega)
    · exfalso
      rw [nI_ltI (by omega) (by omega)] at h
      omega
    · have hdn : row.drop n = [] := List.drop_eq_nil_of_le (by omega)
      have nx : ∀ c f : Int32, c = eM (vc (vt (Gm v lc N) (row.drop n) k)) → f = nI (vcn (vt (Gm v lc N) (row.drop n) k)) → RV E (d + 1) 184 10 [(0, .ref 80), (1, .int (nI r)), (2, .int (nI N)), (3, .int (nI n)), (4, .int (nI (k + 1)))] (fr v (upd C (175 * r + 25 * n + k) c) (upd F (175 * r + 25 * n + k) f)) Q := by
        intro c f hc hf
        refine ih _ _ (fun k' a1 => ?_) (fun j hj => ?_)
        · by_cases e : k' = k
          · rw [e, hc, hf]
            exact ⟨upd_s _ _ _, upd_s _ _ _⟩
          · have := g1 k' (by omega)
            exact ⟨(upd_n _ _ (by omega)).trans this.1, (upd_n _ _ (by omega)).trans this.2⟩
        · have := g2 j hj
          exact ⟨(upd_n _ _ (by omega)).trans this.1, (upd_n _ _ (by omega)).trans this.2⟩
      simp (disch := omega) only [pk_mul, nI_add, nI_clamp, vp_t, true_and, nI_eq, fr_114]
      refine ⟨fun h => KI.of ok_181 (Nat.le_of_ble_eq_true rfl) (w_X12_cellOf_0 ?_), fun h => KI.of ok_181 (Nat.le_of_ble_eq_true rfl) (w_X12_cellOf_0 ?_)⟩
      · simp (disch := omega) only [pk_mul, nI_add, nI_clamp, vp_t, true_and, fr_115]
        have hv : vt (Gm v lc N) (row.drop n) k = none := by rw [hdn, vt_0, hcN, if_neg h]
        exact ⟨fun _ => nx _ _ (by rw [hv]; rfl) (by rw [hv]; rfl), fun h2 => absurd h2 h⟩
      · simp (disch := omega) only [pk_mul, nI_add, nI_clamp, vp_t, true_and, fr_115]
        have hv : vt (Gm v lc N) (row.drop n) k = some (0, 1, 0) := by rw [hdn, vt_0, hcN, if_pos h]
        exact ⟨fun h2 => absurd h h2, fun _ => nx _ _ (by rw [hv]; rfl) (by rw [hv]; rfl)⟩
  refine KV.of ok_184 (Nat.le_of_ble_eq_true rfl) (w_X12_fillRow_0 ⟨vp_in_nI (by omega) (by decide), fun y ey => ?_⟩)
  have ey : y = nI n := by rw [ey, nI_clamp (by omega), hn]
  subst ey
  have := first 0 (Nat.zero_le _) (gA v 114) (gA v 115) (fun k' h => by omega) (fun _ _ => ⟨rfl, rfl⟩)
  rw [fr_self] at this
  exact this

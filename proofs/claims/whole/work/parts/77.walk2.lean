/-! the reference: walkBest, workOut, workAll -/
/-- all that the tables of the reference rest on -/
def TabsM (v : xV) (G : Cx) (N W R : Nat) : Prop := (cN G = N ∧ N ≤ 24 ∧ cW G = W ∧ W ≤ 80 ∧ Gok G) ∧ (∀ w, w < W → gA v 87 w = nI (cs G w)) ∧ (∀ w, w < W → gA v 86 w = nI (cl G w)) ∧ WC G (gA v 113) ∧ RowsM v R ∧ ∀ r, r < R → TabOK v G (gA v 114) (gA v 115) r
theorem k_isBy {E : Nat × (Nat → Int32)} {d : Nat} {v : xV} {G : Cx} {N W R r w i k left : Nat} {Q : Int32 → xV → Prop} (hT : TabsM v G N W R) (hr : r < R) (hw : w < W) (hi : i ≤ 6) (hk : k < N) (hl : left ≤ 384) (k1 : isByP v G r w i k left → Q (nI 1) v) (k2 : ¬ isByP v G r w i k left → Q (nI 0) v) : KI E (d + 1) 186 [.ref 80, .int (nI r), .int (nI w), .int (nI i), .int (nI k), .int (nI left)] v Q := by
  obtain ⟨⟨c1, c2, c3, c4, c5⟩, t1, t2, t3, ⟨t4, t5, t6⟩, t7⟩ := hT
  obtain ⟨n, n1, n2, n3⟩ := t6 r hr
  have hrl : (rw1 v r).length = n := rowL_len n2 n1
  refine KI.of ok_186 (Nat.le_of_ble_eq_true rfl) (w_X12_isBy_0 ?_)
  simp (disch := omega) only [nI_clamp, vp_t, true_and, n2, nI_leI]
  refine ⟨fun h => k2 (fun g => ?_), fun h => ?_⟩
  · have g1 := g.1
    rw [List.getElem?_eq_none (by omega)] at g1
    cases g1
  obtain ⟨z, hz, ez⟩ := n3 i (by omega)
  have hri : (rw1 v r)[i]? = some z := by
    unfold rw1 rowL
    rw [n2, nI_clamp (by omega), List.getElem?_map, List.getElem?_range (by omega)]
    show some (gA v 97 (6 * r + i)).toNatClampNeg = some z
    rw [ez, nI_clamp (by omega)]
  have hcs := t1 w hw
  have hcl := t2 w hw
  obtain ⟨⟨hs5, hc1, hc10⟩, hcc⟩ := c5 w (by rw [c3]; exact hw)
  have e113 := t3 w k (by rw [c3]; exact hw) (by rw [c1]; exact hk)
  simp (disch := omega) only [pk_mul, nI_add, nI_clamp, vp_t, true_and, ez, hcs, hcl, e113, nI_eq]
  refine ⟨fun h2 => k2 (fun g => ?_), fun h2 => ?_⟩
  · rw [g.1, Option.some.injEq] at hri
    exact h2 hri.symm
  match ecc : cc G w k with
  | none =>
    refine ⟨fun _ => k2 (fun g => ?_), fun h => absurd (by decide) h⟩
    obtain ⟨cw, b, g1, _⟩ := g.2
    rw [ecc] at g1
    cases g1
  | some cw =>
    obtain ⟨b1, b2⟩ := hcc k cw ecc
    rw [c1] at b2
    refine ⟨fun h3 => ?_, fun _ => KI.of ok_181 (Nat.le_of_ble_eq_true rfl) (w_X12_cellOf_0 ?_)⟩
    · exfalso
      have h3 : nI 100000000 ≤ nI cw := h3
      rw [nI_leI (by decide) (by omega)] at h3
      omega
    obtain ⟨m1, m2⟩ := t7 r hr (i + 1) (k + cl G w) (by omega) (by rw [c1]; omega)
    simp (disch := omega) only [pk_mul, nI_add, nI_clamp, vp_t, true_and, m1]
    match ev : vt G ((rw1 v r).drop (i + 1)) (k + cl G w) with
    | none =>
      refine ⟨fun _ => k2 (fun g => ?_), fun h3 => ?_⟩
      · obtain ⟨cw', b, g1, g2, g3⟩ := g.2
        rw [ev] at g2
        cases g2
      · exfalso
        have h3 : nI cw + nI 100000000 = nI left := h3
        rw [nI_add, nI_eq (by omega) (by omega)] at h3
        omega
    | some (b, bn, bp) =>
      have hb := vt_bd c5 (by rw [c1]; omega) ev
      rw [c1] at hb
      rw [show eM (some cw) + eM (vc (some (b, bn, bp))) = nI (cw + b) from nI_add _ _, nI_eq (by omega) (by omega)]
      refine ⟨fun h3 => k2 (fun g => ?_), fun h3 => k1 ⟨by rw [hri, h2], cw, b, ecc, by rw [ev]; rfl, h3⟩⟩
      obtain ⟨cw', b', g1, g2, g3⟩ := g.2
      rw [ecc, Option.some.injEq] at g1
      rw [ev] at g2
      have g2 : some b = some b' := g2
      rw [Option.some.injEq] at g2
      omega
theorem k_goesOn {E : Nat × (Nat → Int32)} {d : Nat} {v : xV} {G : Cx} {N W R w i k left : Nat} {Q : Int32 → xV → Prop} (hT : TabsM v G N W R) (hw : w < W) (hi : i ≤ 6) (hk : k < N) (hl : left ≤ 384) (k1 : (∃ r, r < R ∧ ¬ gA v 120 r = nI 0 ∧ isByP v G r w i k left) → Q (nI 1) v) (k2 : (¬ ∃ r, r < R ∧ ¬ gA v 120 r = nI 0 ∧ isByP v G r w i k left) → Q (nI 0) v) : KI E (d + 2) 187 [.ref 80, .int (nI w), .int (nI i), .int (nI k), .int (nI left)] v Q := by
  have hR := hT.2.2.2.2.1
  have hR1 := hR.1
  have hR2 := hR.2.1
  have step : ∀ r, r ≤ R → (∀ r', r' < r → ¬ (¬ gA v 120 r' = nI 0 ∧ isByP v G r' w i k left)) → RI E (d + 2) 187 3 [(0, .ref 80), (1, .int (nI w)), (2, .int (nI i)), (3, .int (nI k)), (4, .int (nI left)), (5, .int (nI r))] v Q := by
    intro r hr
    refine lp_up (n := R) (P := fun r => (∀ r', r' < r → ¬ (¬ gA v 120 r' = nI 0 ∧ isByP v G r' w i k left)) → RI E (d + 2) 187 3 [(0, .ref 80), (1, .int (nI w)), (2, .int (nI i)), (3, .int (nI k)), (4, .int (nI left)), (5, .int (nI r))] v Q) (fun h => w_X12_goesOn_3 ?_) (fun r hr ih h => w_X12_goesOn_3 ?_) hr
    · rw [hR1]
      exact ⟨fun _ => k2 (fun ⟨r, h1, h2⟩ => h r h1 h2), fun z => absurd (nI_le (Nat.le_refl _) (by omega)) z⟩
    · simp (disch := omega) only [nI_clamp, vp_t, true_and, hR1, nI_leI, nI_add]
      have nx : ¬ (¬ gA v 120 r = nI 0 ∧ isByP v G r w i k left) → RI E (d + 2) 187 3 [(0, .ref 80), (1, .int (nI w)), (2, .int (nI i)), (3, .int (nI k)), (4, .int (nI left)), (5, .int (nI (r + 1)))] v Q := by
        intro hn
        refine ih (fun r' hr' => ?_)
        by_cases e : r' = r
        · rw [e]
          exact hn
        · exact h r' (by omega)
      refine ⟨fun z => by omega, fun _ => ⟨fun h0 => nx (fun g => g.1 h0), fun h0 => k_isBy hT hr hw hi hk hl (fun hb => ⟨fun z => absurd z nI_01, fun _ => k1 ⟨r, hr, h0, hb⟩⟩) (fun hb => ⟨fun _ => nx (fun g => hb g.2), fun z => absurd rfl z⟩)⟩⟩
  exact KI.of ok_187 (Nat.le_of_ble_eq_true rfl) (w_X12_goesOn_0 (step 0 (Nat.zero_le _) (fun r' h => by omega)))
def wb (v : xV) (A H : Nat → Int32) : xV := v_A (v_A v 116 A) 120 H
theorem wb_120 (v : xV) (A H H' : Nat → Int32) : v_A (wb v A H) 120 H' = wb v A H' := by unfold wb; rw [vA_s]
theorem wb_116 (v : xV) (A H A' : Nat → Int32) : v_A (wb v A H) 116 A' = wb v A' H := by unfold wb; rw [vA_c _ (i := 116) (j := 120) (by decide), vA_s]
theorem rw1_wb (v : xV) (A H : Nat → Int32) : rw1 (wb v A H) = rw1 v := rfl
theorem isByP_wb {v : xV} {A H : Nat → Int32} {G : Cx} {r w i k left : Nat} : isByP (wb v A H) G r w i k left ↔ isByP v G r w i k left := by
  unfold isByP
  rw [rw1_wb]
theorem TabsM_wb {v : xV} {A H : Nat → Int32} {G : Cx} {N W R : Nat} (h : TabsM v G N W R) : TabsM (wb v A H) G N W R := by
  obtain ⟨h1, h2, h3, h4, h5, h6⟩ := h
  refine ⟨h1, h2, h3, h4, h5, fun r hr => ?_⟩
  have := h6 r hr
  unfold TabOK at this ⊢
  rw [rw1_wb]
  exact this
theorem k_isByW {E : Nat × (Nat → Int32)} {d : Nat} {v : xV} {A H : Nat → Int32} {G : Cx} {N W R r w i k left : Nat} {Q : Int32 → xV → Prop} (hT : TabsM v G N W R) (hr : r < R) (hw : w < W) (hi : i ≤ 6) (hk : k < N) (hl : left ≤ 384) (k1 : isByP v G r w i k left → Q (nI 1) (wb v A H)) (k2 : ¬ isByP v G r w i k left → Q (nI 0) (wb v A H)) : KI E (d + 1) 186 [.ref 80, .int (nI r), .int (nI w), .int (nI i), .int (nI k), .int (nI left)] (wb v A H) Q :=
  k_isBy (TabsM_wb hT) hr hw hi hk hl (fun h => k1 (isByP_wb.mp h)) (fun h => k2 (fun g => h (isByP_wb.mpr g)))
theorem k_goesOnW {E : Nat × (Nat → Int32)} {d : Nat} {v : xV} {A H : Nat → Int32} {G : Cx} {N W R w i k left : Nat} {Q : Int32 → xV → Prop} (hT : TabsM v G N W R) (hw : w < W) (hi : i ≤ 6) (hk : k < N) (hl : left ≤ 384) (k1 : (∃ r, r < R ∧ ¬ H r = nI 0 ∧ isByP v G r w i k left) → Q (nI 1) (wb v A H)) (k2 : (¬ ∃ r, r < R ∧ ¬ H r = nI 0 ∧ isByP v G r w i k left) → Q (nI 0) (wb v A H)) : KI E (d + 2) 187 [.ref 80, .int (nI w), .int (nI i), .int (nI k), .int (nI left)] (wb v A H) Q := by
  have e120 : gA (wb v A H) 120 = H := rfl
  refine k_goesOn (TabsM_wb hT) hw hi hk hl ?_ ?_
  · rw [e120]
    rintro ⟨r, h1, h2, h3⟩
    exact k1 ⟨r, h1, h2, isByP_wb.mp h3⟩
  · rw [e120]
    intro h
    refine k2 (fun ⟨r, h1, h2, h3⟩ => h ⟨r, h1, h2, isByP_wb.mpr h3⟩)
def LeftOK (v : xV) (G : Cx) (R : Nat) (pre : List Nat) (k left : Nat) (H : Nat → Int32) : Prop := ∀ r, r < R → (H r = nI 1 ∧ lfP v G pre r k left) ∨ (H r = nI 0 ∧ ¬ lfP v G pre r k left)
theorem k_walkBest {E : Nat × (Nat → Int32)} {d : Nat} {v : xV} {G : Cx} {N W R s c n p : Nat} {Q : xV → Prop} (hs : s < 20) (hT : TabsM v G N W R) (hU : UL G (mrows v R) 0 = some (c, n, p)) (hL : LeftOK v G R [] 0 c (gA v 120)) (h6 : ∀ t, t ∈ mrows v R → t.length ≤ 6)
    (kk : ∀ H, Q (v_A (wb v (wpF (gA v 116) s (rdl G 6 (mrows v R) 0)) H) 117 (upd (gA v 117) s (nI (rdl G 6 (mrows v R) 0).length)))) : KV E (d + 3) 185 [.ref 80, .int (nI s), .int (nI N), .int (nI c)] v Q := by
  obtain ⟨⟨c1, c2, c3, c4, c5⟩, t1, t2, t3, ⟨t4, t5, t6⟩, t7⟩ := id hT
  have loop : ∀ m pre k left n p H, pre.length + m = 6 → k ≤ N → (∀ t, t ∈ ders (pre.map (cs G)) (mrows v R) → t.length ≤ m) → UL G (ders (pre.map (cs G)) (mrows v R)) k = some (left, n, p) → LeftOK v G R pre k left H → (∀ H, Q (v_A (wb v (wpF (gA v 116) s (pre ++ rdl G m (ders (pre.map (cs G)) (mrows v R)) k)) H) 117 (upd (gA v 117) s (nI (pre ++ rdl G m (ders (pre.map (cs G)) (mrows v R)) k).length)))) → RV E (d + 3) 185 9 [(0, .ref 80), (1, .int (nI s)), (2, .int (nI N)), (4, .int (nI left)), (5, .int (nI k)), (6, .int (nI pre.length))] (wb v (wpF (gA v 116) s pre) H) Q := by
    intro m
    induction m with
    | zero =>
      intro pre k left n p H hm hk ht hU hL hQ
      have hkN : k = N := by
        rcases Nat.lt_or_ge k N with z | z
        · exfalso
          obtain ⟨_, cw, b, m', q', e1, e2, e3⟩ := UL_pick (by rw [c1]; exact z) hU
          obtain ⟨t', htm, _⟩ := UL_mem e2
          have := ht _ (der_m.mp htm)
          rw [List.length_cons] at this
          omega
        · omega
      refine w_X12_walkBest_9 ⟨fun _ => ⟨vp_in_nI hs (by decide), ?_⟩, fun z => absurd (nI_le (by omega) (by omega)) z⟩
      have := hQ H
      rw [rdl_0, List.append_nil] at this
      rw [nI_clamp (by omega)]
      exact this
    | succ m ih =>
      intro pre k left n p H hm hk ht hU hL hQ
      refine w_X12_walkBest_9 ?_
      rw [nI_leI (by omega) (by omega)]
      refine ⟨fun hle => ⟨vp_in_nI hs (by decide), ?_⟩, fun hlt => ?_⟩
      · have := hQ H
        rw [rdl_e (by rw [c1]; omega), List.append_nil] at this
        rw [nI_clamp (by omega)]
        exact this
      have hkN : k < cN G := by rw [c1]; omega
      have hbd := UL_bd c5 (N - k) k _ left n p (by rw [c1]; omega) (Or.inr trivial) hU
      rw [c1] at hbd
      obtain ⟨hp, cw, b, m', q', e1, e2, e3⟩ := UL_pick hkN hU
      rw [c3] at hp
      obtain ⟨⟨hz5, hc1, hc10⟩, hcc⟩ := c5 p (by rw [c3]; exact hp)
      obtain ⟨b1, b2⟩ := hcc k cw e1
      rw [c1] at b2
      have hH : ∀ r, r < R → (¬ H r = nI 0 ↔ lfP v G pre r k left) := by
        intro r hr
        rcases hL r hr with ⟨z1, z2⟩ | ⟨z1, z2⟩
        · rw [z1]
          exact ⟨fun _ => z2, fun _ => nI_01⟩
        · rw [z1]
          exact ⟨fun z => absurd rfl z, fun z => absurd z z2⟩
      have hgo : ∀ w, w < W → ((∃ r, r < R ∧ ¬ H r = nI 0 ∧ isByP v G r w pre.length k left) ↔ ∃ cw b m q, cc G w k = some cw ∧ UL G (der (cs G w) (ders (pre.map (cs G)) (mrows v R))) (k + cl G w) = some (b, m, q) ∧ cw + b = left) := by
        intro w hw
        rw [← goes_iff hkN hU (by rw [c3]; exact hw)]
        constructor
        · rintro ⟨r, h1, h2, h3⟩
          exact ⟨r, h1, (hH r h1).mp h2, h3⟩
        · rintro ⟨r, h1, h2, h3⟩
          exact ⟨r, h1, (hH r h1).mpr h2, h3⟩
      have hrd := rdl_s (n := m) hkN hU
      rw [hrd, List.append_cons] at hQ
      -- those that are left after the word
      have rows : ∀ r, r ≤ R → ∀ H', (∀ r', r' < r → (H' r' = nI 1 ∧ lfP v G (pre ++ [p]) r' (k + cl G p) b) ∨ (H' r' = nI 0 ∧ ¬ lfP v G (pre ++ [p]) r' (k + cl G p) b)) → (∀ r', r ≤ r' → H' r' = H r') → RV E (d + 3) 185 42 [(0, .ref 80), (1, .int (nI s)), (2, .int (nI N)), (4, .int (nI left)), (5, .int (nI k)), (6, .int (nI pre.length)), (7, .int (nI p)), (8, .int (nI r))] (wb v (wpF (gA v 116) s pre) H') Q := by
        intro r hr
        refine lp_up (n := R) (P := fun r => ∀ H', (∀ r', r' < r → (H' r' = nI 1 ∧ lfP v G (pre ++ [p]) r' (k + cl G p) b) ∨ (H' r' = nI 0 ∧ ¬ lfP v G (pre ++ [p]) r' (k + cl G p) b)) → (∀ r', r ≤ r' → H' r' = H r') → RV E (d + 3) 185 42 [(0, .ref 80), (1, .int (nI s)), (2, .int (nI N)), (4, .int (nI left)), (5, .int (nI k)), (6, .int (nI pre.length)), (7, .int (nI p)), (8, .int (nI r))] (wb v (wpF (gA v 116) s pre) H') Q) (fun H' g1 g2 => w_X12_walkBest_42 ?_) (fun r hr ihr H' g1 g2 => w_X12_walkBest_42 ?_) hr
        · have e30 : gI (wb v (wpF (gA v 116) s pre) H') 80 30 = nI R := t4
          have e113 : gA (wb v (wpF (gA v 116) s pre) H') 113 (24 * p + k) = nI cw := by
            have := t3 p k (by rw [c3]; exact hp) hkN
            rw [e1] at this
            exact this
          have e86 : gA (wb v (wpF (gA v 116) s pre) H') 86 p = nI (cl G p) := t2 p hp
          have e116 : upd (gA (wb v (wpF (gA v 116) s pre) H') 116) (6 * s + pre.length) (nI p) = wpF (gA v 116) s (pre ++ [p]) := wpF_s _ _ _ _
          rw [e30]
          refine ⟨fun _ => ?_, fun z => absurd (nI_le (Nat.le_refl _) (by omega)) z⟩
          simp (disch := omega) only [pk_mul, nI_add, nI_clamp, vp_t, true_and, e113, e86, forall_eq, nI_sub, e116, wb_116]
          have el : left - cw = b := by omega
          rw [el]
          have hds : ders ((pre ++ [p]).map (cs G)) (mrows v R) = der (cs G p) (ders (pre.map (cs G)) (mrows v R)) := by
            rw [List.map_append]
            exact ders_s _ _ _
          have := ih (pre ++ [p]) (k + cl G p) b m' q' H' (by rw [List.length_append, List.length_singleton]; omega) b2 (fun t htm => ?_) (by rw [hds]; exact e2) g1 (by rw [hds]; exact hQ)
          · rw [List.length_append, List.length_singleton] at this
            exact this
          · rw [hds] at htm
            have := ht _ (der_m.mp htm)
            rw [List.length_cons] at this
            omega
        · have e30 : gI (wb v (wpF (gA v 116) s pre) H') 80 30 = nI R := t4
          have e120 : gA (wb v (wpF (gA v 116) s pre) H') 120 = H' := rfl
          have hli := left_iff (r := r) hkN hU (by rw [c3]; exact hp) hr e1 e3.symm
          have nx : ∀ z : Int32, (z = nI 1 ∧ lfP v G (pre ++ [p]) r (k + cl G p) b) ∨ (z = nI 0 ∧ ¬ lfP v G (pre ++ [p]) r (k + cl G p) b) → RV E (d + 3) 185 42 [(0, .ref 80), (1, .int (nI s)), (2, .int (nI N)), (4, .int (nI left)), (5, .int (nI k)), (6, .int (nI pre.length)), (7, .int (nI p)), (8, .int (nI (r + 1)))] (wb v (wpF (gA v 116) s pre) (upd H' r z)) Q := by
            intro z hz
            refine ihr _ (fun r' hr' => ?_) (fun r' hr' => ?_)
            · by_cases e : r' = r
              · rw [e, upd_s]
                exact hz
              · rw [upd_n _ _ e]
                exact g1 r' (by omega)
            · rw [upd_n _ _ (by omega)]
              exact g2 r' (by omega)
          simp (disch := omega) only [nI_clamp, vp_t, true_and, e30, e120, nI_leI, nI_add, wb_120]
          rw [g2 r (Nat.le_refl _)]
          refine ⟨fun z => by omega, fun _ => ⟨fun h0 => nx _ (Or.inr ⟨rfl, fun g => (hH r hr).mpr (hli.mp g).1 h0⟩), fun h0 => k_isByW hT hr hp (by omega) (by omega) (by omega) (fun hb => ?_) (fun hb => ?_)⟩⟩
          · rw [e120, wb_120, wb_120]
            exact ⟨fun z => absurd z nI_01, fun _ => nx _ (Or.inl ⟨rfl, hli.mpr ⟨(hH r hr).mp h0, hb⟩⟩)⟩
          · rw [e120, wb_120, wb_120]
            exact ⟨fun _ => nx _ (Or.inr ⟨rfl, fun g => hb (hli.mp g).2⟩), fun z => absurd rfl z⟩
      -- the word is found
      have find : ∀ w, w ≤ p → RV E (d + 3) 185 18 [(0, .ref 80), (1, .int (nI s)), (2, .int (nI N)), (4, .int (nI left)), (5, .int (nI k)), (6, .int (nI pre.length)), (7, .int (nI w))] (wb v (wpF (gA v 116) s pre) H) Q := by
        intro w hw
        refine lp_up (n := p) (P := fun w => RV E (d + 3) 185 18 [(0, .ref 80), (1, .int (nI s)), (2, .int (nI N)), (4, .int (nI left)), (5, .int (nI k)), (6, .int (nI pre.length)), (7, .int (nI w))] (wb v (wpF (gA v 116) s pre) H) Q) (w_X12_walkBest_18 (k_goesOnW hT hp (by omega) (by omega) (by omega) (fun g => ⟨fun _ => rows 0 (Nat.zero_le _) H (fun r' h => by omega) (fun _ _ => rfl), fun z => absurd z nI_01⟩) (fun g => absurd ((hgo p hp).mpr ⟨cw, b, m', q', e1, e2, e3.symm⟩) g))) (fun w hw ihw => w_X12_walkBest_18 (k_goesOnW hT (by omega) (by omega) (by omega) (by omega) (fun g => ?_) (fun g => ⟨fun z => absurd rfl z, fun _ => ?_⟩))) hw
        · exfalso
          obtain ⟨cw', b', m2, q2, f1, f2, f3⟩ := (hgo w (by omega)).mp g
          have := (UL_pick2 hkN hU w (by rw [c3]; omega) cw' b' m2 q2 f1 f2).2 f3
          omega
        · rw [nI_add]
          exact ihw
      exact find 0 (Nat.zero_le _)
  refine KV.of ok_185 (Nat.le_of_ble_eq_true rfl) (w_X12_walkBest_0 ?_)
  have := loop 6 [] 0 c n p (gA v 120) rfl (Nat.zero_le _) h6 hU hL kk
  rw [wpF_0] at this
  have e : wb v (gA v 116) (gA v 120) = v := by
    unfold wb
    rw [vAself, vAself]
  rw [e] at this
  exact this

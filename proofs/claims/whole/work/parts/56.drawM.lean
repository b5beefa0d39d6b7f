theorem k_drawM {E : Nat × (Nat → Int32)} {d : Nat} {v : xV} {x y : Int32} {S Dr s : Nat} {Q : Int32 → xV → Prop} (hs : gI v 80 3 = nI s) (h2 : s ≤ 240) (hS : gI v 80 50 = nI S) (hS2 : S ≤ 20) (hP : ∀ i, ∃ n, n ≤ 24 ∧ gA v 102 i = nI n) (hH : gI v 80 52 = nI Dr) (hH2 : Dr ≤ 40)
    (k1 : ¬ dGood (gA v 81) (gA v 102) S Dr s x y → Q (nI 0) (v_I (v_I v 80 0 (nI 0)) 80 3 (nI 0)))
    (k2 : dGood (gA v 81) (gA v 102) S Dr s x y → Q (nI 1) (v_I (v_I (v_A (v_A (v_A (v_A (v_I (v_I v 80 0 (nI 0)) 80 3 (nI 0)) 111 (putf (gA v 111) (fun i => drw (gA v 81 i)) (24 * Dr) s)) 108 (upd (gA v 108) Dr x)) 109 (upd (gA v 109) Dr y)) 110 (upd (gA v 110) Dr (gI v 80 5))) 80 52 (nI (Dr + 1))) 80 6 (gI v 80 6 + nI 1))) : KI E (d + 1) 175 [.ref 80, .int x, .int y] v Q := by
  generalize hu : v_I (v_I v 80 0 (nI 0)) 80 3 (nI 0) = u at k1 k2
  have uS : gI u 80 50 = nI S := by rw [← hu]; exact hS
  have uH : gI u 80 52 = nI Dr := by rw [← hu]; exact hH
  have u6 : gI u 80 6 = gI v 80 6 := by rw [← hu]; rfl
  have u5 : gI u 80 5 = gI v 80 5 := by rw [← hu]; rfl
  have uA : gA u = gA v := by rw [← hu]; rfl
  rw [← uA] at k1 k2 hP
  rw [← u6, ← u5] at k2
  refine KI.of ok_175 (Nat.le_of_ble_eq_true rfl) (w_X12_drawing_0 (k_take ?_))
  rw [hu, show gI (v_I v 80 0 (nI 0)) 80 3 = nI s from hs]
  refine k_isScrM uS hS2 (fun w hw e => ⟨fun h0 => absurd h0 nI_01, fun _ => ?_⟩) (fun h => ⟨fun _ => k1 (fun ⟨w, n, g1, g2, _⟩ => h ⟨w, g1.1, g2⟩), fun h0 => absurd rfl h0⟩)
  subst e
  obtain ⟨n, hn, en⟩ := hP w
  have un : dGood (gA u 81) (gA u 102) S Dr s (nI w) y → Dr < 40 ∧ s = n ∧ (nI 0 ≤ y ∧ y < nI 4) ∧ ∀ i, i < n → sml (gA u 81 i) ∨ gA u 81 i = nI 46 := by
    rintro ⟨w', n', g1, g2, g5, g3, g4⟩
    rw [nI_inj (by omega) (by omega)] at g2
    subst g2
    rw [en, nI_inj (by omega) (by omega)] at g3
    subst g3
    exact ⟨g1.2.2.1, g1.2.2.2, g5, g4⟩
  have hiw : vp_in (nI w) 20 := vp_in_nI (by omega) (by decide)
  refine k_in (fun hy => ⟨fun h0 => absurd h0 nI_01, fun _ => ?_⟩) (fun hy => ⟨fun _ => k1 (fun g => hy ?_), fun h0 => absurd rfl h0⟩)
  · have hy4 : nI 0 ≤ y ∧ y < nI 4 := by
      obtain ⟨m, _, hm, rfl⟩ := i_btw (by decide) (by decide) hy.1 hy.2
      exact ⟨hy.1, (nI_ltI (by omega) (by decide)).mpr (by omega)⟩
    rw [nI_clamp (by omega), en, nI_inj (by omega) (by omega), uH, nI_inj (by omega) (by decide)]
    refine ⟨hiw, fun h => k1 (fun g => h (un g).2.1), fun h3 => ⟨fun h => ?_, fun h => k1 (fun g => by have := (un g).1; omega)⟩⟩
    subst h3
    have step3 : dGood (gA u 81) (gA u 102) S Dr s (nI w) y → ∀ (m i : Nat), i + m = s → RI E (d + 1) 175 93 [(0, .ref 80), (1, .int (nI w)), (2, .int y), (3, .int (nI s)), (4, .int (nI i))] (v_A u 111 (putf (gA u 111) (fun i => drw (gA u 81 i)) (24 * Dr) i)) Q := by
      intro hg m
      induction m with
      | zero =>
        intro i hi
        obtain rfl : i = s := by omega
        refine w_X12_drawing_93 ?_
        rw [show gI (v_A u 111 (putf (gA u 111) (fun i => drw (gA u 81 i)) (24 * Dr) i)) 80 52 = nI Dr from uH, nI_add Dr 1, nI_clamp (by omega : Dr < 2 ^ 31), nI_leI (by omega) (by omega)]
        have hi : vp_in (nI Dr) 40 := vp_in_nI (by omega) (by decide)
        exact ⟨fun _ => ⟨hi, hi, hi, k2 hg⟩, fun hx => by omega⟩
      | succ m ih =>
        intro i hi
        have := ih (i + 1) (by omega)
        rw [← putf_s] at this
        refine w_X12_drawing_93 ?_
        rw [show gI (v_A u 111 (putf (gA u 111) (fun i => drw (gA u 81 i)) (24 * Dr) i)) 80 52 = nI Dr from uH, nI_leI (by omega) (by omega), pk_mul 24 Dr, nI_add (24 * Dr) i, nI_add i 1, nI_clamp (by omega : 24 * Dr + i < 2 ^ 31), nI_clamp (by omega : i < 2 ^ 31)]
        refine ⟨fun hx => by omega, fun _ => ⟨vp_in_nI (by omega) (by decide), fun hx => ⟨vp_in_nI (by omega) (by decide), vp_in_nI (by omega) (by decide), ?_⟩, fun hx => ⟨vp_in_nI (by omega) (by decide), ?_⟩⟩⟩
        · rw [show drw (gA u 81 i) = gA u 81 i - nI 97 from drw_f hx] at this
          rw [vA_s]
          exact this
        · rw [show drw (gA u 81 i) = -1 from drw_t hx] at this
          rw [vA_s]
          exact this
    have step2 : Dr < 40 → ∀ (m i : Nat), i + m = s → (∀ j, j < i → sml (gA u 81 j) ∨ gA u 81 j = nI 46) → RI E (d + 1) 175 51 [(0, .ref 80), (1, .int (nI w)), (2, .int y), (3, .int (nI s)), (4, .int (nI i))] u Q := by
      intro hp m
      induction m with
      | zero =>
        intro i hi hf
        obtain rfl : i = s := by omega
        refine w_X12_drawing_51 ?_
        rw [nI_leI (by omega) (by omega)]
        refine ⟨fun _ => ?_, fun hx => by omega⟩
        have := step3 ⟨w, i, by omega, rfl, hy4, en, hf⟩ i 0 (by omega)
        rw [putf_0, vAself] at this
        exact this
      | succ m ih =>
        intro i hi hf
        have nx : (sml (gA u 81 i) ∨ gA u 81 i = nI 46) → RI E (d + 1) 175 51 [(0, .ref 80), (1, .int (nI w)), (2, .int y), (3, .int (nI s)), (4, .int (nI (i + 1)))] u Q := by
          intro hx
          refine ih (i + 1) (by omega) (fun j hj => ?_)
          by_cases e : j = i
          · subst e
            exact hx
          · exact hf j (by omega)
        refine w_X12_drawing_51 ?_
        rw [nI_leI (by omega) (by omega), nI_add i 1, nI_clamp (by omega : i < 2 ^ 31)]
        have hi2 : vp_in (nI i) 240 := vp_in_nI (by omega) (by decide)
        refine ⟨fun hx => by omega, fun _ => ⟨hi2, k_isLetM (fun hx => ⟨fun _ => nx (Or.inl hx), fun h0 => absurd h0 nI_01⟩) (fun hx => ⟨fun h0 => absurd rfl h0, fun _ => ⟨hi2, fun hx' => nx (Or.inr hx'), fun hx' => k1 (fun g => ?_)⟩⟩)⟩⟩
        rcases (un g).2.2.2 i (by omega) with q | q
        · exact hx q
        · exact hx' q
    exact step2 (by omega) s 0 (by omega) (fun j hj => by omega)
  · obtain ⟨q1, q2⟩ := (un g).2.2.1
    obtain ⟨m, _, hm, rfl⟩ := i_btw' (by decide) (by decide) q1 q2
    exact ⟨q1, (nI_leI (by omega) (by decide)).mpr (by omega)⟩

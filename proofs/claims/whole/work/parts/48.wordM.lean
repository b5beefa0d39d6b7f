theorem k_take {E : Nat × (Nat → Int32)} {d : Nat} {v : xV} {Q : Int32 → xV → Prop} (k : Q (gI v 80 3) (v_I v 80 3 (nI 0))) : KI E d 151 [.ref 80] v Q := KI.of ok_151 (Nat.le_of_ble_eq_true rfl) (w_X12_take_0 (fun y e => by subst e; exact k))
theorem k_isLetM {E : Nat × (Nat → Int32)} {d : Nat} {v : xV} {x : Int32} {Q : Int32 → xV → Prop} (k1 : sml x → Q (nI 1) v) (k2 : ¬ sml x → Q (nI 0) v) : KI E d 154 [.int x] v Q :=
  KI.of ok_154 (Nat.le_of_ble_eq_true rfl) (w_X12_isLetter_0 ⟨fun h => k2 (fun h' => absurd h'.1 (i_nle.mpr h)), fun h => ⟨fun h3 => k2 (fun h' => absurd h'.2 (i_nle.mpr h3)), fun h3 => k1 ⟨i_nlt.mp h, i_nlt.mp h3⟩⟩⟩)
theorem eq_sub97 {x y : Int32} : x = y - nI 97 ↔ x + nI 97 = y := by
  constructor
  · intro h
    rw [h, Int32.sub_add_cancel]
  · intro h
    rw [← h, Int32.add_sub_cancel]
theorem k_isThere {E : Nat × (Nat → Int32)} {d : Nat} {v : xV} {x : Int32} {s W : Nat} {Q : Int32 → xV → Prop} (h2 : s ≤ 10) (hW : gI v 80 20 = nI W) (hW2 : W ≤ 80)
    (k1 : hasW (gA v 85) (gA v 86) (gA v 87) (gA v 81) W s x → Q (nI 1) v) (k2 : ¬ hasW (gA v 85) (gA v 86) (gA v 87) (gA v 81) W s x → Q (nI 0) v) : KI E d 156 [.ref 80, .int (nI s), .int x] v Q := by
  have in0 : ∀ (w i : Nat), i ≤ s → RI E d 156 89 [(0, .ref 80), (1, .int (nI s)), (2, .int x), (3, .int (nI w)), (4, .int (nI 0))] v Q → RI E d 156 40 [(0, .ref 80), (1, .int (nI s)), (2, .int x), (3, .int (nI w)), (4, .int (nI 0)), (5, .int (nI i))] v Q := by
    intro w i hi k
    exact w_X12_isThere_40 ⟨fun _ => k, fun _ => ⟨fun _ => k, fun hx => absurd rfl hx⟩⟩
  have in1 : ∀ (w : Nat), w < 80 → (txt (gA v 85) (gA v 81) w s → RI E d 156 89 [(0, .ref 80), (1, .int (nI s)), (2, .int x), (3, .int (nI w)), (4, .int (nI 1))] v Q) → (¬ txt (gA v 85) (gA v 81) w s → RI E d 156 89 [(0, .ref 80), (1, .int (nI s)), (2, .int x), (3, .int (nI w)), (4, .int (nI 0))] v Q) → ∀ (m i : Nat), i + m = s → (∀ j, j < i → gA v 85 (10 * w + j) + nI 97 = gA v 81 j) → RI E d 156 40 [(0, .ref 80), (1, .int (nI s)), (2, .int x), (3, .int (nI w)), (4, .int (nI 1)), (5, .int (nI i))] v Q := by
    intro w hw q1 q0 m
    induction m with
    | zero =>
      intro i hi hf
      refine w_X12_isThere_40 ⟨fun _ => q1 (fun j hj => hf j (by omega)), fun hx => absurd ?_ hx⟩
      rw [nI_leI (by omega) (by omega)]
      omega
    | succ m ih =>
      intro i hi hf
      refine w_X12_isThere_40 ?_
      rw [nI_leI (by omega) (by omega), pk_mul, nI_add, nI_add, nI_clamp (by omega), nI_clamp (by omega), eq_sub97]
      refine ⟨fun hx => by omega, fun _ => ⟨fun hx => absurd hx nI_01, fun _ => ⟨vp_in_nI (by omega) (by decide), vp_in_nI (by omega) (by decide), fun hx => in0 w (i + 1) (by omega) (q0 (fun h => hx (h i (by omega)))), fun hx => ih (i + 1) (by omega) (fun j hj => ?_)⟩⟩⟩
      by_cases e : j = i
      · subst e
        exact hx
      · exact hf j (by omega)
  have step : ∀ (m i : Nat), i + m = W → ¬ hasW (gA v 85) (gA v 86) (gA v 87) (gA v 81) i s x → RI E d 156 2 [(0, .ref 80), (1, .int (nI s)), (2, .int x), (3, .int (nI i))] v Q := by
    intro m
    induction m with
    | zero =>
      intro i hi hf
      obtain rfl : i = W := by omega
      refine w_X12_isThere_2 ⟨fun _ => k2 hf, fun hx => absurd ?_ hx⟩
      rw [hW, nI_leI (by omega) (by omega)]
      omega
    | succ m ih =>
      intro i hi hf
      have nx : ¬ (gA v 87 i = x ∧ gA v 86 i = nI s ∧ txt (gA v 85) (gA v 81) i s) → RI E d 156 89 [(0, .ref 80), (1, .int (nI s)), (2, .int x), (3, .int (nI i)), (4, .int (nI 0))] v Q := by
        intro hn
        refine w_X12_isThere_89 ⟨fun _ => ?_, fun h0 => absurd rfl h0⟩
        rw [nI_add]
        refine ih (i + 1) (by omega) ?_
        rintro ⟨w, hw, q⟩
        by_cases e : w = i
        · subst e
          exact hn q
        · exact hf ⟨w, by omega, q⟩
      refine w_X12_isThere_2 ?_
      rw [hW, nI_leI (by omega) (by omega), nI_clamp (by omega)]
      refine ⟨fun hx => by omega, fun _ => ⟨vp_in_nI (by omega) (by decide), fun hx => in0 i 0 (by omega) (nx (fun h => hx h.1)), fun hx => ⟨vp_in_nI (by omega) (by decide), fun hy => in0 i 0 (by omega) (nx (fun h => hy h.2.1)), fun hy => ?_⟩⟩⟩
      exact in1 i (by omega) (fun ht => w_X12_isThere_89 ⟨fun h0 => absurd h0 nI_01, fun _ => k1 ⟨i, by omega, hx, hy, ht⟩⟩) (fun ht => nx (fun h => ht h.2.2)) s 0 (by omega) (fun j hj => by omega)
  exact KI.of ok_156 (Nat.le_of_ble_eq_true rfl) (w_X12_isThere_0 (step W 0 (by omega) (fun ⟨w, hw, _⟩ => by omega)))
theorem k_wordM {E : Nat × (Nat → Int32)} {d : Nat} {v : xV} {x : Int32} {s W : Nat} {Q : Int32 → xV → Prop} (hs : gI v 80 3 = nI s) (h2 : s ≤ 240) (hW : gI v 80 20 = nI W) (hW2 : W ≤ 80)
    (k1 : ¬ wGood (gA v 85) (gA v 86) (gA v 87) (gA v 81) W s x → Q (-1) (v_I (v_I v 80 0 (nI 0)) 80 3 (nI 0))) (k2 : wGood (gA v 85) (gA v 86) (gA v 87) (gA v 81) W s x → Q (nI W) (v_I (v_I (v_A (v_A (v_A (v_I (v_I v 80 0 (nI 0)) 80 3 (nI 0)) 85 (putw (gA v 85) (gA v 81) (10 * W) s)) 86 (upd (gA v 86) W (nI s))) 87 (upd (gA v 87) W x)) 80 20 (nI (W + 1))) 80 6 (gI v 80 6 + nI 1))) : KI E (d + 1) 157 [.ref 80, .int x] v Q := by
  generalize hu : v_I (v_I v 80 0 (nI 0)) 80 3 (nI 0) = u at k1 k2
  have u20 : gI u 80 20 = nI W := by rw [← hu]; exact hW
  have u6 : gI u 80 6 = gI v 80 6 := by rw [← hu]; rfl
  have uA : gA u = gA v := by rw [← hu]; rfl
  rw [← uA] at k1 k2
  rw [← u6] at k2
  have step3 : wGood (gA u 85) (gA u 86) (gA u 87) (gA u 81) W s x → ∀ (m i : Nat), i + m = s → RI E (d + 1) 157 80 [(0, .ref 80), (1, .int x), (2, .int (nI s)), (3, .int (nI i))] (v_A u 85 (putw (gA u 85) (gA u 81) (10 * W) i)) Q := by
    intro hg m
    have h10 := hg.2.2.1.2.1
    have h80 := hg.1
    induction m with
    | zero =>
      intro i hi
      obtain rfl : i = s := by omega
      refine w_X12_word_80 ⟨fun _ => ?_, fun hx => absurd ?_ hx⟩
      · rw [show gI (v_A u 85 (putw (gA u 85) (gA u 81) (10 * W) i)) 80 20 = nI W from u20, nI_add, nI_sub (by omega), Nat.add_sub_cancel, nI_clamp (by omega)]
        exact ⟨vp_in_nI (by omega) (by decide), vp_in_nI (by omega) (by decide), k2 hg⟩
      · rw [nI_leI (by omega) (by omega)]
        omega
    | succ m ih =>
      intro i hi
      refine w_X12_word_80 ⟨fun hx => ?_, fun _ => ?_⟩
      · rw [nI_leI (by omega) (by omega)] at hx
        omega
      · rw [show gI (v_A u 85 (putw (gA u 85) (gA u 81) (10 * W) i)) 80 20 = nI W from u20, pk_mul, nI_add, nI_add, nI_clamp (by omega), nI_clamp (by omega)]
        refine ⟨vp_in_nI (by omega) (by decide), vp_in_nI (by omega) (by decide), ?_⟩
        rw [show upd (gA (v_A u 85 (putw (gA u 85) (gA u 81) (10 * W) i)) 85) (10 * W + i) (gA (v_A u 85 (putw (gA u 85) (gA u 81) (10 * W) i)) 81 i - nI 97) = putw (gA u 85) (gA u 81) (10 * W) (i + 1) from putw_s _ _ _ _, vA_s]
        exact ih (i + 1) (by omega)
  have step2 : W < 80 → (nI 0 ≤ x ∧ x < nI 5) → 1 ≤ s → s ≤ 10 → ∀ (m i : Nat), i + m = s → (∀ j, j < i → sml (gA u 81 j)) → RI E (d + 1) 157 42 [(0, .ref 80), (1, .int x), (2, .int (nI s)), (3, .int (nI i))] u Q := by
    intro g1 g2 g3 g4 m
    induction m with
    | zero =>
      intro i hi hf
      obtain rfl : i = s := by omega
      refine w_X12_word_42 ⟨fun _ => k_isThere g4 u20 hW2 (fun hh => ⟨fun h0 => absurd h0 nI_01, fun _ => k1 (fun hg => hg.2.2.2 hh)⟩) (fun hh => ⟨fun _ => ?_, fun h0 => absurd rfl h0⟩), fun hx => absurd ?_ hx⟩
      · have := step3 ⟨g1, g2, ⟨g3, g4, hf⟩, hh⟩ i 0 (by omega)
        rw [putw_0, vAself] at this
        exact this
      · rw [nI_leI (by omega) (by omega)]
        omega
    | succ m ih =>
      intro i hi hf
      refine w_X12_word_42 ⟨fun hx => ?_, fun _ => ⟨vp_in_nI (by omega) (by decide), ?_⟩⟩
      · rw [nI_leI (by omega) (by omega)] at hx
        omega
      · rw [nI_clamp (by omega)]
        refine k_isLetM (fun hh => ⟨fun _ => ?_, fun h0 => absurd h0 nI_01⟩) (fun hh => ⟨fun h0 => absurd rfl h0, fun _ => k1 (fun hg => hh (hg.2.2.1.2.2 i (by omega)))⟩)
        rw [nI_add]
        refine ih (i + 1) (by omega) (fun j hj => ?_)
        by_cases e : j = i
        · subst e
          exact hh
        · exact hf j (by omega)
  refine KI.of ok_157 (Nat.le_of_ble_eq_true rfl) (w_X12_word_0 (k_take ?_))
  rw [hu, u20, nI_inj (by omega) (by decide), show gI (v_I v 80 0 (nI 0)) 80 3 = nI s from hs]
  refine ⟨fun h => k1 (fun hg => by have := hg.1; omega), fun h => k_isIn ⟨fun h3 => k1 (fun hg => ?_), fun h3 => k_isIn ⟨fun h4 => ?_, fun h4 => k1 (fun hg => ?_)⟩⟩⟩
  · rw [bB_0, decide_eq_true hg.2.1.1, Bool.true_and, decide_eq_false_iff_not] at h3
    obtain ⟨n, hn, rfl⟩ := nI_of (i_nlt.mpr hg.2.1.1)
    have := hg.2.1.2
    rw [nI_ltI hn (by decide)] at this
    rw [nI_leI hn (by decide)] at h3
    omega
  · rw [bB_0, Bool.not_eq_false, Bool.and_eq_true, decide_eq_true_eq, decide_eq_true_eq] at h3
    rw [bB_0, Bool.not_eq_false, Bool.and_eq_true, decide_eq_true_eq, decide_eq_true_eq, nI_leI (by decide) (by omega), nI_leI (by omega) (by decide)] at h4
    obtain ⟨n, hn, rfl⟩ := nI_of (i_nlt.mpr h3.1)
    have := h3.2
    rw [nI_leI hn (by decide)] at this
    exact step2 (by omega) ⟨h3.1, (nI_ltI hn (by decide)).mpr (by omega)⟩ h4.1 h4.2 s 0 (by omega) (fun j hj => by omega)
  · have q1 := hg.2.2.1.1
    have q2 := hg.2.2.1.2.1
    rw [bB_0, decide_eq_true ((nI_leI (by decide) (by omega)).mpr q1), decide_eq_true ((nI_leI (by omega) (by decide)).mpr q2)] at h4
    cases h4

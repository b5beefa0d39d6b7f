/-! words -/
def sml (x : Int32) : Prop := nI 97 ≤ x ∧ x ≤ nI 122
def wtx (tp : Nat → Int32) (s : Nat) : Prop := 1 ≤ s ∧ s ≤ 10 ∧ ∀ i, i < s → sml (tp i)
def txt (L tp : Nat → Int32) (w n : Nat) : Prop := ∀ i, i < n → L (10 * w + i) + nI 97 = tp i
def hasW (L Ln So tp : Nat → Int32) (W s : Nat) (x : Int32) : Prop := ∃ w, w < W ∧ So w = x ∧ Ln w = nI s ∧ txt L tp w s
def putw (L tp : Nat → Int32) (b n : Nat) : Nat → Int32 := fun i => if b ≤ i ∧ i < b + n then tp (i - b) - nI 97 else L i
theorem putw_0 (L tp : Nat → Int32) (b : Nat) : putw L tp b 0 = L := by
  funext i
  unfold putw
  rw [if_neg (by omega)]
theorem putw_s (L tp : Nat → Int32) (b n : Nat) : upd (putw L tp b n) (b + n) (tp n - nI 97) = putw L tp b (n + 1) := by
  funext i
  rw [upd_i]
  unfold putw
  by_cases h : i = b + n
  · subst h
    rw [if_pos rfl, if_pos (by omega), Nat.add_sub_cancel_left]
  · rw [if_neg h]
    by_cases h2 : b ≤ i ∧ i < b + n
    · rw [if_pos h2, if_pos (by omega)]
    · rw [if_neg h2, if_neg (by omega)]
theorem k_at {E : Nat × (Nat → Int32)} {d : Nat} {v : xV} {s i : Nat} {Q : Int32 → xV → Prop} (hs : gI v 1 1 = nI s) (h2 : s ≤ 240) (hi : i < s) (k : Q (gA v 2 i) v) : KI E d 78 [.ref 1, .int (nI i)] v Q := by
  refine KI.of ok_78 (Nat.le_of_ble_eq_true rfl) (w_X8_at_0 ⟨fun h => absurd h (nz_lt (by omega)), fun _ => ⟨fun h => ?_, fun _ => ⟨fun h => ?_, fun _ => ⟨vp_in_nI (by omega) (by decide), ?_⟩⟩⟩⟩)
  · rw [hs, nI_leI (by omega) (by omega)] at h
    omega
  · rw [nI_leI (by omega) (by omega)] at h
    omega
  · rw [nI_clamp (by omega)]
    exact k
theorem k_atN {E : Nat × (Nat → Int32)} {d : Nat} {v : xV} {s i : Nat} {Q : Int32 → xV → Prop} (hs : gI v 1 1 = nI s) (h2 : s ≤ 240) (hi : ¬ i < s) (hi2 : i < 2 ^ 31) (k : Q (-1) v) : KI E d 78 [.ref 1, .int (nI i)] v Q := by
  refine KI.of ok_78 (Nat.le_of_ble_eq_true rfl) (w_X8_at_0 ⟨fun h => absurd h (nz_lt hi2), fun _ => ⟨fun h => k, fun h => ?_⟩⟩)
  rw [hs, nI_leI (by omega) hi2] at h
  omega
theorem k_isWordText {E : Nat × (Nat → Int32)} {d : Nat} {v : xV} {s : Nat} {Q : Int32 → xV → Prop} (hs : gI v 1 1 = nI s) (h2 : s ≤ 240) (k1 : wtx (gA v 2) s → Q (nI 1) v) (k2 : ¬ wtx (gA v 2) s → Q (nI 0) v) : KI E (d + 1) 27 [.ref 3, .ref 1] v Q := by
  refine KI.of ok_27 (Nat.le_of_ble_eq_true rfl) (w_X3_isWordText_0 ?_)
  rw [hs, nI_ltI (by omega) (by decide), nI_leI (by omega) (by decide)]
  refine ⟨fun h => k2 (fun h' => by have := h'.1; omega), fun h => ⟨fun h3 => ?_, fun h3 => k2 (fun h' => h3 h'.2.1)⟩⟩
  have step : ∀ (m i : Nat), i + m = s → (∀ j, j < i → sml (gA v 2 j)) → RI E (d + 1) 27 21 [(1, .ref 1), (2, .int (nI i))] v Q := by
    intro m
    induction m with
    | zero =>
      intro i hi hf
      refine w_X3_isWordText_21 ⟨fun _ => k1 ⟨by omega, h3, fun j hj => hf j (by omega)⟩, fun hx => absurd ?_ hx⟩
      rw [hs, nI_leI (by omega) (by omega)]
      omega
    | succ m ih =>
      intro i hi hf
      refine w_X3_isWordText_21 ⟨fun hx => ?_, fun _ => k_at hs h2 (by omega) (k_isSmall ⟨fun hx => ?_, fun hx => ?_⟩)⟩
      · rw [hs, nI_leI (by omega) (by omega)] at hx
        omega
      · rw [nI_add]
        refine ih (i + 1) (by omega) (fun j hj => ?_)
        by_cases e : j = i
        · subst e
          rw [bB_0, Bool.not_eq_false, Bool.and_eq_true, decide_eq_true_eq, decide_eq_true_eq] at hx
          exact hx
        · exact hf j (by omega)
      · refine k2 (fun h' => ?_)
        obtain ⟨q1, q2⟩ := h'.2.2 i (by omega)
        rw [bB_0, decide_eq_true q1, decide_eq_true q2] at hx
        cases hx
  exact step s 0 (by omega) (fun j hj => by omega)
theorem k_hasText {E : Nat × (Nat → Int32)} {d : Nat} {v : xV} {s w n : Nat} {Q : Int32 → xV → Prop} (hs : gI v 1 1 = nI s) (h2 : s ≤ 240) (hw : w < 80) (hl : gA v 7 w = nI n) (hn : n ≤ 10) (k1 : n = s → txt (gA v 6) (gA v 2) w s → Q (nI 1) v) (k2 : ¬ (n = s ∧ txt (gA v 6) (gA v 2) w s) → Q (nI 0) v) : KI E (d + 1) 28 [.ref 3, .int (nI w), .ref 1] v Q := by
  refine KI.of ok_28 (Nat.le_of_ble_eq_true rfl) (w_X3_hasText_0 ?_)
  rw [nI_clamp (by omega), hl, hs, nI_inj (by omega) (by omega)]
  refine ⟨vp_in_nI hw (by decide), fun e => ?_, fun e => k2 (fun h => e h.1)⟩
  subst e
  have step : ∀ (m i : Nat), i + m = n → (∀ j, j < i → gA v 6 (10 * w + j) + nI 97 = gA v 2 j) → RI E (d + 1) 28 17 [(0, .ref 3), (1, .int (nI w)), (2, .ref 1), (3, .int (nI i))] v Q := by
    intro m
    induction m with
    | zero =>
      intro i hi hf
      refine w_X3_hasText_17 ?_
      rw [nI_clamp (by omega : w < 2 ^ 31), hl, nI_leI (by omega) (by omega)]
      exact ⟨vp_in_nI hw (by decide), fun _ => k1 rfl (fun j hj => hf j (by omega)), fun hx => by omega⟩
    | succ m ih =>
      intro i hi hf
      refine w_X3_hasText_17 ?_
      rw [nI_clamp (by omega : w < 2 ^ 31), hl, nI_leI (by omega) (by omega), pk_mul, nI_add, nI_add, nI_clamp (by omega), Nat.mul_comm w 10]
      refine ⟨vp_in_nI hw (by decide), fun hx => by omega, fun _ => ⟨vp_in_nI (by omega) (by decide), k_at hs h2 (by omega) ⟨fun hx => ih (i + 1) (by omega) (fun j hj => ?_), fun hx => k2 (fun h => hx (h.2 i (by omega)))⟩⟩⟩
      by_cases e : j = i
      · subst e
        exact hx
      · exact hf j (by omega)
  exact step n 0 (by omega) (fun j hj => by omega)
def wGood (L Ln So tp : Nat → Int32) (W s : Nat) (x : Int32) : Prop := W < 80 ∧ (nI 0 ≤ x ∧ x < nI 5) ∧ wtx tp s ∧ ¬ hasW L Ln So tp W s x
theorem k_addWord {E : Nat × (Nat → Int32)} {d : Nat} {v : xV} {x : Int32} {s W : Nat} {Q : Int32 → xV → Prop} (hs : gI v 1 1 = nI s) (h2 : s ≤ 240) (hW : gI v 3 7 = nI W) (hW2 : W ≤ 80) (hl : ∀ i, ∃ n, n ≤ 10 ∧ gA v 7 i = nI n)
    (k1 : ¬ wGood (gA v 6) (gA v 7) (gA v 8) (gA v 2) W s x → Q (-1) v) (k2 : wGood (gA v 6) (gA v 7) (gA v 8) (gA v 2) W s x → Q (nI W) (v_I (v_A (v_A (v_A v 6 (putw (gA v 6) (gA v 2) (10 * W) s)) 7 (upd (gA v 7) W (nI s))) 8 (upd (gA v 8) W x)) 3 7 (nI (W + 1)))) : KI E (d + 2) 26 [.ref 3, .ref 1, .int x] v Q := by
  have step3 : wGood (gA v 6) (gA v 7) (gA v 8) (gA v 2) W s x → ∀ (m i : Nat), i + m = s → RI E (d + 2) 26 67 [(0, .ref 3), (1, .ref 1), (2, .int x), (3, .int (nI i))] (v_A v 6 (putw (gA v 6) (gA v 2) (10 * W) i)) Q := by
    intro hg m
    have h10 := hg.2.2.1.2.1
    have h80 := hg.1
    induction m with
    | zero =>
      intro i hi
      obtain rfl : i = s := by omega
      refine w_X3_addWord_67 ⟨fun _ => w_X3_addWord_109 ?_, fun hx => absurd ?_ hx⟩
      · rw [show gI (v_A v 6 (putw (gA v 6) (gA v 2) (10 * W) i)) 3 7 = nI W from hW, show gI (v_A v 6 (putw (gA v 6) (gA v 2) (10 * W) i)) 1 1 = nI i from hs, nI_add, nI_sub (by omega), Nat.add_sub_cancel, nI_clamp (by omega)]
        exact ⟨vp_in_nI (by omega) (by decide), vp_in_nI (by omega) (by decide), k2 hg⟩
      · rw [show gI (v_A v 6 (putw (gA v 6) (gA v 2) (10 * W) i)) 1 1 = nI i from hs, nI_leI (by omega) (by omega)]
        omega
    | succ m ih =>
      intro i hi
      refine w_X3_addWord_67 ⟨fun hx => ?_, fun _ => ⟨fun hx => ?_, fun _ => k_at (s := s) hs h2 (by omega) ?_⟩⟩
      · rw [show gI (v_A v 6 (putw (gA v 6) (gA v 2) (10 * W) i)) 1 1 = nI s from hs, nI_leI (by omega) (by omega)] at hx
        omega
      · rw [nI_leI (by omega) (by omega)] at hx
        omega
      · rw [show gI (v_A v 6 (putw (gA v 6) (gA v 2) (10 * W) i)) 3 7 = nI W from hW, pk_mul, nI_add, nI_add, nI_clamp (by omega), Nat.mul_comm W 10]
        refine ⟨vp_in_nI (by omega) (by decide), ?_⟩
        rw [show upd (gA (v_A v 6 (putw (gA v 6) (gA v 2) (10 * W) i)) 6) (10 * W + i) (gA (v_A v 6 (putw (gA v 6) (gA v 2) (10 * W) i)) 2 i - nI 97) = putw (gA v 6) (gA v 2) (10 * W) (i + 1) from putw_s _ _ _ _, vA_s]
        exact ih (i + 1) (by omega)
  have step2 : W < 80 → (nI 0 ≤ x ∧ x < nI 5) → wtx (gA v 2) s → ∀ (m i : Nat), i + m = W → ¬ hasW (gA v 6) (gA v 7) (gA v 8) (gA v 2) i s x → RI E (d + 2) 26 30 [(0, .ref 3), (1, .ref 1), (2, .int x), (3, .int (nI i))] v Q := by
    intro g1 g2 g3 m
    induction m with
    | zero =>
      intro i hi hf
      obtain rfl : i = W := by omega
      refine w_X3_addWord_30 ⟨fun _ => ?_, fun hx => absurd ?_ hx⟩
      · have := step3 ⟨g1, g2, g3, hf⟩ s 0 (by omega)
        rw [putw_0, vAself] at this
        exact this
      · rw [hW, nI_leI (by omega) (by omega)]
        omega
    | succ m ih =>
      intro i hi hf
      have nx : ¬ (gA v 8 i = x ∧ gA v 7 i = nI s ∧ txt (gA v 6) (gA v 2) i s) → RI E (d + 2) 26 30 [(0, .ref 3), (1, .ref 1), (2, .int x), (3, .int (nI i + nI 1))] v Q := by
        intro hn
        rw [nI_add]
        refine ih (i + 1) (by omega) ?_
        rintro ⟨w, hw, q⟩
        by_cases e : w = i
        · subst e
          exact hn q
        · exact hf ⟨w, by omega, q⟩
      refine w_X3_addWord_30 ?_
      rw [hW, nI_leI (by omega) (by omega), nI_clamp (by omega)]
      refine ⟨fun hx => by omega, fun _ => ⟨vp_in_nI (by omega) (by decide), fun hx => nx (fun h => hx h.1), fun hx => ?_⟩⟩
      obtain ⟨n, hn, hl'⟩ := hl i
      refine k_hasText hs h2 (by omega) hl' hn (fun e ht => ⟨fun h0 => absurd h0 nI_01, fun _ => k1 (fun hg => hg.2.2.2 ⟨i, by omega, hx, by rw [hl', e], ht⟩)⟩) (fun hn' => ⟨fun _ => nx (fun h => hn' ⟨?_, h.2.2⟩), fun h0 => absurd rfl h0⟩)
      have := h.2.1
      rw [hl', nI_inj (by omega) (by omega)] at this
      exact this
  refine KI.of ok_26 (Nat.le_of_ble_eq_true rfl) (w_X3_addWord_0 ?_)
  rw [hW, nI_leI (by omega) (by omega)]
  refine ⟨fun h => k1 (fun hg => by have := hg.1; omega), fun h => ⟨fun h3 => k1 (fun hg => absurd hg.2.1.1 (i_nle.mpr h3)), fun h3 => ⟨fun h4 => k1 (fun hg => absurd hg.2.1.2 (i_nlt.mpr h4)), fun h4 => ?_⟩⟩⟩
  refine k_isWordText hs h2 (fun ht => ⟨fun _ => step2 (by omega) ⟨i_nlt.mp h3, i_nle.mp h4⟩ ht W 0 (by omega) (fun ⟨w, hw, _⟩ => by omega), fun hx => absurd hx nI_01⟩) (fun ht => ⟨fun hx => absurd rfl hx, fun _ => k1 (fun hg => ht hg.2.2.1)⟩)
theorem k_wordX {E : Nat × (Nat → Int32)} {d : Nat} {v : xV} {x : Int32} {s W : Nat} {Q : Int32 → xV → Prop} (hs : gI v 1 1 = nI s) (h2 : s ≤ 240) (hW : gI v 3 7 = nI W) (hW2 : W ≤ 80) (hl : ∀ i, ∃ n, n ≤ 10 ∧ gA v 7 i = nI n)
    (k1 : ¬ wGood (gA v 6) (gA v 7) (gA v 8) (gA v 2) W s x → Q (-1) (v_I v 1 1 (nI 0))) (k2 : wGood (gA v 6) (gA v 7) (gA v 8) (gA v 2) W s x → Q (nI W) (v_A (v_I (v_I (v_A (v_A (v_A v 6 (putw (gA v 6) (gA v 2) (10 * W) s)) 7 (upd (gA v 7) W (nI s))) 8 (upd (gA v 8) W x)) 3 7 (nI (W + 1))) 1 1 (nI 0)) 39 (zto 20 (gA v 39)))) : KI E (d + 3) 117 [.ref 0, .int x] v Q :=
  KI.of ok_117 (Nat.le_of_ble_eq_true rfl) (w_X11_word_0 (k_addWord hs h2 hW hW2 hl (fun h => ⟨fun _ => k1 h, fun hx => absurd rfl hx⟩) (fun h => ⟨fun hx => absurd hx (m1_ne (by omega)), fun _ => k_forget (k2 h)⟩)))

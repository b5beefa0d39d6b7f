/-! small helpers of both sides -/
theorem k_isLetter {E : Nat × (Nat → Int32)} {d : Nat} {v : xV} {x : Int32} {Q : Int32 → xV → Prop} (h : Q (bB (decide (nI 0 ≤ x) && decide (x < nI 26))) v) : KI E d 143 [.int x] v Q := by
  refine KI.of ok_143 (Nat.le_of_ble_eq_true rfl) (w_X11_isLetter_0 ⟨fun hc => ?_, fun hc => ⟨fun hd => ?_, fun hd => ?_⟩⟩)
  · rw [show (decide (nI 0 ≤ x)) = false from decide_eq_false (i_nle.mpr hc)] at h
    exact h
  · rw [show (decide (x < nI 26)) = false from decide_eq_false (i_nlt.mpr hd), Bool.and_false] at h
    exact h
  · rw [show (decide (nI 0 ≤ x)) = true from decide_eq_true (i_nlt.mp hc), show (decide (x < nI 26)) = true from decide_eq_true (i_nle.mp hd)] at h
    exact h
theorem k_isSmall {E : Nat × (Nat → Int32)} {d : Nat} {v : xV} {x : Int32} {Q : Int32 → xV → Prop} (h : Q (bB (decide (nI 97 ≤ x) && decide (x ≤ nI 122))) v) : KI E d 144 [.int x] v Q := by
  refine KI.of ok_144 (Nat.le_of_ble_eq_true rfl) (w_X11_isSmallSign_0 ⟨fun hc => ?_, fun hc => ⟨fun hd => ?_, fun hd => ?_⟩⟩)
  · rw [show (decide (nI 97 ≤ x)) = false from decide_eq_false (i_nle.mpr hc)] at h
    exact h
  · rw [show (decide (x ≤ nI 122)) = false from decide_eq_false (i_nle.mpr hd), Bool.and_false] at h
    exact h
  · rw [show (decide (nI 97 ≤ x)) = true from decide_eq_true (i_nlt.mp hc), show (decide (x ≤ nI 122)) = true from decide_eq_true (i_nlt.mp hd)] at h
    exact h
theorem k_isIn {E : Nat × (Nat → Int32)} {d : Nat} {v : xV} {x a b : Int32} {Q : Int32 → xV → Prop} (h : Q (bB (decide (a ≤ x) && decide (x ≤ b))) v) : KI E d 152 [.int x, .int a, .int b] v Q := by
  refine KI.of ok_152 (Nat.le_of_ble_eq_true rfl) (w_X12_isIn_0 ⟨fun hc => ?_, fun hc => ⟨fun hd => ?_, fun hd => ?_⟩⟩)
  · rw [show (decide (a ≤ x)) = false from decide_eq_false (i_nle.mpr hc)] at h
    exact h
  · rw [show (decide (x ≤ b)) = false from decide_eq_false (i_nle.mpr hd), Bool.and_false] at h
    exact h
  · rw [show (decide (a ≤ x)) = true from decide_eq_true (i_nlt.mp hc), show (decide (x ≤ b)) = true from decide_eq_true (i_nlt.mp hd)] at h
    exact h
/-! the tape -/
def byt (x : Int32) (k : Int32) : Int32 := (x.toUInt32 >>> (k.toUInt32 &&& Int32.toUInt32 31)).toInt32 &&& nI 255
def push4 (f : Nat → Int32) (s : Nat) (x : Int32) : Nat → Int32 := upd (upd (upd (upd f s (byt x (nI 24))) (s + 1) (byt x (nI 16))) (s + 2) (byt x (nI 8))) (s + 3) (byt x (nI 0))
theorem k_addNumber {E : Nat × (Nat → Int32)} {d : Nat} {v : xV} {x : Int32} {s : Nat} {Q : xV → Prop} (hs : gI v 1 1 = nI s) (h4 : s + 4 ≤ 240) (k : Q (v_A (v_I v 1 1 (nI (s + 4))) 2 (push4 (gA v 2) s x))) : KV E d 77 [.ref 1, .int x] v Q := by
  have e1 : nI 24 + (-8 : Int32) = nI 16 := by decide
  have e2 : nI 16 + (-8 : Int32) = nI 8 := by decide
  have e3 : nI 8 + (-8 : Int32) = nI 0 := by decide
  have e4 : nI 0 + (-8 : Int32) < nI 0 := by decide
  have step : ∀ (v : xV) (s : Nat) (y : Int32), gI v 1 1 = nI s → s < 240 → ¬ y < nI 0 → RV E d 77 3 [(0, .ref 1), (1, .int x), (2, .int (y + (-8 : Int32)))] (v_A (v_I v 1 1 (nI (s + 1))) 2 (upd (gA v 2) s (byt x y))) Q → RV E d 77 3 [(0, .ref 1), (1, .int x), (2, .int y)] v Q := by
    intro v s y hs h hy k
    refine w_X8_addNumber_3 ⟨fun hc => absurd hc hy, fun _ => ⟨fun hc => ?_, fun _ => ⟨?_, ?_⟩⟩⟩
    · rw [hs, nI_leI (by omega) (by omega)] at hc
      omega
    · rw [hs]
      exact vp_in_nI h (by omega)
    · rw [hs, nI_clamp (by omega), nI_add]
      exact k
  refine KV.of ok_77 (Nat.le_of_ble_eq_true rfl) (w_X8_addNumber_0 ?_)
  refine step v s (nI 24) hs (by omega) (by decide) ?_
  rw [e1]
  refine step _ (s + 1) (nI 16) rfl (by omega) (by decide) ?_
  rw [e2]
  refine step _ (s + 2) (nI 8) rfl (by omega) (by decide) ?_
  rw [e3]
  refine step _ (s + 3) (nI 0) rfl (by omega) (by decide) ?_
  refine w_X8_addNumber_3 ⟨fun _ => ?_, fun hc => absurd e4 hc⟩
  simp only [vIA, vA_s, vI_s]
  exact k
theorem k_come {E : Nat × (Nat → Int32)} {d : Nat} {v : xV} {x : Int32} {s : Nat} {Q : xV → Prop} (hs : gI v 80 3 = nI s) (h4 : s + 4 ≤ 240) (k : Q (v_A (v_I v 80 3 (nI (s + 4))) 81 (push4 (gA v 81) s x))) : KV E d 148 [.ref 80, .int x] v Q := by
  have e1 : nI 24 + (-8 : Int32) = nI 16 := by decide
  have e2 : nI 16 + (-8 : Int32) = nI 8 := by decide
  have e3 : nI 8 + (-8 : Int32) = nI 0 := by decide
  have e4 : nI 0 + (-8 : Int32) < nI 0 := by decide
  have step : ∀ (v : xV) (s : Nat) (y : Int32), gI v 80 3 = nI s → s < 240 → ¬ y < nI 0 → RV E d 148 3 [(0, .ref 80), (1, .int x), (2, .int (y + (-8 : Int32)))] (v_A (v_I v 80 3 (nI (s + 1))) 81 (upd (gA v 81) s (byt x y))) Q → RV E d 148 3 [(0, .ref 80), (1, .int x), (2, .int y)] v Q := by
    intro v s y hs h hy k
    refine w_X12_come_3 ⟨fun hc => absurd hc hy, fun _ => ⟨?_, ?_⟩⟩
    · rw [hs]
      exact vp_in_nI h (by omega)
    · rw [hs, nI_clamp (by omega), nI_add]
      exact k
  refine KV.of ok_148 (Nat.le_of_ble_eq_true rfl) (w_X12_come_0 ?_)
  refine step v s (nI 24) hs (by omega) (by decide) ?_
  rw [e1]
  refine step _ (s + 1) (nI 16) rfl (by omega) (by decide) ?_
  rw [e2]
  refine step _ (s + 2) (nI 8) rfl (by omega) (by decide) ?_
  rw [e3]
  refine step _ (s + 3) (nI 0) rfl (by omega) (by decide) ?_
  refine w_X12_come_3 ⟨fun _ => ?_, fun hc => absurd e4 hc⟩
  simp only [vIA, vA_s, vI_s]
  exact k
def push20 (f : Nat → Int32) (s : Nat) (a b c e g : Int32) : Nat → Int32 := push4 (push4 (push4 (push4 (push4 f s a) (s + 4) b) (s + 8) c) (s + 12) e) (s + 16) g
theorem k_feedX {E : Nat × (Nat → Int32)} {d : Nat} {v : xV} {x1 x2 x3 x4 x5 : Int32} {s : Nat} {Q : Int32 → xV → Prop} (hs : gI v 1 1 = nI s) (h2 : s ≤ 240) (k1 : s + 20 ≤ 240 → Q (nI (s + 20)) (v_A (v_I v 1 1 (nI (s + 20))) 2 (push20 (gA v 2) s x1 x2 x3 x4 x5))) (k2 : ¬ s + 20 ≤ 240 → Q (-1) v) : KI E (d + 1) 113 [.ref 0, .int x1, .int x2, .int x3, .int x4, .int x5] v Q := by
  refine KI.of ok_113 (Nat.le_of_ble_eq_true rfl) (w_X11_feed_0 ?_)
  rw [hs, nI_add, nI_leI (by omega) (by omega)]
  refine ⟨fun hc => ?_, fun hc => k2 hc⟩
  refine k_addNumber hs (by omega) (k_addNumber (s := s + 4) rfl (by omega) (k_addNumber (s := s + 8) rfl (by omega) (k_addNumber (s := s + 12) rfl (by omega) (k_addNumber (s := s + 16) rfl (by omega) ?_))))
  simp only [vIA, vA_s, vI_s]
  exact k1 hc
theorem k_feedM {E : Nat × (Nat → Int32)} {d : Nat} {v : xV} {x1 x2 x3 x4 x5 : Int32} {s : Nat} {Q : Int32 → xV → Prop} (hs : gI v 80 3 = nI s) (h2 : s ≤ 240) (k1 : s + 20 ≤ 240 → Q (nI (s + 20)) (v_A (v_I (v_I v 80 0 (nI 0)) 80 3 (nI (s + 20))) 81 (push20 (gA v 81) s x1 x2 x3 x4 x5))) (k2 : ¬ s + 20 ≤ 240 → Q (-1) (v_I v 80 0 (nI 0))) : KI E (d + 1) 149 [.ref 80, .int x1, .int x2, .int x3, .int x4, .int x5] v Q := by
  refine KI.of ok_149 (Nat.le_of_ble_eq_true rfl) (w_X12_feed_0 ?_)
  rw [hs, nI_add, nI_leI (by omega) (by omega)]
  refine ⟨fun hc => ?_, fun hc => k2 hc⟩
  refine k_come (s := s) hs (by omega) (k_come (s := s + 4) rfl (by omega) (k_come (s := s + 8) rfl (by omega) (k_come (s := s + 12) rfl (by omega) (k_come (s := s + 16) rfl (by omega) ?_))))
  simp only [vIA, vA_s, vI_s]
  exact k1 hc

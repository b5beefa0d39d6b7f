/-! walls and scrawls -/
theorem k_cornX {E : Nat × (Nat → Int32)} {d : Nat} {v : xV} {x : Int32} {Q : Int32 → xV → Prop} (k1 : nI 0 ≤ x ∧ x < nI 12 → Q (nI 1) v) (k2 : ¬ (nI 0 ≤ x ∧ x < nI 12) → Q (nI 0) v) : KI E d 84 [.int x] v Q :=
  KI.of ok_84 (Nat.le_of_ble_eq_true rfl) (w_X9_isCorner_0 ⟨fun h => k2 (fun h' => absurd h'.1 (i_nle.mpr h)), fun h => ⟨fun h3 => k2 (fun h' => absurd h'.2 (i_nlt.mpr h3)), fun h3 => k1 ⟨i_nlt.mp h, i_nle.mp h3⟩⟩⟩)
theorem k_cornM {E : Nat × (Nat → Int32)} {d : Nat} {v : xV} {x : Int32} {Q : Int32 → xV → Prop} (k1 : nI 0 ≤ x ∧ x < nI 12 → Q (nI 1) v) (k2 : ¬ (nI 0 ≤ x ∧ x < nI 12) → Q (nI 0) v) : KI E d 158 [.int x] v Q :=
  KI.of ok_158 (Nat.le_of_ble_eq_true rfl) (w_X12_isCorner_0 ⟨fun h => k2 (fun h' => absurd h'.1 (i_nle.mpr h)), fun h => ⟨fun h3 => k2 (fun h' => absurd h'.2 (i_nlt.mpr h3)), fun h3 => k1 ⟨i_nlt.mp h, i_nle.mp h3⟩⟩⟩)
theorem k_in {E : Nat × (Nat → Int32)} {d : Nat} {v : xV} {x a b : Int32} {Q : Int32 → xV → Prop} (k1 : a ≤ x ∧ x ≤ b → Q (nI 1) v) (k2 : ¬ (a ≤ x ∧ x ≤ b) → Q (nI 0) v) : KI E d 152 [.int x, .int a, .int b] v Q := by
  refine k_isIn ?_
  by_cases h1 : a ≤ x
  · by_cases h2 : x ≤ b
    · rw [decide_eq_true h1, decide_eq_true h2]
      exact k1 ⟨h1, h2⟩
    · rw [decide_eq_false h2, Bool.and_false]
      exact k2 (fun h => h2 h.2)
  · rw [decide_eq_false h1, Bool.false_and]
    exact k2 (fun h => h1 h.1)
/-- a number between two -/
theorem i_btw {x : Int32} {a b : Nat} (hb : b < 2 ^ 31) (ha : a < 2 ^ 31) (h1 : nI a ≤ x) (h2 : x ≤ nI b) : ∃ n, a ≤ n ∧ n ≤ b ∧ x = nI n := by
  have h0 : nI 0 ≤ x := by
    rw [Int32.le_iff_toInt_le, nI_toInt ha] at h1
    rw [Int32.le_iff_toInt_le, nI_toInt (by decide)]
    omega
  obtain ⟨n, hn, e⟩ := nI_of (i_nlt.mpr h0)
  rw [e, nI_leI ha hn] at h1
  rw [e, nI_leI hn hb] at h2
  exact ⟨n, h1, h2, e⟩
theorem i_btw' {x : Int32} {a b : Nat} (hb : b < 2 ^ 31) (ha : a < 2 ^ 31) (h1 : nI a ≤ x) (h2 : x < nI b) : ∃ n, a ≤ n ∧ n < b ∧ x = nI n := by
  have h0 : nI 0 ≤ x := by
    rw [Int32.le_iff_toInt_le, nI_toInt ha] at h1
    rw [Int32.le_iff_toInt_le, nI_toInt (by decide)]
    omega
  obtain ⟨n, hn, e⟩ := nI_of (i_nlt.mpr h0)
  rw [e, nI_leI ha hn] at h1
  rw [e, nI_ltI hn hb] at h2
  exact ⟨n, h1, h2, e⟩
def aGood (W : Nat) (x y : Int32) : Prop := W < 8 ∧ (nI 0 ≤ x ∧ x < nI 12) ∧ (nI 1 ≤ y ∧ y ≤ nI 4)
theorem k_wallX {E : Nat × (Nat → Int32)} {d : Nat} {v : xV} {x y : Int32} {W : Nat} {Q : Int32 → xV → Prop} (hW : gI v 11 7 = nI W) (hW2 : W ≤ 8) (k1 : ¬ aGood W x y → Q (-1) v) (k2 : aGood W x y → Q (nI W) (v_I (v_A (v_A v 13 (upd (gA v 13) W x)) 14 (upd (gA v 14) W y)) 11 7 (nI (W + 1)))) : KI E (d + 2) 119 [.ref 0, .int x, .int y] v Q := by
  refine KI.of ok_119 (Nat.le_of_ble_eq_true rfl) (w_X11_wall_0 (KI.of ok_82 (Nat.le_of_ble_eq_true rfl) (w_X9_addWall_0 ?_)))
  rw [hW, nI_leI (by decide) (by omega)]
  refine ⟨fun h => k1 (fun g => by have := g.1; omega), fun h => k_cornX (fun hc => ⟨fun h0 => absurd h0 nI_01, fun _ => ⟨fun h3 => k1 (fun g => absurd g.2.2.1 (i_nle.mpr h3)), fun h3 => ⟨fun h4 => ?_, fun h4 => k1 (fun g => h4 g.2.2.2)⟩⟩⟩) (fun hc => ⟨fun _ => k1 (fun g => hc g.2.1), fun h0 => absurd rfl h0⟩)⟩
  rw [hW, nI_add, nI_sub (by omega), Nat.add_sub_cancel, nI_clamp (by omega)]
  exact ⟨vp_in_nI (by omega) (by decide), vp_in_nI (by omega) (by decide), k2 ⟨by omega, hc, i_nlt.mp h3, h4⟩⟩
theorem k_wallM {E : Nat × (Nat → Int32)} {d : Nat} {v : xV} {x y : Int32} {W : Nat} {Q : Int32 → xV → Prop} (hW : gI v 80 22 = nI W) (hW2 : W ≤ 8) (k1 : ¬ aGood W x y → Q (-1) (v_I v 80 0 (nI 0))) (k2 : aGood W x y → Q (nI W) (v_I (v_A (v_A (v_I v 80 0 (nI 0)) 91 (upd (gA v 91) W x)) 92 (upd (gA v 92) W y)) 80 22 (nI (W + 1)))) : KI E (d + 1) 160 [.ref 80, .int x, .int y] v Q := by
  refine KI.of ok_160 (Nat.le_of_ble_eq_true rfl) (w_X12_wall_0 ?_)
  rw [hW, nI_inj (by omega) (by decide)]
  refine ⟨fun h => k1 (fun g => by have := g.1; omega), fun h => k_cornM (fun hc => ⟨fun h0 => absurd h0 nI_01, fun _ => k_in (fun hd => ⟨fun _ => ?_, fun h0 => absurd h0 nI_01⟩) (fun hd => ⟨fun h0 => absurd rfl h0, fun _ => k1 (fun g => hd g.2.2)⟩)⟩) (fun hc => ⟨fun _ => k1 (fun g => hc g.2.1), fun h0 => absurd rfl h0⟩)⟩
  rw [show gI (v_I v 80 0 (nI 0)) 80 22 = nI W from hW, nI_add, nI_sub (by omega), Nat.add_sub_cancel, nI_clamp (by omega)]
  exact ⟨vp_in_nI (by omega) (by decide), vp_in_nI (by omega) (by decide), k2 ⟨by omega, hc, hd⟩⟩
theorem p_wall {E : Nat × (Nat → Int32)} {d c : Nat} {v : xV} {x y : Int32} (hI : Inv c v) : P2 E (d + 2) 119 [.ref 0, .int x, .int y] 160 [.ref 80, .int x, .int y] v (Inv c) := by
  obtain ⟨⟨W, hW, w1, w2⟩, ⟨e1, e2⟩, hf, hg⟩ := hI.A
  refine k_wallX w1 hW (fun h => k_wallM (W := W) w2 hW (fun _ => ⟨rfl, hI⟩) (fun q => absurd q h)) (fun h => k_wallM (W := W) w2 hW (fun q => absurd h q) (fun _ => ⟨rfl, hI.1, hI.2.1, hI.2.2.1, hI.2.2.2.1, hI.2.2.2.2.1, ⟨⟨W + 1, h.1, rfl, rfl⟩, ⟨?_, ?_⟩, ?_, ?_⟩, hI.2.2.2.2.2.2⟩))
  · show upd (gA v 13) W x = upd (gA v 91) W x
    rw [e1]
  · show upd (gA v 14) W y = upd (gA v 92) W y
    rw [e2]
  · obtain ⟨n, _, hn, rfl⟩ := i_btw' (by decide) (by decide) h.2.1.1 h.2.1.2
    exact l_upd hf W hn
  · obtain ⟨n, _, hn, rfl⟩ := i_btw (by decide) (by decide) h.2.2.1 h.2.2.2
    exact n_upd hg W hn

/-! drawings -/
def drw (x : Int32) : Int32 := if x = nI 46 then -1 else x - nI 97
theorem drw_t {x : Int32} (h : x = nI 46) : drw x = -1 := if_pos h
theorem drw_f {x : Int32} (h : ¬ x = nI 46) : drw x = x - nI 97 := if_neg h
def dGood (tp P : Nat → Int32) (S Dr s : Nat) (x y : Int32) : Prop := ∃ w n, (w < S ∧ n ≤ 24 ∧ Dr < 40 ∧ s = n) ∧ x = nI w ∧ (nI 0 ≤ y ∧ y < nI 4) ∧ P w = nI n ∧ ∀ i, i < n → sml (tp i) ∨ tp i = nI 46
theorem k_drawX {E : Nat × (Nat → Int32)} {d : Nat} {v : xV} {x y : Int32} {S Dr s : Nat} {Q : Int32 → xV → Prop} (hs : gI v 1 1 = nI s) (h2 : s ≤ 240) (hS : gI v 25 12 = nI S) (hS2 : S ≤ 20) (hP : ∀ i, ∃ n, n ≤ 24 ∧ gA v 28 i = nI n) (hH : gI v 25 14 = nI Dr) (hH2 : Dr ≤ 40)
    (k1 : ¬ dGood (gA v 2) (gA v 28) S Dr s x y → Q (nI 0) (v_I v 1 1 (nI 0)))
    (k2 : dGood (gA v 2) (gA v 28) S Dr s x y → Q (nI 1) (v_I (v_I (v_A (v_A (v_A (v_A v 37 (putf (gA v 37) (fun i => drw (gA v 2 i)) (24 * Dr) s)) 34 (upd (gA v 34) Dr x)) 35 (upd (gA v 35) Dr y)) 36 (upd (gA v 36) Dr (gI v 0 13))) 25 14 (nI (Dr + 1))) 1 1 (nI 0))) : KI E (d + 2) 125 [.ref 0, .int x, .int y] v Q := by
  have kk1 : ¬ dGood (gA v 2) (gA v 28) S Dr s x y → vp_in (nI 0) 2 ∧ Q (nI 0) (v_I v 1 1 (nI 0)) := fun h => ⟨vp_in_nI (by decide) (by decide), k1 h⟩
  refine KI.of ok_125 (Nat.le_of_ble_eq_true rfl) (w_X11_drawing_0 (KI.of ok_6 (Nat.le_of_ble_eq_true rfl) (w_X1_addDrawing_0 (k_isScrX hS hS2 (fun w hw e => ⟨fun h0 => absurd h0 nI_01, fun _ => ?_⟩) (fun h => ⟨fun _ => kk1 (fun ⟨w, n, g1, g2, _⟩ => h ⟨w, g1.1, g2⟩), fun h0 => absurd rfl h0⟩)))))
  subst e
  obtain ⟨n, hn, en⟩ := hP w
  have un : dGood (gA v 2) (gA v 28) S Dr s (nI w) y → Dr < 40 ∧ s = n ∧ (nI 0 ≤ y ∧ y < nI 4) ∧ ∀ i, i < n → sml (gA v 2 i) ∨ gA v 2 i = nI 46 := by
    rintro ⟨w', n', g1, g2, g5, g3, g4⟩
    rw [nI_inj (by omega) (by omega)] at g2
    subst g2
    rw [en, nI_inj (by omega) (by omega)] at g3
    subst g3
    exact ⟨g1.2.2.1, g1.2.2.2, g5, g4⟩
  rw [hH, nI_leI (by decide) (by omega), nI_clamp (by omega), en, hs, nI_inj (by omega) (by omega)]
  have hiw : vp_in (nI w) 20 := vp_in_nI (by omega) (by decide)
  refine ⟨fun hy => kk1 (fun g => absurd (un g).2.2.1.1 (i_nle.mpr hy)), fun hy => ⟨fun hz => kk1 (fun g => absurd (un g).2.2.1.2 (i_nlt.mpr hz)), fun hz => ⟨fun h => kk1 (fun g => by have := (un g).1; omega), fun h => ⟨hiw, fun h3 => ?_, fun h3 => kk1 (fun g => h3 (un g).2.1)⟩⟩⟩⟩
  subst h3
  have step3 : dGood (gA v 2) (gA v 28) S Dr s (nI w) y → ∀ (m i : Nat), i + m = s → RI E (d + 1) 6 89 [(0, .ref 25), (1, .int (nI w)), (2, .int y), (3, .ref 1), (4, .int (gI v 0 13)), (5, .int (nI i))] (v_A v 37 (putf (gA v 37) (fun i => drw (gA v 2 i)) (24 * Dr) i)) (fun y2 v1 => vp_in y2 2 ∧ Q y2 (v_I v1 1 1 (nI 0))) := by
    intro hg m
    induction m with
    | zero =>
      intro i hi
      obtain rfl : i = s := by omega
      refine w_X1_addDrawing_89 ?_
      rw [nI_clamp (by omega : w < 2 ^ 31), show gA (v_A v 37 (putf (gA v 37) (fun i => drw (gA v 2 i)) (24 * Dr) i)) 28 w = nI i from en, show gI (v_A v 37 (putf (gA v 37) (fun i => drw (gA v 2 i)) (24 * Dr) i)) 25 14 = nI Dr from hH, nI_add Dr 1, nI_clamp (by omega : Dr < 2 ^ 31), nI_leI (by omega) (by omega)]
      have hi : vp_in (nI Dr) 40 := vp_in_nI (by omega) (by decide)
      exact ⟨hiw, fun _ => ⟨hi, hi, hi, vp_in_nI (by decide) (by decide), k2 hg⟩, fun hx => by omega⟩
    | succ m ih =>
      intro i hi
      have := ih (i + 1) (by omega)
      rw [← putf_s] at this
      refine w_X1_addDrawing_89 ?_
      rw [nI_clamp (by omega : w < 2 ^ 31), show gA (v_A v 37 (putf (gA v 37) (fun i => drw (gA v 2 i)) (24 * Dr) i)) 28 w = nI s from en, show gI (v_A v 37 (putf (gA v 37) (fun i => drw (gA v 2 i)) (24 * Dr) i)) 25 14 = nI Dr from hH, nI_leI (by omega) (by omega), pk_mul Dr 24, nI_add (Dr * 24) i, nI_add i 1, Nat.mul_comm Dr 24, nI_clamp (by omega : 24 * Dr + i < 2 ^ 31)]
      refine ⟨hiw, fun hx => by omega, fun _ => k_at (s := s) hs h2 (by omega) ⟨fun hx => k_at (s := s) hs h2 (by omega) ⟨vp_in_nI (by omega) (by decide), ?_⟩, fun hx => ⟨vp_in_nI (by omega) (by decide), ?_⟩⟩⟩
      · rw [show drw (gA v 2 i) = gA v 2 i - nI 97 from drw_f hx] at this
        rw [vA_s]
        exact this
      · rw [show drw (gA v 2 i) = -1 from drw_t hx] at this
        rw [vA_s]
        exact this
  have step2 : Dr < 40 → ∀ (m i : Nat), i + m = s → (∀ j, j < i → sml (gA v 2 j) ∨ gA v 2 j = nI 46) → RI E (d + 1) 6 44 [(0, .ref 25), (1, .int (nI w)), (2, .int y), (3, .ref 1), (4, .int (gI v 0 13)), (5, .int (nI i))] v (fun y2 v1 => vp_in y2 2 ∧ Q y2 (v_I v1 1 1 (nI 0))) := by
    intro hp m
    induction m with
    | zero =>
      intro i hi hf
      obtain rfl : i = s := by omega
      refine w_X1_addDrawing_44 ?_
      rw [nI_clamp (by omega : w < 2 ^ 31), en, nI_leI (by omega) (by omega)]
      refine ⟨hiw, fun _ => ?_, fun hx => by omega⟩
      have := step3 ⟨w, i, by omega, rfl, ⟨i_nlt.mp hy, i_nle.mp hz⟩, en, hf⟩ i 0 (by omega)
      rw [putf_0, vAself] at this
      exact this
    | succ m ih =>
      intro i hi hf
      have nx : (sml (gA v 2 i) ∨ gA v 2 i = nI 46) → RI E (d + 1) 6 44 [(0, .ref 25), (1, .int (nI w)), (2, .int y), (3, .ref 1), (4, .int (gI v 0 13)), (5, .int (nI (i + 1)))] v (fun y2 v1 => vp_in y2 2 ∧ Q y2 (v_I v1 1 1 (nI 0))) := by
        intro hx
        refine ih (i + 1) (by omega) (fun j hj => ?_)
        by_cases e : j = i
        · subst e
          exact hx
        · exact hf j (by omega)
      refine w_X1_addDrawing_44 ?_
      rw [nI_clamp (by omega : w < 2 ^ 31), en, nI_leI (by omega) (by omega), nI_add i 1]
      refine ⟨hiw, fun hx => by omega, fun _ => k_at (s := s) hs h2 (by omega) (k_isSmall ⟨fun hx => nx (Or.inl ?_), fun hx => k_at (s := s) hs h2 (by omega) ⟨fun hx' => nx (Or.inr hx'), fun hx' => kk1 (fun g => ?_)⟩⟩)⟩
      · rw [bB_0, Bool.not_eq_false, Bool.and_eq_true, decide_eq_true_eq, decide_eq_true_eq] at hx
        exact hx
      · rcases (un g).2.2.2 i (by omega) with q | q
        · rw [bB_0, decide_eq_true q.1, decide_eq_true q.2] at hx
          cases hx
        · exact hx' q
  exact step2 (by omega) s 0 (by omega) (fun j hj => by omega)

/-! the class: the least way over all walls -/
def WayY (ed : Nat → Nat → Nat → Prop) (X : Nat → Prop) (y : Int32) : Prop := ((¬ ∃ x, X x) ∧ y = nI 0) ∨ ((∃ a b, X a ∧ X b ∧ ¬ ∃ c, path ed a b c) ∧ y = -2) ∨ ∃ W, W < 1000000 ∧ WkT ed X 1000000 W ∧ y = nI W
theorem full_b (n i : Nat) : (2 ^ n - 1).testBit i = true ↔ i < n := by
  rw [Nat.testBit_two_pow_sub_one, decide_eq_true_eq]
theorem k_leastWay {E : Nat × (Nat → Int32)} {d : Nat} {u : xV} {ed : Nat → Nat → Nat → Prop} {W b : Nat} {co : Nat → Nat} {Q : Int32 → xV → Prop} (he : ∀ i j e, ed i j e → j < 12 ∧ e ≤ 99) (hs : ∀ i j e, ed i j e → ed j i e) (hW : gI u 11 7 = nI W) (hW8 : W ≤ 8) (hb : b < 2 ^ 8) (hco : ∀ w, gA u 13 w = nI (co w) ∧ co w < 12) (hwy : wayOK ed (gA u 12)) (kk : ∀ f n g y, WayY ed (fun x => ∃ w, w < W ∧ b.testBit w = true ∧ co w = x) y → Q y (v_A (sg u f n) 16 g)) : KI E (d + 2) 85 [.ref 11, .int (nI b)] u Q := by
  refine KI.of ok_85 (Nat.le_of_ble_eq_true rfl) (w_X9_leastWay_0 (k_gatherStops hW hW8 hb hco (fun f n cf h1 h2 h3 h4 => ?_)))
  rw [show gI (sg u f n) 11 5 = nI n from rfl, nI_inj (by omega) (by decide)]
  have self : sg u f n = v_A (sg u f n) 16 (gA u 16) := by
    rw [show gA u 16 = gA (sg u f n) 16 from rfl, vAself]
  refine ⟨fun hn0 => ?_, fun hn0 => ?_⟩
  · have hST : ∀ g, StX (v_A (sg u f n) 16 g) ed cf n := fun g => ⟨rfl, by omega, h2, h3, hwy⟩
    have hpw : 2 ^ n ≤ 256 := (Nat.pow_le_pow_right (by decide) (by omega) : 2 ^ n ≤ 2 ^ 8)
    have hpw1 : 1 ≤ 2 ^ n := Nat.one_le_two_pow
    have hX : ∀ x, (∃ w, w < W ∧ b.testBit w = true ∧ co w = x) ↔ ∃ i, i < n ∧ cf i = x := fun x => (h4 x).symm
    have fin : (∀ i, i < n → ∃ c, path ed (cf 0) (cf i) c) → ∀ (g : Nat → Int32) (t : Nat → Nat), (∀ z, z < n → g ((2 ^ n - 1) * 8 + z) = nI (t z) ∧ SpT ed cf 1000000 (2 ^ n - 1) z (t z)) → RI E (d + 2) 85 109 [(0, .ref 11), (2, .int (nI (2 ^ n - 1))), (3, .int (nI 1000000)), (4, .int (nI 0))] (v_A (sg u f n) 16 g) Q := by
      intro hp g t ht
      refine lp_up (n := n) (P := fun z => ∀ y, MinI 1000000 (fun _ => True) t z y → RI E (d + 2) 85 109 [(0, .ref 11), (2, .int (nI (2 ^ n - 1))), (3, .int (nI y)), (4, .int (nI z))] (v_A (sg u f n) 16 g) Q) (fun y hy => w_X9_leastWay_109 ?_) (fun z hz ih y hy => w_X9_leastWay_109 ?_) (Nat.zero_le _) 1000000 (MinI.zero _ _ _)
      · rw [show gI (v_A (sg u f n) 16 g) 11 5 = nI n from rfl]
        refine ⟨fun _ => kk f n g (nI y) (Or.inr (Or.inr ?_)), fun z => absurd (nI_le (Nat.le_refl _) (by omega)) z⟩
        have hw := WkT.of (ed := ed) hX (by omega) (full_b n) (fun z hz => (ht z hz).2) hy
        obtain ⟨l, c, l1, l2, l3⟩ := RW.all he hs h3 n hp
        have := hw.2.2 _ c l1 (fun x hx => by
          obtain ⟨i, hi, e⟩ := (hX x).mp hx
          rw [← e]
          exact l2 i hi)
        exact ⟨y, by omega, hw, rfl⟩
      · have hy1 := hy.1
        have ht1 := (ht z hz).2.1
        rw [show gI (v_A (sg u f n) 16 g) 11 5 = nI n from rfl, nI_leI (by omega) (by omega), pk_mul, nI_add, nI_add, nI_clamp (by omega), show gA (v_A (sg u f n) 16 g) 16 = g from rfl, (ht z hz).1, ifI (by omega) (by omega)]
        refine ⟨fun q => by omega, fun _ => ⟨vp_in_nI (by omega) (by decide), fun y2 hy2 => ?_⟩⟩
        subst hy2
        exact ih _ (hy.min trivial)
    have tours : (∀ i, i < n → ∃ c, path ed (cf 0) (cf i) c) → RI E (d + 2) 85 55 [(0, .ref 11), (2, .int (nI (2 ^ n - 1))), (3, .int (nI 1))] (v_A (sg u f n) 16 (gA u 16)) Q := by
      intro hp
      have key : ∀ S, S ≤ 2 ^ n → 1 ≤ S → ∀ g, (∀ S' i, 0 < S' → S' < S → i < n → ∃ x, g (S' * 8 + i) = nI x ∧ SpT ed cf 1000000 S' i x) → RI E (d + 2) 85 55 [(0, .ref 11), (2, .int (nI (2 ^ n - 1))), (3, .int (nI S))] (v_A (sg u f n) 16 g) Q := by
        intro S hS
        refine lp_up (n := 2 ^ n) (P := fun S => 1 ≤ S → ∀ g, (∀ S' i, 0 < S' → S' < S → i < n → ∃ x, g (S' * 8 + i) = nI x ∧ SpT ed cf 1000000 S' i x) → RI E (d + 2) 85 55 [(0, .ref 11), (2, .int (nI (2 ^ n - 1))), (3, .int (nI S))] (v_A (sg u f n) 16 g) Q) (fun _ g hg => w_X9_leastWay_55 ⟨fun _ => ?_, fun z => ?_⟩) (fun S hS ih hS1 g hg => w_X9_leastWay_55 ⟨fun z => ?_, fun _ => ?_⟩) hS
        · refine fin hp g (fun z => (g ((2 ^ n - 1) * 8 + z)).toNatClampNeg) (fun z hz => ?_)
          have h2n : 2 ≤ 2 ^ n := (Nat.pow_le_pow_right (by decide) (by omega) : 2 ^ 1 ≤ 2 ^ n)
          obtain ⟨x, x1, x2⟩ := hg (2 ^ n - 1) z (by omega) (by omega) hz
          have := x2.1
          show _ = nI (g ((2 ^ n - 1) * 8 + z)).toNatClampNeg ∧ SpT ed cf 1000000 (2 ^ n - 1) z (g ((2 ^ n - 1) * 8 + z)).toNatClampNeg
          rw [x1, nI_clamp (by omega)]
          exact ⟨rfl, x2⟩
        · rw [nI_ltI (by omega) (by omega)] at z
          omega
        · exfalso
          rw [nI_ltI (by omega) (by omega)] at z
          omega
        · refine lp_up (n := n) (P := fun z => ∀ g, (∀ S' i, 0 < S' → S' < S → i < n → ∃ x, g (S' * 8 + i) = nI x ∧ SpT ed cf 1000000 S' i x) → (∀ i, i < z → ∃ x, g (S * 8 + i) = nI x ∧ SpT ed cf 1000000 S i x) → RI E (d + 2) 85 63 [(0, .ref 11), (2, .int (nI (2 ^ n - 1))), (3, .int (nI S)), (4, .int (nI z))] (v_A (sg u f n) 16 g) Q) (fun g hg hg2 => w_X9_leastWay_63 ⟨fun _ => ?_, fun z => absurd (nI_le (Nat.le_refl _) (by omega)) z⟩) (fun z hz ihz g hg hg2 => w_X9_leastWay_63 ⟨fun q => ?_, fun _ => ?_⟩) (Nat.zero_le _) g hg (fun i hi => absurd hi (Nat.not_lt_zero _))
          · rw [nI_add]
            refine ih (by omega) g (fun S' i h0 hS' hi => ?_)
            by_cases e : S' = S
            · rw [e]
              exact hg2 i hi
            · exact hg S' i h0 (by omega) hi
          · exfalso
            rw [show gI (v_A (sg u f n) 16 g) 11 5 = nI n from rfl, nI_leI (by omega) (by omega)] at q
            omega
          · refine k_shortest (n := n) (hST g) hS hz hg (fun x hx => ?_)
            rw [pk_mul, nI_add, nI_add, nI_clamp (by omega), vA_s, show gA (v_A (sg u f n) 16 g) 16 = g from rfl]
            refine ⟨vp_in_nI (by omega) (by decide), ihz _ (fun S' i h0 hS' hi => ?_) (fun i hi => ?_)⟩
            · rw [upd_n _ _ (by omega)]
              exact hg S' i h0 hS' hi
            · by_cases e : i = z
              · subst e
                exact ⟨x, upd_s _ _ _, hx⟩
              · rw [upd_n _ _ (by omega)]
                exact hg2 i (by omega)
      exact key 1 hpw1 (Nat.le_refl _) (gA u 16) (fun S' i h0 hS' => by omega)
    rw [self]
    refine lp_up (n := n) (P := fun i => (∀ j, j < i → ∃ c, path ed (cf 0) (cf j) c) → RI E (d + 2) 85 16 [(0, .ref 11), (2, .int (nI i))] (v_A (sg u f n) 16 (gA u 16)) Q) (fun hp => w_X9_leastWay_16 ?_) (fun i hi ih hp => w_X9_leastWay_16 ?_) (show 1 ≤ n by omega) (fun j hj => by
      have : j = 0 := by omega
      subst this
      exact ⟨0, path_0 ed _⟩)
    · rw [show gI (v_A (sg u f n) 16 (gA u 16)) 11 5 = nI n from rfl]
      refine ⟨fun _ y1 hy1 => ?_, fun z => absurd (nI_le (Nat.le_refl _) (by omega)) z⟩
      rw [n_s1 (by omega), nI_sub hpw1] at hy1
      subst hy1
      exact tours hp
    · rw [show gI (v_A (sg u f n) 16 (gA u 16)) 11 5 = nI n from rfl, nI_leI (by omega) (by omega)]
      refine ⟨fun z => by omega, fun _ => k_way (hST _) (show 0 < n by omega) hi (fun x hx => ?_)⟩
      have hx1 := hx.1
      rw [nI_ltI (by omega) (by decide), nI_add]
      refine ⟨fun z => ih (fun j hj => ?_), fun z => kk f n _ _ (Or.inr (Or.inl ⟨⟨cf 0, cf i, (h4 _).mp ⟨0, by omega, rfl⟩, (h4 _).mp ⟨i, hi, rfl⟩, fun ⟨c, hc⟩ => ?_⟩, rfl⟩))⟩
      · by_cases e : j = i
        · subst e
          exact ⟨x, hx.2.1 z⟩
        · exact hp j (by omega)
      · obtain ⟨c', c1, c2⟩ := path_short he (h3 0) hc
        have := hx.2.2 c' c2
        omega
  · rw [self]
    refine kk f n _ _ (Or.inl ⟨fun ⟨x, hx⟩ => ?_, rfl⟩)
    obtain ⟨i, hi, -⟩ := (h4 x).mpr hx
    omega

/-! years, the reference: what counts, what the readings leave -/
def TF (x : Int32) (P : Prop) : Prop := (x = nI 1 ∧ P) ∨ (x = nI 0 ∧ ¬ P)
theorem TF.cong {x : Int32} {P P' : Prop} (h : TF x P) (e : P ↔ P') : TF x P' := by
  rcases h with ⟨h1, h2⟩ | ⟨h1, h2⟩
  · exact Or.inl ⟨h1, e.mp h2⟩
  · exact Or.inr ⟨h1, fun z => h2 (e.mpr z)⟩
/-- what the reference's years rest on: S scrawls, K known; N facts, n count -/
def RfX (v : xV) (t up : Int32) (K N n : Nat) : Prop :=
  (gI v 80 50 = nI (nS v) ∧ K ≤ nS v ∧ nS v ≤ 20 ∧ ∀ s, s < nS v → (gA v 103 s ≤ t ↔ s < K)) ∧
  (gI v 80 22 = nI (nA v) ∧ nA v ≤ 8 ∧ gA v 92 = gA v 14 ∧ ∀ i, ∃ n, n ≤ 4 ∧ gA v 14 i = nI n) ∧
  (gI v 80 70 = nI N ∧ n ≤ N ∧ N ≤ 80 ∧ ∀ f, f < N → ((nI f ≤ up ∧ gA v 126 f ≤ t) ↔ f < n)) ∧
  (gA v 100 = gA v 26 ∧ gA v 101 = gA v 27 ∧ gA v 121 = gA v 61 ∧ gA v 122 = gA v 62 ∧ gA v 123 = gA v 63 ∧ gA v 124 = gA v 64 ∧ gA v 125 = gA v 65) ∧
  (∀ s, s < K → isLay (gA v 14) (nA v) (gA v 26 s) (gA v 27 s)) ∧
  (∀ f, f < N → fAb (gA v 14) (gA v 8) (nA v) (nS v) (nW v) (gA v 61 f) (gA v 62 f) (gA v 63 f) ∧ fYr (gA v 61 f) (gA v 64 f) (gA v 65 f)) ∧
  ∀ f, f < n → (gA v 61 f = nI 1 ∨ gA v 61 f = nI 2 → isN K (gA v 62 f)) ∧ (gA v 61 f = nI 2 → isN K (gA v 63 f))
theorem k_counts {E : Nat × (Nat → Int32)} {d : Nat} {v : xV} {t up : Int32} {K N n f k : Nat} {Q : Int32 → xV → Prop} (hX : RfX v t up K N n) (hf : f < N) (k1 : f < n → gA v 61 f = nI k → Q (nI 1) v) (k0 : ¬ (f < n ∧ gA v 61 f = nI k) → Q (nI 0) v) : KI E d 203 [.ref 80, .int (nI f), .int t, .int up, .int (nI k)] v Q := by
  obtain ⟨-, -, ⟨x1, x2, x3, x4⟩, ⟨-, -, e1, -⟩, -⟩ := hX
  have h4 := x4 f hf
  refine KI.of ok_203 (Nat.le_of_ble_eq_true rfl) (w_X12_counts_0 ?_)
  simp (disch := omega) only [nI_clamp, vp_t, true_and, e1]
  refine ⟨fun z => k0 (fun y => absurd (h4.mpr y.1).1 (i_nle.mpr z)), fun z => ⟨fun y => k0 (fun q => absurd (h4.mpr q.1).2 (i_nle.mpr y)), fun y => ⟨fun q => k0 (fun z => q z.2), fun q => k1 (h4.mp ⟨i_nlt.mp z, i_nlt.mp y⟩) q⟩⟩⟩
theorem k_keepSome {E : Nat × (Nat → Int32)} {d : Nat} {v : xV} {f g : Nat → Int32} {Y : Nat → Nat → Bool} {s : Nat} {P : Nat → Prop} {Q : xV → Prop} (hs : s < 52) (hY : YS f Y) (hg : ∀ y, y < 200 → TF (g y) (P y)) (kk : ∀ f' Y', YS f' Y' → (∀ k y, y < 200 → (Y' k y = true ↔ Y k y = true ∧ (k = s → P y))) → Q (v_A (v_A v 127 f') 128 g)) : KV E d 207 [.ref 80, .int (nI s)] (v_A (v_A v 127 f) 128 g) Q := by
  refine KV.of ok_207 (Nat.le_of_ble_eq_true rfl) (w_X12_keepSome_0 ?_)
  refine lp_up (n := 200) (P := fun i => ∀ f' Y', YS f' Y' → (∀ k y, y < 200 → (Y' k y = true ↔ Y k y = true ∧ (k = s → y < i → P y))) → RV E d 207 2 [(0, .ref 80), (1, .int (nI s)), (2, .int (nI i))] (v_A (v_A v 127 f') 128 g) Q) (fun f' Y' h1 h2 => w_X12_keepSome_2 ⟨fun _ => kk f' Y' h1 (fun k y hy => ?_), fun z => absurd (by decide) z⟩) (fun i hi ih f' Y' h1 h2 => w_X12_keepSome_2 ⟨fun z => ?_, fun _ => ?_⟩) (Nat.zero_le _) f Y hY (fun k y _ => ⟨fun z => ⟨z, fun _ q => by omega⟩, fun z => z.1⟩)
  · rw [h2 k y hy]
    exact ⟨fun z => ⟨z.1, fun e => z.2 e hy⟩, fun z => ⟨z.1, fun e _ => z.2 e⟩⟩
  · exfalso
    rw [nI_leI (by decide) (by omega)] at z
    omega
  · have e : gA (v_A (v_A v 127 f') 128 g) 127 = f' := rfl
    have e2 : gA (v_A (v_A v 127 f') 128 g) 128 = g := rfl
    simp (disch := omega) only [pk_mul, nI_add, nI_clamp, vp_t, true_and, e, e2, vA_c, vA_s]
    rcases hg i hi with ⟨g1, g2⟩ | ⟨g1, g2⟩
    · rw [g1]
      refine ⟨fun _ => ih f' Y' h1 (fun k y hy => ?_), fun z => absurd z nI_01⟩
      rw [h2 k y hy]
      refine ⟨fun z => ⟨z.1, fun e q => ?_⟩, fun z => ⟨z.1, fun e q => z.2 e (by omega)⟩⟩
      by_cases ey : y = i
      · rw [ey]
        exact g2
      · exact z.2 e (by omega)
    · rw [g1]
      refine ⟨fun z => absurd rfl z, fun _ => ih _ _ (h1.put (k := s) hi) (fun k y hy => ?_)⟩
      rw [Bool.and_eq_true, h2 k y hy, Bool.not_eq_true', decide_eq_false_iff_not]
      refine ⟨fun z => ⟨z.1.1, fun e q => ?_⟩, fun z => ⟨⟨z.1, fun e q => z.2 e (by omega)⟩, ?_⟩⟩
      · by_cases ey : y = i
        · exact absurd ⟨e, ey⟩ z.2
        · exact z.1.2 e (by omega)
      · rintro ⟨rfl, rfl⟩
        exact g2 (z.2 rfl (by omega))
theorem k_isEmpty {E : Nat × (Nat → Int32)} {d : Nat} {v : xV} {t up : Int32} {K N n : Nat} {f : Nat → Int32} {Y : Nat → Nat → Bool} {Q : Int32 → xV → Prop} (hX : RfX v t up K N n) (hY : YS f Y) (k1 : (∃ k, k < 52 ∧ ∀ z, z < 200 → Y k z = false) → Q (nI 1) (v_A v 127 f)) (k0 : (∀ s, s < K → ∃ z, z < 200 ∧ Y s z = true) → (∀ a l n, a < nA v → gA v 14 a = nI n → l < n → n ≤ 4 → ∃ z, z < 200 ∧ Y (20 + 4 * a + l) z = true) → Q (nI 0) (v_A v 127 f)) : KI E (d + 1) 205 [.ref 80, .int t] (v_A v 127 f) Q := by
  obtain ⟨⟨x1, x2, x3, x4⟩, ⟨y1, y2, y3, y4⟩, -⟩ := id hX
  refine KI.of ok_205 (Nat.le_of_ble_eq_true rfl) (w_X12_isEmpty_0 ?_)
  -- the layers
  have lay : ∀ a, a ≤ nA v → (∀ s, s < K → ∃ z, z < 200 ∧ Y s z = true) → (∀ a' l n, a' < a → gA v 14 a' = nI n → l < n → n ≤ 4 → ∃ z, z < 200 ∧ Y (20 + 4 * a' + l) z = true) → RI E (d + 1) 205 41 [(0, .ref 80), (2, .int (nI a))] (v_A v 127 f) Q := by
    intro a ha hs
    refine lp_up (n := nA v) (P := fun a => (∀ a' l n, a' < a → gA v 14 a' = nI n → l < n → n ≤ 4 → ∃ z, z < 200 ∧ Y (20 + 4 * a' + l) z = true) → RI E (d + 1) 205 41 [(0, .ref 80), (2, .int (nI a))] (v_A v 127 f) Q) (fun h => w_X12_isEmpty_41 ?_) (fun a ha ih h => w_X12_isEmpty_41 ?_) ha
    · rw [show gI (v_A v 127 f) 80 22 = nI (nA v) from y1]
      exact ⟨fun _ => k0 hs h, fun z => absurd (nI_le (Nat.le_refl _) (by omega)) z⟩
    · rw [show gI (v_A v 127 f) 80 22 = nI (nA v) from y1, nI_leI (by omega) (by omega)]
      refine ⟨fun z => absurd z (by omega), fun _ => ?_⟩
      obtain ⟨m, hm, em⟩ := y4 a
      have e92 : gA (v_A v 127 f) 92 a = nI m := by
        show gA v 92 a = nI m
        rw [y3]
        exact em
      refine lp_up (n := m) (P := fun l => (∀ l', l' < l → ∃ z, z < 200 ∧ Y (20 + 4 * a + l') z = true) → RI E (d + 1) 205 51 [(0, .ref 80), (2, .int (nI a)), (3, .int (nI l))] (v_A v 127 f) Q) (fun hl => w_X12_isEmpty_51 ?_) (fun l hl ih2 h2 => w_X12_isEmpty_51 ?_) (Nat.zero_le _) (fun l' z => absurd z (by omega))
      · simp (disch := omega) only [nI_clamp, vp_t, true_and, e92, nI_leI, nI_add]
        refine ⟨fun _ => ih (fun a' l n q1 q2 q3 q4 => ?_), fun z => absurd (Nat.le_refl _) z⟩
        by_cases e : a' = a
        · subst e
          rw [em, nI_eq (by omega) (by omega)] at q2
          exact hl l (by omega)
        · exact h a' l n (by omega) q2 q3 q4
      · simp (disch := omega) only [nI_clamp, vp_t, true_and, e92, nI_leI, nI_add]
        refine ⟨fun z => absurd z (by omega), fun _ => k_layerVar (k_leastM (k := 20 + 4 * a + l) (by omega) hY (fun r r1 r2 r3 => ⟨fun hne => ih2 (fun l' hl' => ?_), fun he => k1 ⟨20 + 4 * a + l, by omega, fun z hz => r3 z ?_⟩⟩))⟩
        · by_cases e : l' = l
          · subst e
            have : r < 200 := by
              apply Nat.lt_of_le_of_ne r1
              intro e
              exact hne (by rw [e])
            exact ⟨r, this, r2 this⟩
          · exact h2 l' (by omega)
        · rw [nI_eq (by omega) (by omega)] at he
          omega
  refine lp_up (n := nS v) (P := fun i => (∀ s, s < i → s < K → ∃ z, z < 200 ∧ Y s z = true) → RI E (d + 1) 205 2 [(0, .ref 80), (1, .int t), (2, .int (nI i))] (v_A v 127 f) Q) (fun h => w_X12_isEmpty_2 ?_) (fun i hi ih h => w_X12_isEmpty_2 ?_) (Nat.zero_le _) (fun s z => absurd z (by omega))
  · rw [show gI (v_A v 127 f) 80 50 = nI (nS v) from x1]
    exact ⟨fun _ => lay 0 (Nat.zero_le _) (fun s hs => h s (by omega) hs) (fun a' l n z => absurd z (by omega)), fun z => absurd (nI_le (Nat.le_refl _) (by omega)) z⟩
  · have e50 : gI (v_A v 127 f) 80 50 = nI (nS v) := x1
    have e103 : gA (v_A v 127 f) 103 = gA v 103 := rfl
    simp (disch := omega) only [nI_clamp, vp_t, true_and, e50, nI_leI, nI_add, e103]
    refine ⟨fun z => absurd z (by omega), fun _ => ⟨fun hlt => ih (fun s q1 q2 => ?_), fun hnlt => k_leastM (k := i) (by omega) hY (fun r r1 r2 r3 => ⟨fun hne => ih (fun s q1 q2 => ?_), fun he => k1 ⟨i, by omega, fun z hz => r3 z ?_⟩⟩)⟩⟩
    · by_cases e : s = i
      · subst e
        exact absurd ((x4 s hi).mpr q2) (i_nle.mpr hlt)
      · exact h s (by omega) q2
    · by_cases e : s = i
      · subst e
        have : r < 200 := by
          apply Nat.lt_of_le_of_ne r1
          intro e
          exact hne (by rw [e])
        exact ⟨r, this, r2 this⟩
      · exact h s (by omega) q2
    · rw [nI_eq (by omega) (by omega)] at he
      omega

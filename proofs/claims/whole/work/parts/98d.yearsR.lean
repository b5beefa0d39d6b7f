/-! years, the reference: settle -/
/-- least and greatest years, as the sets show them -/
def MinMax (v : xV) (K n : Nat) (Y : Nat → Nat → Bool) : Prop := ∃ L G, (SolD v K n L ∧ ∀ y, SolD v K n y → ∀ k, k < 52 → L k ≤ y k) ∧ (SolD v K n G ∧ ∀ y, SolD v K n y → ∀ k, k < 52 → y k ≤ G k) ∧ ∀ k, k < 52 → (Y k (L k) = true ∧ ∀ z, z < L k → Y k z = false) ∧ Y k (G k) = true ∧ ∀ z, G k < z → z < 200 → Y k z = false
theorem least_ex {P : Nat → Bool} : ∀ n, P n = true → ∃ m, m ≤ n ∧ P m = true ∧ ∀ z, z < m → P z = false := by
  intro n
  induction n using Nat.strongRecOn with
  | _ n ih =>
    intro h
    by_cases e : ∃ z, z < n ∧ P z = true
    · obtain ⟨z, h1, h2⟩ := e
      obtain ⟨m, h3, h4⟩ := ih z h1 h2
      exact ⟨m, by omega, h4⟩
    · refine ⟨n, Nat.le_refl _, h, fun z hz => ?_⟩
      cases hq : P z with
      | false => rfl
      | true => exact absurd ⟨z, hz, hq⟩ e
theorem great_ex {P : Nat → Bool} {B : Nat} : ∀ j n, n + j = B → n < B → P n = true → ∃ m, (n ≤ m ∧ m < B) ∧ P m = true ∧ ∀ z, m < z → z < B → P z = false := by
  intro j
  induction j using Nat.strongRecOn with
  | _ j ih =>
    intro n hn hB h
    by_cases e : ∃ z, n < z ∧ z < B ∧ P z = true
    · obtain ⟨z, h1, h2, h3⟩ := e
      obtain ⟨m, h4, h5⟩ := ih (B - z) (by omega) z (by omega) h2 h3
      exact ⟨m, by omega, h5⟩
    · refine ⟨n, ⟨Nat.le_refl _, hB⟩, h, fun z hz hz2 => ?_⟩
      cases hq : P z with
      | false => rfl
      | true => exact absurd ⟨z, hz, hz2, hq⟩ e
theorem MinMax.of {v : xV} {t up : Int32} {K N n : Nat} {Y : Nat → Nat → Bool} (hX : RfX v t up K N n) (h1 : ∀ k y, k < 52 → y < 200 → Y k y = true → DomY v K n k y) (h2 : ∀ p, SolD v K n p → InY Y p) (h3 : ∀ u w, Con v K n u w → LeOK Y u w) (h4 : ∀ k, k < 52 → ∃ z, z < 200 ∧ Y k z = true) : MinMax v K n Y := by
  have hL : ∀ k, ∃ m, k < 52 → m < 200 ∧ Y k m = true ∧ ∀ z, z < m → Y k z = false := by
    intro k
    by_cases hk : k < 52
    · obtain ⟨z, z1, z2⟩ := h4 k hk
      obtain ⟨m, m1, m2⟩ := least_ex z z2
      exact ⟨m, fun _ => ⟨by omega, m2⟩⟩
    · exact ⟨0, fun z => absurd z hk⟩
  have hG : ∀ k, ∃ m, k < 52 → m < 200 ∧ Y k m = true ∧ ∀ z, m < z → z < 200 → Y k z = false := by
    intro k
    by_cases hk : k < 52
    · obtain ⟨z, z1, z2⟩ := h4 k hk
      obtain ⟨m, m1, m2⟩ := great_ex (B := 200) (200 - z) z (by omega) z1 z2
      exact ⟨m, fun _ => ⟨m1.2, m2⟩⟩
    · exact ⟨0, fun z => absurd z hk⟩
  refine ⟨fun k => (hL k).choose, fun k => (hG k).choose, ⟨⟨fun k hk => ?_, fun u w hc => ?_⟩, fun y hy k hk => ?_⟩, ⟨⟨fun k hk => ?_, fun u w hc => ?_⟩, fun y hy k hk => ?_⟩, fun k hk => ?_⟩
  · obtain ⟨a, b, c⟩ := (hL k).choose_spec hk
    exact ⟨a, h1 k _ hk a b⟩
  · obtain ⟨⟨-, r2⟩, -, r4⟩ := Con.rel hX hc
    obtain ⟨a, b, c⟩ := (hL u).choose_spec r2
    obtain ⟨a', b', c'⟩ := (hL w).choose_spec r4
    obtain ⟨z, q1, q2⟩ := (h3 u w hc).1 _ a' b'
    show (hL u).choose ≤ (hL w).choose
    apply Nat.le_of_not_lt
    intro hlt
    rw [c z (by omega)] at q2
    cases q2
  · obtain ⟨a, b, c⟩ := (hL k).choose_spec hk
    obtain ⟨q1, q2⟩ := h2 y hy k hk
    show (hL k).choose ≤ y k
    apply Nat.le_of_not_lt
    intro hlt
    rw [c _ hlt] at q2
    cases q2
  · obtain ⟨a, b, c⟩ := (hG k).choose_spec hk
    exact ⟨a, h1 k _ hk a b⟩
  · obtain ⟨⟨-, r2⟩, -, r4⟩ := Con.rel hX hc
    obtain ⟨a, b, c⟩ := (hG u).choose_spec r2
    obtain ⟨a', b', c'⟩ := (hG w).choose_spec r4
    obtain ⟨z, q1, q2⟩ := (h3 u w hc).2 _ a b
    show (hG u).choose ≤ (hG w).choose
    apply Nat.le_of_not_lt
    intro hlt
    rw [c' z (by omega) q1.2] at q2
    cases q2
  · obtain ⟨a, b, c⟩ := (hG k).choose_spec hk
    obtain ⟨q1, q2⟩ := h2 y hy k hk
    show y k ≤ (hG k).choose
    apply Nat.le_of_not_lt
    intro hlt
    rw [c _ hlt q1] at q2
    cases q2
  · obtain ⟨a, b, c⟩ := (hL k).choose_spec hk
    obtain ⟨a', b', c'⟩ := (hG k).choose_spec hk
    exact ⟨⟨b, c⟩, b', c'⟩
theorem Ful.all {v : xV} {K : Nat} {Y : Nat → Nat → Bool} (hf : Ful v K Y) (h1 : ∀ s, s < K → ∃ z, z < 200 ∧ Y s z = true) (h2 : ∀ a l n, a < nA v → gA v 14 a = nI n → l < n → n ≤ 4 → ∃ z, z < 200 ∧ Y (20 + 4 * a + l) z = true) : ∀ k, k < 52 → ∃ z, z < 200 ∧ Y k z = true := by
  intro k hk
  by_cases hr : Rel v K k
  · rcases hr with hr | ⟨a, l, n, q1, q2, q3, rfl⟩
    · exact h1 k hr
    · exact h2 a l n q1 q2 q3.1 q3.2
  · exact ⟨0, by decide, hf k hk hr 0 (by decide)⟩
theorem k_passes {E : Nat × (Nat → Int32)} {d : Nat} {v : xV} {t up : Int32} {K N n : Nat} {Q : xV → Prop} (hX : RfX v t up K N n) (k1 : ∀ f Y, YS f Y → MinMax v K n Y → Q (v_I (v_I (v_A v 127 f) 80 73 (nI 0)) 80 72 (nI 1))) (k0 : ∀ f, (¬ ∃ y, SolD v K n y) → Q (v_I (v_I (v_A v 127 f) 80 73 (nI 0)) 80 72 (nI 0))) : ∀ (M : Nat) (f : Nat → Int32) (Y : Nat → Nat → Bool), muY f ≤ M → YS f Y → (∀ k y, k < 52 → y < 200 → Y k y = true → DomY v K n k y) → (∀ p, SolD v K n p → InY Y p) → Ful v K Y → RV E (d + 2) 204 156 [(0, .ref 80), (1, .int t), (2, .int up)] (v_I (v_A v 127 f) 80 73 (nI 1)) Q := by
  obtain ⟨-, -, ⟨z1, z2, z3, z4⟩, -⟩ := id hX
  have dead : ∀ Y, (∀ p, SolD v K n p → InY Y p) → (∃ k, k < 52 ∧ ∀ z, z < 200 → Y k z = false) → ¬ ∃ y, SolD v K n y := by
    rintro Y h ⟨k, hk, hz⟩ ⟨y, hy⟩
    obtain ⟨q1, q2⟩ := h y hy k hk
    rw [hz _ q1] at q2
    cases q2
  have last : ∀ f Y, YS f Y → (∀ k y, k < 52 → y < 200 → Y k y = true → DomY v K n k y) → (∀ p, SolD v K n p → InY Y p) → Ful v K Y → ((∃ k, k < 52 ∧ ∀ z, z < 200 → Y k z = false) ∨ ∀ u w, Con v K n u w → LeOK Y u w) → RV E (d + 2) 204 156 [(0, .ref 80), (1, .int t), (2, .int up)] (v_I (v_A v 127 f) 80 73 (nI 0)) Q := by
    intro f Y h1 h2 h3 h4 h5
    refine w_X12_settle_156 ⟨fun _ => ?_, fun q => absurd rfl q⟩
    have hXf : RfX (v_I v 80 73 (nI 0)) t up K N n := hX
    refine k_isEmpty (v := v_I v 80 73 (nI 0)) hXf h1 (fun he => ⟨fun _ => k0 f (dead Y h3 he), fun q => absurd q nI_01⟩) (fun b1 b2 => ⟨fun q => absurd rfl q, fun _ => ?_⟩)
    have hall := h4.all b1 b2
    rcases h5 with ⟨k, hk, hz⟩ | h5
    · obtain ⟨z, q1, q2⟩ := hall k hk
      rw [hz z q1] at q2
      cases q2
    · exact k1 f Y h1 (MinMax.of hX h2 h3 h5 hall)
  intro M
  induction M using Nat.strongRecOn with
  | _ M ih =>
    intro f Y hM h1 h2 h3 h4
    refine w_X12_settle_156 ⟨fun q => absurd q nI_01, fun _ => ?_⟩
    rw [vI_s]
    refine k_pass hX (Y0 := Y) ⟨h1, fun _ _ q => q, h3, h4, fun _ => ⟨fun _ _ => rfl, fun _ _ q => q.elim⟩, fun q => (by cases q)⟩ (fun f' Y' z H => ?_)
    obtain ⟨g1, g2, g3, g4, g5, g6⟩ := H
    have g7 : ∀ k y, k < 52 → y < 200 → Y' k y = true → DomY v K n k y := fun k y a b c => h2 k y a b (g2 k y c)
    refine w_X12_settle_317 ?_
    rw [show gI (v_I (v_A v 127 f') 80 73 (bB z)) 80 70 = nI N from z1]
    refine ⟨fun _ => ?_, fun q => absurd (nI_le (Nat.le_refl _) (by omega)) q⟩
    cases z with
    | false =>
      refine ⟨fun _ => last f' Y' g1 g7 g3 g4 (Or.inr (fun u w hc => ?_)), fun q => absurd rfl q⟩
      obtain ⟨e1, e2⟩ := g5 rfl
      have eY : Y' = Y := by
        funext k y
        exact e1 k y
      rw [eY]
      exact e2 u w hc
    | true =>
      refine ⟨fun q => absurd q nI_01, fun _ => ?_⟩
      have hXf : RfX (v_I v 80 73 (nI 1)) t up K N n := hX
      refine k_isEmpty (v := v_I v 80 73 (nI 1)) hXf g1 (fun he => ⟨fun q => absurd q nI_01, fun _ => ?_⟩) (fun b1 b2 => ⟨fun _ => ?_, fun q => absurd rfl q⟩)
      · have := last f' Y' g1 g7 g3 g4 (Or.inl he)
        rw [← vIA, vI_s]
        exact this
      · exact ih (muY f') (by have := muY_lt h1 g1 g2 (g6 rfl); omega) f' Y' (Nat.le_refl _) g1 g7 g3 g4
/-- the limits that facts set -/
def LimD (v : xV) (n i k y : Nat) : Prop := ∀ f, f < i → f < n → limF v f k → (gA v 64 f ≤ nI y ∧ nI y ≤ gA v 65 f)
theorem k_settle7 {E : Nat × (Nat → Int32)} {d : Nat} {v : xV} {t up : Int32} {K N n : Nat} {ws : Nat → List Nat} {Q : xV → Prop} (hX : RfX v t up K N n) (hR : ∀ s, s < K → RdX v s (ws s)) (k1 : ∀ f g Y, YS f Y → MinMax v K n Y → Q (v_I (v_I (v_A (v_A v 127 f) 128 g) 80 73 (nI 0)) 80 72 (nI 1))) (k0 : ∀ f g, (¬ ∃ y, SolD v K n y) → Q (v_I (v_I (v_A (v_A v 127 f) 128 g) 80 73 (nI 0)) 80 72 (nI 0))) : RV E (d + 2) 204 7 [(0, .ref 80), (1, .int t), (2, .int up), (3, .int (nI 0))] v Q := by
  obtain ⟨⟨x1, x2, x3, x4⟩, ⟨y1, y2, y3, y4⟩, ⟨z1, z2, z3, z4⟩, ⟨e100, e101, e121, e122, e123, e124, e125⟩, hl, hF, hkn⟩ := id hX
  -- the readings
  have reads : ∀ s, s ≤ nS v → ∀ f g Y, YS f Y → (∀ k y, k < 52 → y < 200 → (Y k y = true ↔ LimD v n N k y ∧ (k < s → k < K → ∀ j, j < 7 → SlD v K n k j y))) → RV E (d + 2) 204 120 [(0, .ref 80), (1, .int t), (2, .int up), (3, .int (nI s))] (v_A (v_A v 127 f) 128 g) Q := by
    intro s hs
    refine lp_up (n := nS v) (P := fun s => ∀ f g Y, YS f Y → (∀ k y, k < 52 → y < 200 → (Y k y = true ↔ LimD v n N k y ∧ (k < s → k < K → ∀ j, j < 7 → SlD v K n k j y))) → RV E (d + 2) 204 120 [(0, .ref 80), (1, .int t), (2, .int up), (3, .int (nI s))] (v_A (v_A v 127 f) 128 g) Q) (fun f g Y h1 h2 => w_X12_settle_120 ?_) (fun s hs ih f g Y h1 h2 => w_X12_settle_120 ?_) hs
    · rw [show gI (v_A (v_A v 127 f) 128 g) 80 50 = nI (nS v) from x1]
      refine ⟨fun _ => ?_, fun q => absurd (nI_le (Nat.le_refl _) (by omega)) q⟩
      have hdom : ∀ k y, k < 52 → y < 200 → (Y k y = true ↔ DomY v K n k y) := by
        intro k y hk hy
        rw [h2 k y hk hy]
        refine ⟨fun q => ⟨fun f hf hlim => q.1 f (by omega) hf hlim, fun hk20 j hj => ?_⟩, fun q => ⟨fun f _ hf hlim => q.1 f hf hlim, fun _ hkK j hj => q.2 (by omega) j hj⟩⟩
        by_cases hkK : k < K
        · exact q.2 (by omega) hkK j hj
        · rintro ⟨f, q1, q2⟩
          exfalso
          have := q2.1
          omega
      have e : v_I (v_A (v_A v 127 f) 128 g) 80 73 (nI 1) = v_I (v_A (v_A v 128 g) 127 f) 80 73 (nI 1) := by
        rw [vA_c (v := v) (i := 127) (j := 128) (by decide)]
      rw [e]
      have hX' : RfX (v_A v 128 g) t up K N n := hX
      have back : ∀ f' x, v_I (v_I (v_A (v_A v 128 g) 127 f') 80 73 (nI 0)) 80 72 x = v_I (v_I (v_A (v_A v 127 f') 128 g) 80 73 (nI 0)) 80 72 x := by
        intro f' x
        rw [vA_c (v := v) (i := 127) (j := 128) (by decide)]
      refine k_passes hX' (fun f' Y' b1 b2 => ?_) (fun f' b1 => ?_) (muY f) f Y (Nat.le_refl _) h1 (fun k y hk hy hq => (hdom k y hk hy).mp hq) (fun p hp k hk => ⟨(hp.1 k hk).1, (hdom k _ hk (hp.1 k hk).1).mpr (hp.1 k hk).2⟩) (fun k hk hr zz hz => (h2 k zz hk hz).mpr ⟨fun f hf hfn hlim => ?_, fun _ hkK => absurd (Or.inl hkK) hr⟩)
      · rw [back]
        exact k1 f' g Y' b1 b2
      · rw [back]
        exact k0 f' g b1
      · exfalso
        rcases hlim with ⟨c1, a, b, c2, c3, c4, c5⟩ | ⟨c1, c2, c3⟩
        · rcases (hF f hf).1 with ⟨_, w, l, m, q1, q2, q3, q4⟩ | ⟨q, _⟩ | ⟨q, _⟩ | ⟨q, _⟩ | ⟨q, _⟩
          · rw [c3, nI_eq (by omega) (by omega)] at q2
            rw [c4, nI_eq (by omega) (by omega)] at q4
            subst q2 q4
            exact hr (Or.inr ⟨a, b, m, q1.1, q3, ⟨q1.2.2, q1.2.1⟩, c5⟩)
          · rw [c1] at q
            exact absurd q (by decide)
          · rw [c1] at q
            exact absurd q (by decide)
          · rw [c1] at q
            exact absurd q (by decide)
          · rw [c1] at q
            exact absurd q (by decide)
        · obtain ⟨a, ha, ea⟩ := (hkn f hfn).1 (Or.inl c1)
          rw [c2, nI_eq (by omega) (by omega)] at ea
          exact hr (Or.inl (by omega))
    · have e50 : gI (v_A (v_A v 127 f) 128 g) 80 50 = nI (nS v) := x1
      have e103 : gA (v_A (v_A v 127 f) 128 g) 103 = gA v 103 := rfl
      simp (disch := omega) only [nI_clamp, vp_t, true_and, e50, e103, nI_leI, nI_add]
      refine ⟨fun q => absurd q (by omega), fun _ => ⟨fun hlt => ih f g Y h1 (fun k y hk hy => ?_), fun hnlt => ?_⟩⟩
      · rw [h2 k y hk hy]
        refine ⟨fun q => ⟨q.1, fun a b => q.2 ?_ b⟩, fun q => ⟨q.1, fun a b => q.2 (by omega) b⟩⟩
        by_cases e : k = s
        · subst e
          exact absurd ((x4 k hs).mpr b) (i_nle.mpr hlt)
        · omega
      · have hsK := (x4 s hs).mp (i_nlt.mp hnlt)
        refine k_keepRead hX (hR s hsK) hsK h1 (fun f' g' Y' b1 b2 => ih f' g' Y' b1 (fun k y hk hy => ?_))
        rw [b2 k y hy, h2 k y hk hy]
        refine ⟨fun q => ⟨q.1.1, fun a b => ?_⟩, fun q => ⟨⟨q.1, fun a b => q.2 (by omega) b⟩, fun e => ?_⟩⟩
        · by_cases e : k = s
          · rw [e]
            exact q.2 e
          · exact q.1.2 (by omega) b
        · rw [← e]
          exact q.2 (by omega) (by omega)
  -- the facts
  have limits : ∀ i, i ≤ N → ∀ f Y, YS f Y → (∀ k y, k < 52 → y < 200 → (Y k y = true ↔ LimD v n i k y)) → RV E (d + 2) 204 29 [(0, .ref 80), (1, .int t), (2, .int up), (3, .int (nI i))] (v_A v 127 f) Q := by
    intro i hi
    refine lp_up (n := N) (P := fun i => ∀ f Y, YS f Y → (∀ k y, k < 52 → y < 200 → (Y k y = true ↔ LimD v n i k y)) → RV E (d + 2) 204 29 [(0, .ref 80), (1, .int t), (2, .int up), (3, .int (nI i))] (v_A v 127 f) Q) (fun f Y h1 h2 => w_X12_settle_29 ?_) (fun i hi ih f Y h1 h2 => w_X12_settle_29 ?_) hi
    · rw [show gI (v_A v 127 f) 80 70 = nI N from z1]
      refine ⟨fun _ => ?_, fun q => absurd (nI_le (Nat.le_refl _) (by omega)) q⟩
      have := reads 0 (Nat.zero_le _) f (gA (v_A v 127 f) 128) Y h1 (fun k y hk hy => (h2 k y hk hy).trans ⟨fun q => ⟨q, fun a => absurd a (by omega)⟩, fun q => q.1⟩)
      rw [vAself] at this
      exact this
    · have e70 : gI (v_A v 127 f) 80 70 = nI N := z1
      rw [e70, nI_leI (by omega) (by omega)]
      refine ⟨fun q => absurd q (by omega), fun _ => ?_⟩
      have ext1 : ∀ {k y : Nat}, (¬ (i < n ∧ limF v i k)) → (LimD v n (i + 1) k y ↔ LimD v n i k y) := by
        intro k y hno
        refine ⟨fun q f hf => q f (by omega), fun q f hf hfn hlim => ?_⟩
        by_cases e : f = i
        · subst e
          exact absurd ⟨hfn, hlim⟩ hno
        · exact q f (by omega) hfn hlim
      have ext2 : ∀ {k y : Nat}, i < n → limF v i k → (LimD v n (i + 1) k y ↔ LimD v n i k y ∧ (gA v 64 i ≤ nI y ∧ nI y ≤ gA v 65 i)) := by
        intro k y hin hlm
        refine ⟨fun q => ⟨fun f hf => q f (by omega), q i (by omega) hin hlm⟩, fun q f hf hfn hlim => ?_⟩
        by_cases e : f = i
        · rw [e]
          exact q.2
        · exact q.1 f (by omega) hfn hlim
      -- the second question
      have snd : ∀ f Y, YS f Y → ((¬ (i < n ∧ gA v 61 i = nI 1)) → ∀ k y, k < 52 → y < 200 → (Y k y = true ↔ LimD v n (i + 1) k y)) → ((i < n ∧ gA v 61 i = nI 1) → ∀ k y, k < 52 → y < 200 → (Y k y = true ↔ LimD v n i k y)) → RV E (d + 2) 204 79 [(0, .ref 80), (1, .int t), (2, .int up), (3, .int (nI i))] (v_A v 127 f) Q := by
        intro f Y q1 q2 q3
        have hXf : RfX (v_A v 127 f) t up K N n := hX
        refine w_X12_settle_79 (k_counts hXf hi (fun c1 c2 => ⟨fun q => absurd q nI_01, fun _ => ?_⟩) (fun c1 => ⟨fun _ => by rw [nI_add]; exact ih f Y q1 (q2 c1), fun q => absurd rfl q⟩))
        have c2 : gA v 61 i = nI 1 := c2
        obtain ⟨a, ha, ea⟩ := (hkn i c1).1 (Or.inl c2)
        have ea' : gA (v_A v 127 f) 122 i = nI a := by
          show gA v 122 i = nI a
          rw [e122]
          exact ea
        have e124' : gA (v_A v 127 f) 124 = gA v 64 := e124
        have e125' : gA (v_A v 127 f) 125 = gA v 65 := e125
        simp (disch := omega) only [nI_clamp, vp_t, true_and, ea', e124', e125', nI_add]
        refine k_keepYears (by omega) q1 (fun f' Y' b1 b2 => ih f' Y' b1 (fun k y hk hy => ?_))
        rw [b2 k y]
        by_cases e : k = a
        · subst e
          rw [ext2 c1 (Or.inr ⟨c2, ea, by omega⟩), ← q3 ⟨c1, c2⟩ k y hk hy, decide_eq_true (rfl : k = k), decide_eq_false (show ¬ 200 ≤ y by omega), Bool.not_true, Bool.false_or, Bool.or_false, Bool.and_eq_true, Bool.and_eq_true, decide_eq_true_eq, decide_eq_true_eq]
        · rw [decide_eq_false e, Bool.not_false, Bool.true_or, Bool.true_or, Bool.and_true, q3 ⟨c1, c2⟩ k y hk hy, ext1]
          rintro ⟨_, hlim⟩
          rcases hlim with ⟨g1, _⟩ | ⟨g1, g2, g3⟩
          · rw [c2] at g1
            exact absurd g1 (by decide)
          · rw [ea, nI_eq (by omega) (by omega)] at g2
            exact e g2.symm
      have hXf : RfX (v_A v 127 f) t up K N n := hX
      refine k_counts hXf hi (fun c1 c2 => ⟨fun q => absurd q nI_01, fun _ => ?_⟩) (fun c1 => ⟨fun _ => snd f Y h1 (fun c2 k y hk hy => ?_) (fun _ => h2), fun q => absurd rfl q⟩)
      · have c2 : gA v 61 i = nI 0 := c2
        obtain ⟨a, l, m, q1, ea, q3, el⟩ : isLay (gA v 14) (nA v) (gA v 62 i) (gA v 63 i) := by
          rcases (hF i hi).1 with ⟨_, q⟩ | ⟨q, _⟩ | ⟨q, _⟩ | ⟨q, _⟩ | ⟨q, _⟩
          · exact q
          · rw [c2] at q
            exact absurd q (by decide)
          · rw [c2] at q
            exact absurd q (by decide)
          · rw [c2] at q
            exact absurd q (by decide)
          · rw [c2] at q
            exact absurd q (by decide)
        have ea' : gA (v_A v 127 f) 122 i = nI a := by
          show gA v 122 i = nI a
          rw [e122]
          exact ea
        have el' : gA (v_A v 127 f) 123 i = nI l := by
          show gA v 123 i = nI l
          rw [e123]
          exact el
        have e124' : gA (v_A v 127 f) 124 = gA v 64 := e124
        have e125' : gA (v_A v 127 f) 125 = gA v 65 := e125
        simp (disch := omega) only [nI_clamp, vp_t, true_and, ea', el']
        refine k_layerVar ?_
        simp (disch := omega) only [nI_clamp, vp_t, true_and, e124', e125']
        have hno : ¬ gA v 61 i = nI 1 := by
          rw [c2]
          decide
        refine k_keepYears (by omega) h1 (fun f' Y' b1 b2 => snd f' Y' b1 (fun _ k y hk hy => ?_) (fun q => absurd q.2 hno))
        rw [b2 k y]
        by_cases e : k = 20 + 4 * a + l
        · rw [ext2 c1 (Or.inl ⟨c2, a, l, ⟨by omega, by omega⟩, ea, el, e⟩), ← h2 k y hk hy, decide_eq_true e, decide_eq_false (show ¬ 200 ≤ y by omega), Bool.not_true, Bool.false_or, Bool.or_false, Bool.and_eq_true, Bool.and_eq_true, decide_eq_true_eq, decide_eq_true_eq]
        · rw [decide_eq_false e, Bool.not_false, Bool.true_or, Bool.true_or, Bool.and_true, h2 k y hk hy, ext1]
          rintro ⟨_, hlim⟩
          rcases hlim with ⟨_, a', b', g1, g2, g3, g4⟩ | ⟨g1, g2, g3⟩
          · rw [ea, nI_eq (by omega) (by omega)] at g2
            rw [el, nI_eq (by omega) (by omega)] at g3
            exact e (by omega)
          · exact absurd g1 hno
      · rw [h2 k y hk hy, ext1]
        rintro ⟨g0, hlim⟩
        rcases hlim with ⟨g1, _⟩ | ⟨g1, _⟩
        · exact c1 ⟨g0, g1⟩
        · exact c2 ⟨g0, g1⟩
  -- all years
  have all : ∀ i, i ≤ 10400 → ∀ f, (∀ j, j < i → f j = nI 1) → RV E (d + 2) 204 7 [(0, .ref 80), (1, .int t), (2, .int up), (3, .int (nI i))] (v_A v 127 f) Q := by
    intro i hi
    refine lp_up (n := 10400) (P := fun i => ∀ f, (∀ j, j < i → f j = nI 1) → RV E (d + 2) 204 7 [(0, .ref 80), (1, .int t), (2, .int up), (3, .int (nI i))] (v_A v 127 f) Q) (fun f h => w_X12_settle_7 ⟨fun _ => ?_, fun q => absurd (by decide) q⟩) (fun i hi ih f h => w_X12_settle_7 ?_) hi
    · exact limits 0 (Nat.zero_le _) f (fun _ _ => true) (fun k y hk hy => h _ (by omega)) (fun k y hk hy => ⟨fun _ g hg => by omega, fun _ => rfl⟩)
    · have e : gA (v_A v 127 f) 127 = f := rfl
      simp (disch := omega) only [nI_clamp, vp_t, true_and, nI_leI, nI_add, e, vA_s]
      refine ⟨fun q => absurd q (by omega), fun _ => ih _ (fun j hj => ?_)⟩
      by_cases e : j = i
      · rw [e, upd_s]
      · rw [upd_n _ _ e]
        exact h j (by omega)
  have := all 0 (Nat.zero_le _) (gA v 127) (fun j hj => by omega)
  rw [vAself] at this
  exact this

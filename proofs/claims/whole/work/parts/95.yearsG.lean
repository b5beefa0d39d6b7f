/-! years, the class: all heard and settled -/
theorem k_fillL {E : Nat × (Nat → Int32)} {d : Nat} {v : xV} {Q : xV → Prop} (kk : ∀ B, (∀ i, i < 560 → B i = (0 : Int64)) → Q (v_B v 71 B)) : KV E d 229 [.ref 71, .long (0 : Int64)] v Q := by
  refine KV.of ok_229 (Nat.le_of_ble_eq_true rfl) (w_J7_fill_d0a16_0 (fun y ey => ?_))
  have ey : y = nI 560 := ey
  subst ey
  have loop : ∀ i, i ≤ 560 → ∀ B, (∀ j, j < i → B j = (0 : Int64)) → RV E d 229 6 [(0, .ref 71), (1, .long (0 : Int64)), (3, .int (nI i)), (4, .int (nI 560))] (v_B v 71 B) Q := by
    intro i hi
    refine lp_up (n := 560) (P := fun i => ∀ B, (∀ j, j < i → B j = (0 : Int64)) → RV E d 229 6 [(0, .ref 71), (1, .long (0 : Int64)), (3, .int (nI i)), (4, .int (nI 560))] (v_B v 71 B) Q) (fun B hB => w_J7_fill_d0a16_6 ⟨fun _ => kk B hB, fun z => absurd (by decide) z⟩) (fun i hi ih B hB => w_J7_fill_d0a16_6 ?_) hi
    have e : gB (v_B v 71 B) 71 = B := rfl
    simp (disch := omega) only [nI_clamp, vp_t, true_and, nI_leI, nI_add, e, vB_s]
    refine ⟨fun z => absurd z (by omega), fun _ => ih _ (fun j hj => ?_)⟩
    by_cases ej : j = i
    · rw [ej, pk_uLs]
    · rw [pk_uLn ej]
      exact hB j (by omega)
  have e0 : v_B v 71 (gB v 71) = v := by
    show (v.1, v.2.1, v.2.2.1, xu1 v.2.2.2.1 71 (v.2.2.2.1 71), v.2.2.2.2) = v
    have : xu1 v.2.2.2.1 71 (v.2.2.2.1 71) = v.2.2.2.1 := by
      funext a
      unfold xu1
      split
      · rename_i h
        rw [h]
      · rfl
    rw [this]
  have := loop 0 (Nat.zero_le _) (gB v 71) (fun j hj => by omega)
  rw [e0] at this
  exact this
theorem k_factKn {E : Nat × (Nat → Int32)} {d : Nat} {v : xV} {t : Int32} {F : Nat} {Q : Int32 → xV → Prop} (hF : gI v 60 6 = nI F) (hF2 : F ≤ 80) (kk : ∀ K, isKn (gA v 66) t F K → Q (nI K) v) : KI E d 2 [.ref 60, .int t] v Q := by
  have step : ∀ i, i ≤ F → (∀ s, s < i → gA v 66 s ≤ t) → RI E d 2 4 [(0, .ref 60), (1, .int t), (2, .int (nI i)), (3, .int (nI i))] v Q := by
    intro i hi
    refine lp_up (n := F) (P := fun i => (∀ s, s < i → gA v 66 s ≤ t) → RI E d 2 4 [(0, .ref 60), (1, .int t), (2, .int (nI i)), (3, .int (nI i))] v Q) (fun h => w_X0_knownCount_4 ?_) (fun i hi ih h => w_X0_knownCount_4 ?_) hi
    · rw [hF]
      exact ⟨fun _ => kk F ⟨Nat.le_refl _, h, fun z => absurd z (Nat.lt_irrefl _)⟩, fun z => absurd (nI_le (Nat.le_refl _) (by omega)) z⟩
    · simp (disch := omega) only [nI_add, pk_mul, nI_clamp, nI_leI, nI_ltI, nI_eq, vp_t, true_and, hF, forall_eq]
      refine ⟨fun z => by omega, fun _ => ⟨fun h2 => kk i ⟨by omega, h, fun _ => i_nle.mpr h2⟩, fun h2 => ih (fun s hs => ?_)⟩⟩
      by_cases e : s = i
      · subst e
        exact i_nlt.mp h2
      · exact h s (by omega)
  exact KI.of ok_2 (Nat.le_of_ble_eq_true rfl) (w_X0_knownCount_0 (step 0 (by omega) (fun s hs => by omega)))
/-- what hearing rests on -/
def HearX (v : xV) (K F : Nat) : Prop := (gI v 67 10 = nI K ∧ K ≤ 20) ∧ F ≤ 80 ∧ (∀ f, f < F → fAb (gA v 14) (gA v 8) (nA v) (nS v) (nW v) (gA v 61 f) (gA v 62 f) (gA v 63 f) ∧ fYr (gA v 61 f) (gA v 64 f) (gA v 65 f)) ∧ (nA v ≤ 8 ∧ nS v ≤ 20) ∧ ∀ s, s < K → ∃ z, z ≤ 6 ∧ gA v 44 s = nI z
theorem LmI.skip {v : xV} {n : Nat} {F T : Nat → Int32} (h : LmI v n F T) (hno : ∀ k, ¬ limF v n k) : LmI v (n + 1) F T := by
  intro k y hk hy
  rw [h k y hk hy]
  constructor
  · intro z f hf hl
    by_cases e : f = n
    · rw [e] at hl
      exact absurd hl (hno k)
    · exact z f (by omega) hl
  · exact fun z f hf => z f (by omega)
theorem k_hear {E : Nat × (Nat → Int32)} {d : Nat} {v : xV} {x : Int32} {F T H : Nat → Int32} {B : Nat → Int64} {K N n : Nat} {Q : xV → Prop} (hX : HearX v K N) (hn : n < N) (hL : LmI v n F T) (hS : SlI v K (fun f _ => f < n) H B) (kk : ∀ F' T' H' B', LmI v (n + 1) F' T' → SlI v K (fun f _ => f < n + 1) H' B' → Q (ys v (nI (n + 1)) F' T' H' B')) : KV E (d + 2) 96 [.ref 67, .int (nI n)] (ys v x F T H B) Q := by
  obtain ⟨⟨hK, hK2⟩, hN, hF, ⟨hA, hSn⟩, h44⟩ := hX
  obtain ⟨fa, fy⟩ := hF n hn
  have e61 : gA (ys v x F T H B) 61 n = gA v 61 n := rfl
  have e62 : gA (ys v x F T H B) 62 n = gA v 62 n := rfl
  have e63 : gA (ys v x F T H B) 63 n = gA v 63 n := rfl
  have i80 : vp_in (nI n) 80 := vp_in_nI (by omega) (by decide)
  have noS : (¬ gA v 61 n = nI 3) → (¬ gA v 61 n = nI 4) → SlI v K (fun f _ => f < n + 1) H B := by
    intro h3 h4
    refine hS.cong (fun f sl hsl hap => ⟨fun z => ?_, fun z => by omega⟩)
    by_cases e : f = n
    · exfalso
      subst e
      rcases hap.2 with ⟨_, q⟩ | ⟨_, q⟩
      · exact h3 q.1
      · exact h4 q.1
    · omega
  have noL : (¬ gA v 61 n = nI 0) → (¬ gA v 61 n = nI 1) → LmI v (n + 1) F T := fun h0 h1 => hL.skip (fun k z => z.elim (fun z => h0 z.1) (fun z => h1 z.1))
  refine KV.of ok_96 (Nat.le_of_ble_eq_true rfl) (w_X10_hear_0 ?_)
  rw [nI_clamp (by omega), e61, e62, e63, nI_add, ys_I]
  refine ⟨i80, fun h => ?_, fun h0 => ⟨i80, i80, ?_⟩, fun h1 => ⟨i80, ?_⟩, fun h2 => ?_, fun h3 => ?_, fun h4 => ?_⟩
  · exfalso
    obtain ⟨k, hk, e⟩ := fa.k
    rw [e, nI_toInt (by omega)] at h
    omega
  · rw [h0, fAb.t0] at fa
    obtain ⟨a, b, m, ⟨q1, q2, q3⟩, ea, em, eb⟩ := fa
    rw [ea, eb]
    refine k_dated (k_narrow (by omega) (by omega) (fun k' hk' => ⟨fun z => ?_, fun z => ?_⟩) hL (fun F' T' hL' => kk F' T' H B hL' (noS (by rw [h0]; decide) (by rw [h0]; decide))))
    · rcases z with ⟨_, a', b', w1, w2, w3, w4⟩ | ⟨z, _⟩
      · rw [ea, nI_eq (by omega) (by omega)] at w2
        rw [eb, nI_eq (by omega) (by omega)] at w3
        omega
      · rw [h0] at z
        exact absurd z (by decide)
    · exact Or.inl ⟨h0, a, b, ⟨by omega, by omega⟩, ea, eb, z⟩
  · rw [h1, fAb.t1] at fa
    obtain ⟨a, q1, ea⟩ := fa
    rw [ea]
    refine k_narrow (by omega) (by omega) (fun k' hk' => ⟨fun z => ?_, fun z => ?_⟩) hL (fun F' T' hL' => kk F' T' H B hL' (noS (by rw [h1]; decide) (by rw [h1]; decide)))
    · rcases z with ⟨z, _⟩ | ⟨_, z, z2⟩
      · rw [h1] at z
        exact absurd z (by decide)
      · rw [ea, nI_eq (by omega) (by omega)] at z
        exact z.symm
    · exact Or.inr ⟨h1, by rw [z]; exact ea, by omega⟩
  · exact kk F T H B (noL (by rw [h2]; decide) (by rw [h2]; decide)) (noS (by rw [h2]; decide) (by rw [h2]; decide))
  · rcases fy with q | ⟨_, a, q1, q2⟩ | ⟨_, q, _⟩
    · exact absurd (h3.symm.trans q) (by decide)
    · exact k_hearStood hK hK2 (by omega) h3 q2 q1 hS (fun H' B' hS' => kk F T H' B' (noL (by rw [h3]; decide) (by rw [h3]; decide)) hS')
    · exact absurd h3 q
  · rcases fy with q | ⟨q, _⟩ | ⟨_, _, q1, q2, q3⟩
    · exact absurd (h4.symm.trans q) (by decide)
    · exact absurd (h4.symm.trans q) (by decide)
    · obtain ⟨a, ha, ea⟩ := nI_of (i_nlt.mpr q1)
      rw [ea] at q2
      have hbz : ∃ b, b < 200 ∧ gA v 65 n = nI b := by
        have h0 : nI 0 ≤ gA v 65 n := by
          rw [Int32.le_iff_toInt_le, nI_toInt ha] at q2
          rw [Int32.le_iff_toInt_le, nI_toInt (by decide)]
          omega
        exact (i_ln (by decide)).mp ⟨h0, q3⟩
      obtain ⟨b, hb, eb⟩ := hbz
      rw [eb, nI_leI ha (by omega)] at q2
      exact k_hearThing hK hK2 (by omega) h4 ea eb q2 hb h44 hS (fun H' B' hS' => kk F T H' B' (noL (by rw [h4]; decide) (by rw [h4]; decide)) hS')
/-- the years that one may have by n facts -/
def DomY (v : xV) (K n k y : Nat) : Prop := (∀ f, f < n → limF v f k → (gA v 64 f ≤ nI y ∧ nI y ≤ gA v 65 f)) ∧ (k < 20 → ∀ j, j < 7 → (∃ f, f < n ∧ aplF v K f (7 * k + j)) → ∃ f, (f < n ∧ aplF v K f (7 * k + j)) ∧ rngF v f y)
theorem slB_iff {H : Nat → Int32} {B : Nat → Int64} {dv y n : Nat} : slB H B dv y n = true ↔ ∀ j, j < n → (H (7 * dv + j) = nI 0 ∨ albit B (7 * dv + j) y = true) := by
  induction n with
  | zero => exact ⟨fun _ j hj => by omega, fun _ => rfl⟩
  | succ n ih =>
    show (slB H B dv y n && (decide (H (7 * dv + n) = nI 0) || albit B (7 * dv + n) y)) = true ↔ _
    rw [Bool.and_eq_true, Bool.or_eq_true, decide_eq_true_eq, ih]
    constructor
    · rintro ⟨z1, z2⟩ j hj
      by_cases e : j = n
      · rw [e]
        exact z2
      · exact z1 j (by omega)
    · exact fun z => ⟨fun j hj => z j (by omega), z n (by omega)⟩
theorem mayY_iff {v : xV} {K n k y : Nat} {F T H : Nat → Int32} {B : Nat → Int64} (hL : LmI v n F T) (hS : SlI v K (fun f _ => f < n) H B) (hk : k < 52) (hy : y < 200) : mayY F T H B k y = true ↔ DomY v K n k y := by
  unfold mayY DomY
  rw [Bool.and_eq_true, Bool.and_eq_true, Bool.or_eq_true, decide_eq_true_eq, decide_eq_true_eq, decide_eq_true_eq, slB_iff, ← hL k y hk hy]
  constructor
  · rintro ⟨z1, z2, z3⟩
    refine ⟨⟨z1, z2⟩, fun hk20 j hj hex => ?_⟩
    rcases z3 with z3 | z3
    · omega
    · obtain ⟨s1, s2⟩ := hS (7 * k + j) (by omega)
      rcases z3 j hj with z | z
      · rcases s1 with ⟨w, _⟩ | ⟨_, w⟩
        · exact absurd (w.symm.trans z) nI_01
        · exact absurd hex w
      · exact (s2 y hy).mp z
  · rintro ⟨⟨z1, z2⟩, z3⟩
    refine ⟨z1, z2, ?_⟩
    by_cases hk20 : k < 20
    · refine Or.inr (fun j hj => ?_)
      obtain ⟨s1, s2⟩ := hS (7 * k + j) (by omega)
      rcases s1 with ⟨_, w⟩ | ⟨w, _⟩
      · exact Or.inr ((s2 y hy).mpr (z3 hk20 j hj w))
      · exact Or.inl w
    · exact Or.inl (by omega)

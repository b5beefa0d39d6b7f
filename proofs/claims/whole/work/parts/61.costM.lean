/-! cost of a letter, the reference; cost: both sides agree -/
theorem k_photoAt {E : Nat × (Nat → Int32)} {d : Nat} {v : xV} {s t : Int32} {P : Nat} {Q : Int32 → xV → Prop} (hP : gI v 80 51 = nI P) (hP2 : P ≤ 60) (k : Q (lastI (phP (gA v 104) (gA v 105) s t) P) v) : KI E d 176 [.ref 80, .int s, .int t] v Q := by
  refine KI.of ok_176 (Nat.le_of_ble_eq_true rfl) (w_X12_photoAt_0 ?_)
  refine lp_up (n := P) (P := fun i => RI E d 176 5 [(0, .ref 80), (1, .int s), (2, .int t), (3, .int (lastI (phP (gA v 104) (gA v 105) s t) i)), (4, .int (nI i))] v Q) (w_X12_photoAt_5 ?_) (fun i hi ih => w_X12_photoAt_5 ?_) (Nat.zero_le _)
  · rw [hP]
    exact ⟨fun _ => k, fun h => absurd (nI_le (Nat.le_refl _) (by omega)) h⟩
  · simp (disch := omega) only [nI_add, pk_mul, nI_clamp, nI_leI, nI_ltI, nI_eq, vp_t, true_and, hP]
    refine ⟨fun h => by omega, fun _ => ⟨fun h => ?_, fun h => ⟨fun h2 => ?_, fun h2 => ?_⟩⟩⟩
    · rw [lastI_f] at ih
      · exact ih
      · unfold phP
        rw [decide_eq_false h, Bool.false_and]
        exact Bool.false_ne_true
    · rw [lastI_f] at ih
      · exact ih
      · unfold phP
        rw [decide_eq_false (i_nle.mpr h2), Bool.and_false]
        exact Bool.false_ne_true
    · rw [lastI_t] at ih
      · exact ih
      · unfold phP
        rw [decide_eq_true h, decide_eq_true (i_nlt.mp h2)]
        rfl
def psum (n : Nat) : Nat → Nat
  | 0 => 0
  | i + 1 => psum n i + n / 2 ^ i % 2
theorem psum_10 {n : Nat} (h : n < 256) : psum n 10 = pop8 n := by
  unfold pop8
  simp only [psum, Nat.reducePow, Nat.div_one]
  omega
theorem k_bitsOf {E : Nat × (Nat → Int32)} {d : Nat} {v : xV} {n : Nat} {Q : Int32 → xV → Prop} (hn : n < 256) (k : Q (nI (pop8 n)) v) : KI E d 177 [.int (nI n)] v Q := by
  refine KI.of ok_177 (Nat.le_of_ble_eq_true rfl) (w_X12_bitsOf_0 ?_)
  refine lp_up (n := 10) (P := fun i => RI E d 177 4 [(0, .int (nI n)), (1, .int (nI (psum n i))), (2, .int (nI i))] v Q) (w_X12_bitsOf_4 ⟨fun _ => ?_, fun h => absurd (by decide) h⟩) (fun i hi ih => w_X12_bitsOf_4 ?_) (Nat.zero_le _)
  · rw [psum_10 hn]
    exact k
  · simp (disch := omega) only [nI_add, pk_mul, nI_clamp, nI_leI, nI_ltI, nI_eq, vp_t, true_and, n_shr, n_and, Nat.and_one_is_mod]
    refine ⟨fun h => by omega, fun _ y e => ?_⟩
    subst e
    exact ih
theorem k_mayFM {E : Nat × (Nat → Int32)} {d : Nat} {v : xV} {p k : Nat} {x : Int32} {Q : Int32 → xV → Prop} (hp2 : p < 60) (hk : k < 24) (kk : Q (bB (mayF x (gA v 106 (24 * p + k)) (gA v 107 (24 * p + k)))) v) : KI E d 178 [.ref 80, .int (nI p), .int (nI k), .int x] v Q := by
  refine KI.of ok_178 (Nat.le_of_ble_eq_true rfl) (w_X12_mayForm_0 ?_)
  simp (disch := omega) only [nI_add, pk_mul, nI_clamp, nI_leI, nI_ltI, nI_eq, vp_t, true_and]
  exact bb2 (P := fun y => Q y v) kk
theorem k_costOf {E : Nat × (Nat → Int32)} {d : Nat} {v : xV} {k l n P D : Nat} {s t : Int32} {Q : Int32 → xV → Prop} (hP : gI v 80 51 = nI P) (hP2 : P ≤ 60) (hDn : gI v 80 52 = nI D) (hD2 : D ≤ 40) (hD : ∀ i, isO 26 (gA v 111 i)) (hk : k < 24) (hl : l < 26) (hc : gA v 83 l = nI n) (hn : n ≤ 3) (hst : ∀ i, ∃ b, b < 256 ∧ gA v 84 i = nI b) (hH : IvH (gA v 9) (gA v 10) (gA v 93) (gA v 94) (gA v 95))
    (kk : Q (eM (LC (gA v 83) (gA v 84) (gA v 106) (gA v 107) (gA v 111) (gA v 9) (lastI (phP (gA v 104) (gA v 105) s t) P) (fun q => lastI (drP (gA v 108) (gA v 109) (gA v 110) s t q) D) k l)) v) : KI E (d + 1) 179 [.ref 80, .int s, .int (nI k), .int (nI l), .int t] v Q := by
  unfold LC at kk
  have loop : ∀ c0, (∀ x, c0 = some x → x ≤ 8) → Q (eM (lcst (fun q => dlet (gA v 111) (lastI (drP (gA v 108) (gA v 109) (gA v 110) s t q) D) k) (gA v 9) l c0 4)) v → RI E (d + 1) 179 114 [(0, .ref 80), (1, .int s), (2, .int (nI k)), (3, .int (nI l)), (4, .int t), (6, .int (eM c0)), (7, .int (nI 0))] v Q := by
    intro c0 h0 hq
    refine lp_up (n := 4) (P := fun q => RI E (d + 1) 179 114 [(0, .ref 80), (1, .int s), (2, .int (nI k)), (3, .int (nI l)), (4, .int t), (6, .int (eM (lcst (fun q => dlet (gA v 111) (lastI (drP (gA v 108) (gA v 109) (gA v 110) s t q) D) k) (gA v 9) l c0 q))), (7, .int (nI q))] v Q) (w_X12_costOf_114 ⟨fun _ => hq, fun h => absurd (by decide) h⟩) (fun q hq4 ih => w_X12_costOf_114 ⟨fun h => ?_, fun _ => ?_⟩) (Nat.zero_le _)
    · rw [nI_leI (by decide) (by omega)] at h
      omega
    · refine lp_up (n := D) (P := fun i => RI E (d + 1) 179 126 [(0, .ref 80), (1, .int s), (2, .int (nI k)), (3, .int (nI l)), (4, .int t), (6, .int (eM (lcst (fun q => dlet (gA v 111) (lastI (drP (gA v 108) (gA v 109) (gA v 110) s t q) D) k) (gA v 9) l c0 q))), (7, .int (nI q)), (8, .int (lastI (drP (gA v 108) (gA v 109) (gA v 110) s t q) i)), (9, .int (nI i))] v Q) (w_X12_costOf_126 ⟨fun _ => ?_, fun h => absurd ?_ h⟩) (fun i hi ih2 => w_X12_costOf_126 ?_) (Nat.zero_le _)
      · have edl : ∀ j, lastI (drP (gA v 108) (gA v 109) (gA v 110) s t q) D = nI j → j < 40 → dlet (gA v 111) (lastI (drP (gA v 108) (gA v 109) (gA v 110) s t q) D) k = gA v 111 (24 * j + k) := by
          intro j ej hj
          unfold dlet
          rw [ej, if_neg (m1_ne (by omega)), nI_clamp (by omega)]
        have keep : (dlet (gA v 111) (lastI (drP (gA v 108) (gA v 109) (gA v 110) s t q) D) k = -1 ∨ dlet (gA v 111) (lastI (drP (gA v 108) (gA v 109) (gA v 110) s t q) D) k = nI l) → RI E (d + 1) 179 114 [(0, .ref 80), (1, .int s), (2, .int (nI k)), (3, .int (nI l)), (4, .int t), (6, .int (eM (lcst (fun q => dlet (gA v 111) (lastI (drP (gA v 108) (gA v 109) (gA v 110) s t q) D) k) (gA v 9) l c0 q))), (7, .int (nI q + nI 1))] v Q := by
          intro h
          rw [nI_add]
          cases e : lcst (fun q => dlet (gA v 111) (lastI (drP (gA v 108) (gA v 109) (gA v 110) s t q) D) k) (gA v 9) l c0 q with
          | none =>
            rw [lcst_n e] at ih
            exact ih
          | some c =>
            rw [lcst_s e, if_pos h] at ih
            exact ih
        rcases lastI_r (drP (gA v 108) (gA v 109) (gA v 110) s t q) D with e | ⟨j, hj, e, _⟩
        · refine ⟨fun h => absurd e h, fun _ => keep (Or.inl ?_)⟩
          unfold dlet
          rw [if_pos e]
        · have ed := edl j e (by omega)
          rw [ed] at keep
          have hne : ¬ nI j = (-1 : Int32) := m1_ne (by omega)
          rw [e]
          refine ⟨fun _ => ?_, fun h => absurd h hne⟩
          simp (disch := omega) only [nI_add, pk_mul, nI_clamp, vp_t, true_and, forall_eq]
          rw [nI_add] at keep
          refine ⟨fun h => keep (Or.inl h), fun h => ⟨fun h2 => ?_, fun h2 => keep (Or.inr h2)⟩⟩
          rcases hD (24 * j + k) with e3 | ⟨b, hb, e3⟩
          · exact absurd e3 h
          · rw [e3] at h2 ⊢
            obtain ⟨hn1, hn2, hn3, hn4⟩ := hH
            obtain ⟨m, hm, em⟩ := hn2 q
            have hb2 := hn4 q l b hq4 hl hb
            rw [hn1] at hb2 em
            have fin : (¬ (gA v 9 (26 * q + l)).toNatClampNeg.testBit b = true) → Q (nI 100000000) v := by
              intro hnb
              have e4 : lcst (fun q => dlet (gA v 111) (lastI (drP (gA v 108) (gA v 109) (gA v 110) s t q) D) k) (gA v 9) l c0 (q + 1) = none := by
                cases e5 : lcst (fun q => dlet (gA v 111) (lastI (drP (gA v 108) (gA v 109) (gA v 110) s t q) D) k) (gA v 9) l c0 q with
                | none => exact lcst_n e5
                | some c =>
                  rw [lcst_s e5, ed, e3, nI_clamp (by omega), if_neg hnb, if_neg (fun g => g.elim (m1_ne (by omega)) h2)]
              rw [lcst_nn e4 (by omega : q + 1 ≤ 4)] at hq
              exact hq
            refine k_isHabit hq4 hl hb em hm (fun g => ⟨fun h => absurd h nI_01, fun _ => ?_⟩) (fun g => ⟨fun _ => ⟨fun h => absurd h (by decide), fun _ => fin (fun g2 => g (hb2.mp g2))⟩, fun h => absurd rfl h⟩)
            cases e5 : lcst (fun q => dlet (gA v 111) (lastI (drP (gA v 108) (gA v 109) (gA v 110) s t q) D) k) (gA v 9) l c0 q with
            | none =>
              refine ⟨fun h => absurd h (by decide), fun _ => ?_⟩
              rw [lcst_nn e5 (by omega : q ≤ 4)] at hq
              exact hq
            | some c =>
              have hcl := lcst_le h0 q c e5
              rw [lcst_s e5, ed, e3, nI_clamp (by omega), if_pos (hb2.mpr g), if_neg (fun g => g.elim (m1_ne (by omega)) h2)] at ih
              rw [show eM (some c) + nI 2 = nI (c + 2) from nI_add _ _, nI_ltI (by omega) (by decide)]
              exact ⟨fun _ => ih, fun h => by omega⟩
      · rw [hDn]
        exact nI_le (Nat.le_refl _) (by omega)
      · simp (disch := omega) only [nI_add, nI_clamp, vp_t, true_and, hDn, nI_leI]
        have skip : drP (gA v 108) (gA v 109) (gA v 110) s t q i = false → RI E (d + 1) 179 126 [(0, .ref 80), (1, .int s), (2, .int (nI k)), (3, .int (nI l)), (4, .int t), (6, .int (eM (lcst (fun q => dlet (gA v 111) (lastI (drP (gA v 108) (gA v 109) (gA v 110) s t q) D) k) (gA v 9) l c0 q))), (7, .int (nI q)), (8, .int (lastI (drP (gA v 108) (gA v 109) (gA v 110) s t q) i)), (9, .int (nI (i + 1)))] v Q := by
          intro h
          rw [lastI_f (by rw [h]; exact Bool.false_ne_true)] at ih2
          exact ih2
        refine ⟨fun h => by omega, fun _ => ⟨fun h => skip ?_, fun h => ⟨fun h2 => skip ?_, fun h2 => ⟨fun h3 => skip ?_, fun h3 => ?_⟩⟩⟩⟩
        · unfold drP
          rw [decide_eq_false h, Bool.false_and]
        · unfold drP
          rw [decide_eq_false h2, Bool.false_and, Bool.and_false]
        · unfold drP
          rw [decide_eq_false (i_nle.mpr h3), Bool.and_false, Bool.and_false]
        · rw [lastI_t] at ih2
          · exact ih2
          · unfold drP
            rw [decide_eq_true h, decide_eq_true h2, decide_eq_true (i_nlt.mp h3)]
            rfl
  refine KI.of ok_179 (Nat.le_of_ble_eq_true rfl) (w_X12_costOf_0 (k_photoAt hP hP2 ?_))
  rcases lastI_r (phP (gA v 104) (gA v 105) s t) P with e | ⟨p, hp, e, _⟩
  · rw [if_pos e] at kk
    rw [e]
    exact ⟨fun h => absurd rfl h, fun _ => w_X12_costOf_27 ⟨fun _ => loop (some 0) (fun x hx => by cases hx; omega) kk, fun h => absurd rfl h⟩⟩
  · have hne : ¬ nI p = (-1 : Int32) := m1_ne (by omega)
    rw [e, if_neg hne, nI_clamp (by omega)] at kk
    rw [e]
    refine ⟨fun _ => ?_, fun h => absurd h hne⟩
    have kk2 := loop _ (fun x hx => FC_le hx) kk
    unfold FC at kk2
    rw [hc, nI_clamp (by omega)] at kk2
    refine lp_up (n := n) (P := fun f => RI E (d + 1) 179 27 [(0, .ref 80), (1, .int s), (2, .int (nI k)), (3, .int (nI l)), (4, .int t), (5, .int (nI p)), (6, .int (eM (fco (fun f => mayF (gA v 84 (3 * l + f)) (gA v 106 (24 * p + k)) (gA v 107 (24 * p + k))) (fun f => pcf (gA v 84) (gA v 106 (24 * p + k)) l f) f))), (7, .int (nI f))] v Q) (w_X12_costOf_27 ⟨fun h => absurd h hne, fun _ => ?_⟩) (fun f hf ih => w_X12_costOf_27 ⟨fun h => absurd h hne, fun _ => ?_⟩) (Nat.zero_le _)
    · simp (disch := omega) only [nI_add, pk_mul, nI_clamp, nI_leI, nI_ltI, nI_eq, vp_t, true_and, hc]
      exact ⟨fun _ => kk2, fun h => absurd (Nat.le_refl _) h⟩
    · simp (disch := omega) only [nI_add, pk_mul, nI_clamp, nI_leI, nI_ltI, nI_eq, vp_t, true_and, hc, forall_eq]
      refine ⟨fun h => by omega, fun _ => k_mayFM (by omega) hk (bbd (fun h => ?_) (fun h => ?_))⟩
      · rw [fco_f h] at ih
        exact ih
      · obtain ⟨b, hb, eb, ep⟩ := pcf_e hst (gA v 106 (24 * p + k)) l f
        rw [eb]
        refine k_bitsOf hb ?_
        have hq := pop8_le b
        cases e6 : fco (fun f => mayF (gA v 84 (3 * l + f)) (gA v 106 (24 * p + k)) (gA v 107 (24 * p + k))) (fun f => pcf (gA v 84) (gA v 106 (24 * p + k)) l f) f with
        | none =>
          rw [fco_n h e6, ep] at ih
          refine ⟨fun h' => ?_, fun _ => ih⟩
          have h' : nI 100000000 ≤ nI (pop8 b) := h'
          rw [nI_leI (by decide) (by omega)] at h'
          omega
        | some x =>
          have hx : x ≤ 8 := fco_le (fun _ => pop8_le _) _ x e6
          rw [fco_s h e6, ep] at ih
          show (nI x ≤ nI (pop8 b) → _) ∧ (¬ nI x ≤ nI (pop8 b) → _)
          rw [nI_leI (by omega) (by omega)]
          refine ⟨fun h' => ?_, fun h' => ?_⟩
          · rw [if_neg (by omega)] at ih
            exact ih
          · rw [if_pos (by omega)] at ih
            exact ih
theorem k_knownX {E : Nat × (Nat → Int32)} {d : Nat} {v : xV} {x t : Int32} {S : Nat} {Q : Int32 → xV → Prop} (hS : gI v 25 12 = nI S) (hS2 : S ≤ 20) (k1 : ∀ s, s < S → x = nI s → gA v 29 s ≤ t → Q (nI 1) v) (k2 : (¬ ∃ s, s < S ∧ x = nI s ∧ gA v 29 s ≤ t) → Q (nI 0) v) : KI E (d + 1) 8 [.ref 25, .int x, .int t] v Q := by
  refine KI.of ok_8 (Nat.le_of_ble_eq_true rfl) (w_X1_isKnown_0 (k_isScrX hS hS2 (fun s hs e => ⟨fun h => absurd h nI_01, fun _ => ?_⟩) (fun h => ⟨fun _ => k2 (fun ⟨s, h1, h2, _⟩ => h ⟨s, h1, h2⟩), fun h => absurd rfl h⟩)))
  subst e
  rw [nI_clamp (by omega)]
  refine ⟨vp_in_nI (by omega) (by decide), fun h => k2 (fun ⟨s', h1, h2, h3⟩ => ?_), fun h => k1 s hs rfl (i_nlt.mp h)⟩
  rw [nI_eq (by omega) (by omega)] at h2
  subst h2
  exact absurd h3 (i_nle.mpr h)
theorem k_knownM {E : Nat × (Nat → Int32)} {d : Nat} {v : xV} {x t : Int32} {S : Nat} {Q : Int32 → xV → Prop} (hS : gI v 80 50 = nI S) (hS2 : S ≤ 20) (k1 : ∀ s, s < S → x = nI s → gA v 103 s ≤ t → Q (nI 1) v) (k2 : (¬ ∃ s, s < S ∧ x = nI s ∧ gA v 103 s ≤ t) → Q (nI 0) v) : KI E (d + 1) 173 [.ref 80, .int x, .int t] v Q := by
  refine KI.of ok_173 (Nat.le_of_ble_eq_true rfl) (w_X12_isKnown_0 (k_isScrM hS hS2 (fun s hs e => ⟨fun h => absurd h nI_01, fun _ => ?_⟩) (fun h => ⟨fun _ => k2 (fun ⟨s, h1, h2, _⟩ => h ⟨s, h1, h2⟩), fun h => absurd rfl h⟩)))
  subst e
  rw [nI_clamp (by omega)]
  refine ⟨vp_in_nI (by omega) (by decide), fun h => k2 (fun ⟨s', h1, h2, h3⟩ => ?_), fun h => k1 s hs rfl (i_nlt.mp h)⟩
  rw [nI_eq (by omega) (by omega)] at h2
  subst h2
  exact absurd h3 (i_nle.mpr h)

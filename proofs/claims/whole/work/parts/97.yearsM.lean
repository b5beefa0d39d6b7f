/-! years, the reference: sets of years -/
/-- the sets as the reference holds them -/
def YS (f : Nat → Int32) (Y : Nat → Nat → Bool) : Prop := ∀ k y, k < 52 → y < 200 → f (200 * k + y) = bB (Y k y)
theorem YS.put {f : Nat → Int32} {Y : Nat → Nat → Bool} {k y : Nat} (h : YS f Y) (hy : y < 200) : YS (upd f (200 * k + y) (nI 0)) (fun k' y' => Y k' y' && !decide (k' = k ∧ y' = y)) := by
  intro k' y' hk' hy'
  show upd f (200 * k + y) (nI 0) (200 * k' + y') = bB (Y k' y' && !decide (k' = k ∧ y' = y))
  by_cases e : k' = k ∧ y' = y
  · obtain ⟨rfl, rfl⟩ := e
    rw [upd_s, decide_eq_true (⟨rfl, rfl⟩ : k' = k' ∧ y' = y'), Bool.not_true, Bool.and_false]
    rfl
  · rw [upd_n _ _ (by omega), h k' y' hk' hy', decide_eq_false e, Bool.not_false, Bool.and_true]
theorem k_keepYears {E : Nat × (Nat → Int32)} {d : Nat} {v : xV} {f : Nat → Int32} {Y : Nat → Nat → Bool} {k : Nat} {a b : Int32} {Q : xV → Prop} (hk : k < 52) (hY : YS f Y) (kk : ∀ f' Y', YS f' Y' → (∀ k' y, Y' k' y = (Y k' y && (!decide (k' = k) || (decide (a ≤ nI y) && decide (nI y ≤ b)) || decide (200 ≤ y)))) → Q (v_A v 127 f')) : KV E d 199 [.ref 80, .int (nI k), .int a, .int b] (v_A v 127 f) Q := by
  refine KV.of ok_199 (Nat.le_of_ble_eq_true rfl) (w_X12_keepYears_0 ?_)
  refine lp_up (n := 200) (P := fun i => ∀ f' Y', YS f' Y' → (∀ k' y, Y' k' y = (Y k' y && (!decide (k' = k) || (decide (a ≤ nI y) && decide (nI y ≤ b)) || decide (i ≤ y)))) → RV E d 199 3 [(0, .ref 80), (1, .int (nI k)), (2, .int a), (3, .int b), (4, .int (nI i))] (v_A v 127 f') Q) (fun f' Y' h1 h2 => w_X12_keepYears_3 ⟨fun _ => kk f' Y' h1 h2, fun z => absurd (by decide) z⟩) (fun i hi ih f' Y' h1 h2 => w_X12_keepYears_3 ⟨fun z => ?_, fun _ => ?_⟩) (Nat.zero_le _) f Y hY (fun k' y => ?_)
  · exfalso
    rw [nI_leI (by decide) (by omega)] at z
    omega
  · have cut : ¬ (a ≤ nI i ∧ nI i ≤ b) → RV E d 199 23 [(0, .ref 80), (1, .int (nI k)), (2, .int a), (3, .int b), (4, .int (nI i))] (v_A v 127 f') Q := by
      intro hno
      refine w_X12_keepYears_23 ?_
      have e : gA (v_A v 127 f') 127 = f' := rfl
      simp (disch := omega) only [pk_mul, nI_add, nI_clamp, vp_t, true_and, e, vA_s]
      refine ih _ _ (h1.put hi) (fun k' y => ?_)
      rw [h2 k' y]
      by_cases ek : k' = k
      · by_cases ey : y = i
        · subst ey
          have hf : (decide (a ≤ nI y) && decide (nI y ≤ b)) = false := by
            rw [Bool.and_eq_false_iff, decide_eq_false_iff_not, decide_eq_false_iff_not]
            exact Decidable.not_and_iff_or_not.mp hno
          rw [hf, decide_eq_true ek, decide_eq_true (show k' = k ∧ y = y from ⟨ek, rfl⟩), decide_eq_false (show ¬ y + 1 ≤ y by omega)]
          simp
        · rw [decide_eq_false (show ¬ (k' = k ∧ y = i) from fun z => ey z.2), Bool.not_false, Bool.and_true]
          congr 2
          by_cases e2 : i ≤ y
          · rw [decide_eq_true e2, decide_eq_true (by omega)]
          · rw [decide_eq_false e2, decide_eq_false (by omega)]
      · rw [decide_eq_false ek, decide_eq_false (show ¬ (k' = k ∧ y = i) from fun z => ek z.1)]
        simp
    have keep : (a ≤ nI i ∧ nI i ≤ b) → RV E d 199 3 [(0, .ref 80), (1, .int (nI k)), (2, .int a), (3, .int b), (4, .int (nI i + nI 1))] (v_A v 127 f') Q := by
      intro hyes
      rw [nI_add]
      refine ih f' Y' h1 (fun k' y => ?_)
      rw [h2 k' y]
      by_cases ey : y = i
      · subst ey
        rw [decide_eq_true hyes.1, decide_eq_true hyes.2]
        simp
      · by_cases e2 : i ≤ y
        · rw [decide_eq_true e2, decide_eq_true (show i + 1 ≤ y by omega)]
        · rw [decide_eq_false e2, decide_eq_false (show ¬ i + 1 ≤ y by omega)]
    exact ⟨fun h3 => cut (fun z => absurd z.1 (i_nle.mpr h3)), fun h3 => ⟨fun h4 => keep ⟨i_nlt.mp h3, h4⟩, fun h4 => cut (fun z => h4 z.2)⟩⟩
  · rw [decide_eq_true (Nat.zero_le y)]
    simp
theorem k_leastM {E : Nat × (Nat → Int32)} {d : Nat} {v : xV} {f : Nat → Int32} {Y : Nat → Nat → Bool} {k : Nat} {Q : Int32 → xV → Prop} (hk : k < 52) (hY : YS f Y) (kk : ∀ r, r ≤ 200 → (r < 200 → Y k r = true) → (∀ z, z < r → Y k z = false) → Q (nI r) (v_A v 127 f)) : KI E d 200 [.ref 80, .int (nI k)] (v_A v 127 f) Q := by
  refine KI.of ok_200 (Nat.le_of_ble_eq_true rfl) (w_X12_leastYear_0 ?_)
  refine lp_up (n := 200) (P := fun i => (∀ z, z < i → Y k z = false) → RI E d 200 2 [(0, .ref 80), (1, .int (nI k)), (2, .int (nI i))] (v_A v 127 f) Q) (fun h => w_X12_leastYear_2 ⟨fun _ => kk 200 (Nat.le_refl _) (fun z => absurd z (Nat.lt_irrefl _)) h, fun z => absurd (by decide) z⟩) (fun i hi ih h => w_X12_leastYear_2 ?_) (Nat.zero_le _) (fun z hz => by omega)
  have e : gA (v_A v 127 f) 127 (200 * k + i) = bB (Y k i) := hY k i hk hi
  simp (disch := omega) only [pk_mul, nI_add, nI_clamp, vp_t, true_and, nI_leI, e]
  refine ⟨fun z => absurd z (by omega), fun _ => bbd (fun hb => ih (fun z hz => ?_)) (fun hb => kk i (by omega) (fun _ => hb) h)⟩
  by_cases ez : z = i
  · rw [ez]
    exact hb
  · exact h z (by omega)
/-- one more than the greatest year, 0 if none -/
theorem k_greatM {E : Nat × (Nat → Int32)} {d : Nat} {v : xV} {f : Nat → Int32} {Y : Nat → Nat → Bool} {k : Nat} {Q : Int32 → xV → Prop} (hk : k < 52) (hY : YS f Y) (kk : ∀ r, r ≤ 200 → (0 < r → Y k (r - 1) = true) → (∀ z, r ≤ z → z < 200 → Y k z = false) → Q (nI r - nI 1) (v_A v 127 f)) : KI E d 201 [.ref 80, .int (nI k)] (v_A v 127 f) Q := by
  refine KI.of ok_201 (Nat.le_of_ble_eq_true rfl) (w_X12_greatestYear_0 ?_)
  have loop : ∀ i, i ≤ 200 → (∀ z, i ≤ z → z < 200 → Y k z = false) → RI E d 201 4 [(0, .ref 80), (1, .int (nI k)), (2, .int (nI i - nI 1))] (v_A v 127 f) Q := by
    intro i
    induction i with
    | zero => exact fun _ h => w_X12_greatestYear_4 ⟨fun _ => kk 0 (Nat.zero_le _) (fun z => absurd z (Nat.lt_irrefl _)) h, fun z => absurd (by decide) z⟩
    | succ i ih =>
      intro hi h
      have e1 : nI (i + 1) - nI 1 = nI i := by rw [nI_sub (by omega), Nat.add_sub_cancel]
      rw [e1]
      refine w_X12_greatestYear_4 ⟨fun z => absurd z (nz_lt (by omega)), fun _ => ?_⟩
      have e : gA (v_A v 127 f) 127 (200 * k + i) = bB (Y k i) := hY k i hk (by omega)
      simp (disch := omega) only [pk_mul, nI_add, nI_clamp, vp_t, true_and, e]
      refine bbd (fun hb => ?_) (fun hb => ?_)
      · rw [i_m1]
        refine ih (by omega) (fun z g1 g2 => ?_)
        by_cases ez : z = i
        · rw [ez]
          exact hb
        · exact h z (by omega) g2
      · have := kk (i + 1) hi (fun _ => hb) h
        rw [e1] at this
        exact this
  have e199 : nI 199 = nI 200 - nI 1 := by decide
  rw [e199]
  exact loop 200 (Nat.le_refl _) (fun z h1 h2 => by omega)
theorem k_layerVar {E : Nat × (Nat → Int32)} {d : Nat} {v : xV} {a l : Nat} {Q : Int32 → xV → Prop} (kk : Q (nI (20 + 4 * a + l)) v) : KI E d 198 [.int (nI a), .int (nI l)] v Q := by
  refine KI.of ok_198 (Nat.le_of_ble_eq_true rfl) (w_X12_layerVar_0 ?_)
  rw [pk_mul, nI_add, nI_add]
  exact kk

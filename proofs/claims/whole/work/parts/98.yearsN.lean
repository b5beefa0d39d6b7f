/-! years, the reference: one constraint, emptiness -/
/-- u is not ahead of w, as far as the sets show -/
def LeOK (Y : Nat → Nat → Bool) (u w : Nat) : Prop := (∀ z, z < 200 → Y w z = true → ∃ z', z' ≤ z ∧ Y u z' = true) ∧ ∀ z, z < 200 → Y u z = true → ∃ z', (z ≤ z' ∧ z' < 200) ∧ Y w z' = true
/-- all that is below, with the picks that keep u before w -/
def Sub (Y Y' : Nat → Nat → Bool) : Prop := ∀ k y, Y' k y = true → Y k y = true
def Drop (Y Y' : Nat → Nat → Bool) : Prop := ∃ k y, (k < 52 ∧ y < 200) ∧ Y k y = true ∧ Y' k y = false
def InY (Y : Nat → Nat → Bool) (p : Nat → Nat) : Prop := ∀ k, k < 52 → p k < 200 ∧ Y k (p k) = true
theorem pre_le {g b : Nat} (hg : g ≤ 200) (hb : b ≤ 200) : nI g - nI 1 ≤ nI b - nI 1 ↔ g ≤ b := by
  have m : ∀ n, n ≤ 200 → (nI n - nI 1).toInt = (n : Int) - 1 := by
    intro n hn
    cases n with
    | zero => decide
    | succ n =>
      rw [nI_sub (by omega), nI_toInt (by omega)]
      omega
  rw [Int32.le_iff_toInt_le, m g hg, m b hb]
  omega
theorem k_follows {E : Nat × (Nat → Int32)} {d : Nat} {v : xV} {f : Nat → Int32} {Y : Nat → Nat → Bool} {u w : Nat} {z : Bool} {Q : xV → Prop} (hu : u < 52) (hw : w < 52) (hY : YS f Y) (kk : ∀ f' Y' m, YS f' Y' → Sub Y Y' → (∀ p, InY Y p → p u ≤ p w → InY Y' p) → (∀ k y, k ≠ u → k ≠ w → Y' k y = Y k y) → (m = false → (∀ k y, Y' k y = Y k y) ∧ LeOK Y u w) → (m = true → Drop Y Y') → Q (v_I (v_A v 127 f') 80 73 (bB (z || m)))) : KV E (d + 1) 202 [.ref 80, .int (nI w), .int (nI u)] (v_I (v_A v 127 f) 80 73 (bB z)) Q := by
  refine KV.of ok_202 (Nat.le_of_ble_eq_true rfl) (w_X12_follows_0 ?_)
  refine k_leastM (v := v_I v 80 73 (bB z)) hu hY (fun a ha a1 a2 => k_greatM (v := v_I v 80 73 (bB z)) hw hY (fun b hb b1 b2 => k_leastM (v := v_I v 80 73 (bB z)) hw hY (fun a' ha' a1' a2' => ?_)))
  -- the second half
  have half : ∀ f1 Y1 m, YS f1 Y1 → Sub Y Y1 → (∀ p, InY Y p → p u ≤ p w → InY Y1 p) → (∀ k y, k ≠ w → Y1 k y = Y k y) → (m = false → (∀ k y, Y1 k y = Y k y) ∧ a ≤ a') → (m = true → Drop Y Y1) → RV E (d + 1) 202 64 [(0, .ref 80), (2, .int (nI u)), (4, .int (nI b - nI 1))] (v_I (v_A v 127 f1) 80 73 (bB (z || m))) Q := by
    intro f1 Y1 m h1 h2 h3 h4 h5 h6
    refine w_X12_follows_64 (k_greatM (v := v_I v 80 73 (bB (z || m))) hu h1 (fun g hg g1 g2 => ⟨fun hle => ?_, fun hnle y3 e3 => ?_⟩))
    · refine kk f1 Y1 m h1 h2 h3 (fun k y _ hk => h4 k y hk) (fun e => ⟨(h5 e).1, fun zz hzz hyz => ?_, fun zz hzz hyz => ?_⟩) h6
      · have h7 := (h5 e).2
        refine ⟨a, ?_, a1 ?_⟩
        · apply Nat.le_of_not_lt
          intro hlt
          rw [a2' zz (by omega)] at hyz
          cases hyz
        · apply Nat.lt_of_le_of_ne ha
          intro e200
          rw [a2' zz (by omega)] at hyz
          cases hyz
      · have hzg : zz < g := by
          apply Nat.lt_of_not_le
          intro hle2
          rw [← (h5 e).1, g2 zz hle2 hzz] at hyz
          cases hyz
        have hgb : g ≤ b := (pre_le hg hb).mp hle
        exact ⟨b - 1, by omega, b1 (by omega)⟩
    · have hgb : b < g := by
        have := mt (pre_le hg hb).mpr hnle
        omega
      have e4 : y3 = nI b := by
        rw [e3]
        exact Int32.sub_add_cancel _ _
      subst e4
      have loop : ∀ i, b ≤ i → i ≤ 200 → ∀ f2 Y2, YS f2 Y2 → (∀ k y, Y2 k y = (Y1 k y && !decide (k = u ∧ b ≤ y ∧ y < i))) → RV E (d + 1) 202 80 [(0, .ref 80), (2, .int (nI u)), (5, .int (nI i))] (v_I (v_A v 127 f2) 80 73 (bB (z || m))) Q := by
        intro i hi1 hi
        refine lp_up (n := 200) (P := fun i => b ≤ i → ∀ f2 Y2, YS f2 Y2 → (∀ k y, Y2 k y = (Y1 k y && !decide (k = u ∧ b ≤ y ∧ y < i))) → RV E (d + 1) 202 80 [(0, .ref 80), (2, .int (nI u)), (5, .int (nI i))] (v_I (v_A v 127 f2) 80 73 (bB (z || m))) Q) (fun hbi f2 Y2 q1 q2 => w_X12_follows_80 ⟨fun _ => ?_, fun zz => absurd (by decide) zz⟩) (fun i hi ih hbi f2 Y2 q1 q2 => w_X12_follows_80 ⟨fun zz => ?_, fun _ => ?_⟩) hi hi1
        · have := kk f2 Y2 true q1 (fun k y hy => ?_) (fun p hp hle => ?_) (fun k y hk1 hk2 => by rw [q2, decide_eq_false (fun e => hk1 e.1), Bool.not_false, Bool.and_true]; exact h4 k y hk2) (fun e => by cases e) (fun _ => ⟨u, g - 1, ⟨hu, by omega⟩, h2 u (g - 1) (g1 (by omega)), ?_⟩)
          · rw [Bool.or_true] at this
            rw [vI_s]
            exact this
          · rw [q2, Bool.and_eq_true] at hy
            exact h2 k y hy.1
          · intro k hk
            obtain ⟨p1, p2⟩ := h3 p hp hle k hk
            refine ⟨p1, ?_⟩
            rw [q2, p2, Bool.true_and, Bool.not_eq_true', decide_eq_false_iff_not]
            rintro ⟨rfl, c1, c2⟩
            have c3 := (hp w hw).2
            rw [b2 (p w) (by omega) (hp w hw).1] at c3
            cases c3
          · rw [q2, decide_eq_true (⟨rfl, by omega, by omega⟩ : u = u ∧ b ≤ g - 1 ∧ g - 1 < 200), Bool.not_true, Bool.and_false]
        · exfalso
          rw [nI_leI (by decide) (by omega)] at zz
          omega
        · have e : gA (v_I (v_A v 127 f2) 80 73 (bB (z || m))) 127 = f2 := rfl
          simp (disch := omega) only [pk_mul, nI_add, nI_clamp, vp_t, true_and, e, vIA, vA_s]
          refine ih (by omega) _ _ (q1.put (k := u) hi) (fun k y => ?_)
          rw [q2, Bool.and_assoc, ← Bool.not_or]
          congr 2
          rw [← Bool.decide_or]
          exact decide_eq_decide.mpr (by omega)
      exact loop b (Nat.le_refl _) hb f1 Y1 h1 (fun k y => by rw [decide_eq_false (show ¬ (k = u ∧ b ≤ y ∧ y < b) by omega), Bool.not_false, Bool.and_true])
  refine ⟨fun hle => ?_, fun hnle => ?_⟩
  · rw [nI_leI (by omega) (by omega)] at hle
    have := half f Y false hY (fun _ _ h => h) (fun p hp _ => hp) (fun _ _ _ => rfl) (fun _ => ⟨fun _ _ => rfl, hle⟩) (fun e => by cases e)
    rw [Bool.or_false] at this
    exact this
  · rw [nI_leI (by omega) (by omega)] at hnle
    have fin : ∀ f1 Y1, YS f1 Y1 → (∀ k y, Y1 k y = (Y k y && !decide (k = w ∧ y < a))) → RV E (d + 1) 202 59 [(0, .ref 80), (2, .int (nI u)), (4, .int (nI b - nI 1))] (v_I (v_A v 127 f1) 80 73 (bB z)) Q := by
      intro f1 Y1 q1 q2
      refine w_X12_follows_59 ?_
      have := half f1 Y1 true q1 (fun k y hy => ?_) (fun p hp hle => ?_) (fun k y hk => ?_) (fun e => by cases e) (fun _ => ⟨w, a', ⟨hw, by omega⟩, a1' (by omega), ?_⟩)
      · rw [Bool.or_true] at this
        rw [vI_s]
        exact this
      · rw [q2, Bool.and_eq_true] at hy
        exact hy.1
      · intro k hk
        obtain ⟨p1, p2⟩ := hp k hk
        refine ⟨p1, ?_⟩
        rw [q2, p2, Bool.true_and, Bool.not_eq_true', decide_eq_false_iff_not]
        rintro ⟨rfl, c1⟩
        have c3 := (hp u hu).2
        rw [a2 (p u) (by omega)] at c3
        cases c3
      · rw [q2, decide_eq_false (fun e => hk e.1), Bool.not_false, Bool.and_true]
      · rw [q2, decide_eq_true (⟨rfl, by omega⟩ : w = w ∧ a' < a), Bool.not_true, Bool.and_false]
    have loop : ∀ i, i ≤ a → ∀ f2 Y2, YS f2 Y2 → (∀ k y, Y2 k y = (Y k y && !decide (k = w ∧ y < i))) → RV E (d + 1) 202 25 [(0, .ref 80), (1, .int (nI w)), (2, .int (nI u)), (3, .int (nI a)), (4, .int (nI b - nI 1)), (5, .int (nI i))] (v_I (v_A v 127 f2) 80 73 (bB z)) Q := by
      intro i hi
      refine lp_up (n := a) (P := fun i => ∀ f2 Y2, YS f2 Y2 → (∀ k y, Y2 k y = (Y k y && !decide (k = w ∧ y < i))) → RV E (d + 1) 202 25 [(0, .ref 80), (1, .int (nI w)), (2, .int (nI u)), (3, .int (nI a)), (4, .int (nI b - nI 1)), (5, .int (nI i))] (v_I (v_A v 127 f2) 80 73 (bB z)) Q) (fun f2 Y2 q1 q2 => w_X12_follows_25 ⟨fun _ => fin f2 Y2 q1 q2, fun zz => absurd (nI_le (Nat.le_refl _) (by omega)) zz⟩) (fun i hi ih f2 Y2 q1 q2 => w_X12_follows_25 ⟨fun zz => ?_, fun _ => ⟨fun zz => ?_, fun _ => ?_⟩⟩) hi
      · exfalso
        rw [nI_leI (by omega) (by omega)] at zz
        omega
      · exfalso
        rw [nI_leI (by omega) (by omega)] at zz
        omega
      · have e : gA (v_I (v_A v 127 f2) 80 73 (bB z)) 127 = f2 := rfl
        simp (disch := omega) only [pk_mul, nI_add, nI_clamp, vp_t, true_and, e, vIA, vA_s]
        refine ih _ _ (q1.put (k := w) (by omega)) (fun k y => ?_)
        rw [q2, Bool.and_assoc, ← Bool.not_or]
        congr 2
        rw [← Bool.decide_or]
        exact decide_eq_decide.mpr (by omega)
    exact loop 0 (Nat.zero_le _) f Y hY (fun k y => by rw [decide_eq_false (show ¬ (k = w ∧ y < 0) by omega), Bool.not_false, Bool.and_true])

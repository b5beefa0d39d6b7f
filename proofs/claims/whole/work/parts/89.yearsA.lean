/-! years, the class: what a year may be -/
theorem y_c : ∀ k, k < 64 → (((nI k).toInt64.toUInt64 &&& Int64.toUInt64 63)).toNat = k := by decide +kernel
theorem y_1 : ∀ k, k < 64 → ((1 : Int64) <<< ((nI k).toInt64 &&& 63)).toBitVec = BitVec.twoPow 64 k := by decide +kernel
theorem y_m (y : Nat) : nI y &&& nI 63 = nI (y % 64) := by rw [n_and, Nat.and_two_pow_sub_one_eq_mod y 6]
theorem y_bit {w : Int64} {s : UInt64} {j : Nat} (hj : j < 64) (hs : s.toNat = j) : ((w.toUInt64 >>> s).toInt64 &&& 1) = 0 ↔ w.toBitVec.getLsbD j = false := by
  have e : (w.toUInt64 >>> s).toInt64.toBitVec = w.toBitVec >>> j := by
    apply BitVec.eq_of_toNat_eq
    show (w.toUInt64 >>> s).toNat = _
    rw [UInt64.toNat_shiftRight, hs, Nat.mod_eq_of_lt hj, BitVec.toNat_ushiftRight]
    rfl
  rw [← Int64.toBitVec_inj, Int64.toBitVec_and, e]
  show w.toBitVec >>> j &&& 1#64 = 0#64 ↔ _
  constructor
  · intro h
    have t := congrArg (fun x => x.getLsbD 0) h
    simpa using t
  · intro h
    apply BitVec.eq_of_getLsbD_eq
    intro i hi
    cases i with
    | zero => simp [h]
    | succ i => simp
theorem y_cmp (x y : Int64) : lg_cmp x y = nI 0 ↔ x = y := by
  unfold lg_cmp
  by_cases h1 : x > y
  · rw [if_pos h1]
    refine ⟨fun h => absurd h (by decide), fun h => ?_⟩
    subst h
    rw [gt_iff_lt, Int64.lt_iff_toInt_lt] at h1
    exact absurd h1 (Int.lt_irrefl _)
  · rw [if_neg h1]
    by_cases h2 : x = y
    · rw [if_pos h2]
      exact ⟨fun _ => h2, fun _ => rfl⟩
    · rw [if_neg h2]
      exact ⟨fun h => absurd h (by decide), fun h => absurd h h2⟩
/-- bit of a year in a slot -/
def albit (B : Nat → Int64) (sl y : Nat) : Bool := (B (4 * sl + y / 64)).toBitVec.getLsbD (y % 64)
def slB (H : Nat → Int32) (B : Nat → Int64) (dv y : Nat) : Nat → Bool
  | 0 => true
  | n + 1 => slB H B dv y n && (decide (H (7 * dv + n) = nI 0) || albit B (7 * dv + n) y)
/-- what a year may be, all others left aside -/
def mayY (f t H : Nat → Int32) (B : Nat → Int64) (dv y : Nat) : Bool := decide (f dv ≤ nI y) && (decide (nI y ≤ t dv) && (decide (20 ≤ dv) || slB H B dv y 7))
theorem slB_f {H : Nat → Int32} {B : Nat → Int64} {dv y n m : Nat} (h : slB H B dv y n = false) (hm : n ≤ m) : slB H B dv y m = false := by
  induction m with
  | zero =>
    obtain rfl : n = 0 := by omega
    exact h
  | succ m ih =>
    by_cases e : n = m + 1
    · rw [← e]
      exact h
    · show (slB H B dv y m && _) = false
      rw [ih (by omega), Bool.false_and]
theorem k_mayBe {E : Nat × (Nat → Int32)} {d : Nat} {v : xV} {dv y : Nat} {Q : Int32 → xV → Prop} (hd : dv < 52) (hy : y < 200) (kk : Q (bB (mayY (gA v 68) (gA v 69) (gA v 70) (gB v 71) dv y)) v) : KI E d 101 [.ref 67, .int (nI dv), .int (nI y)] v Q := by
  unfold mayY at kk
  refine KI.of ok_101 (Nat.le_of_ble_eq_true rfl) (w_X10_mayBe_0 ?_)
  simp (disch := omega) only [pk_mul, nI_clamp, vp_t, true_and, forall_eq, nI_ltI]
  refine ⟨fun h => ?_, fun h => ⟨fun h2 => ⟨fun h3 => ?_, fun h3 => ?_⟩, fun h2 => ?_⟩⟩
  · rw [decide_eq_false (i_nle.mpr h), Bool.false_and] at kk
    exact kk
  · rw [decide_eq_true (i_nlt.mp h), decide_eq_true h2, decide_eq_false (show ¬ 20 ≤ dv by omega), Bool.true_and, Bool.true_and, Bool.false_or] at kk
    have loop : ∀ n, n ≤ 7 → slB (gA v 70) (gB v 71) dv y n = true → RI E d 101 35 [(0, .ref 67), (1, .int (nI dv)), (2, .int (nI y)), (3, .int (nI (7 * dv + n)))] v Q := by
      intro n hn
      refine lp_up (n := 7) (P := fun n => slB (gA v 70) (gB v 71) dv y n = true → RI E d 101 35 [(0, .ref 67), (1, .int (nI dv)), (2, .int (nI y)), (3, .int (nI (7 * dv + n)))] v Q) (fun h7 => w_X10_mayBe_35 ?_) (fun n hn ih h => w_X10_mayBe_35 ?_) hn
      · rw [nI_add, pk_mul, nI_leI (by omega) (by omega)]
        rw [h7] at kk
        exact ⟨fun _ => kk, fun h => absurd (by omega) h⟩
      · have hs : slB (gA v 70) (gB v 71) dv y (n + 1) = (slB (gA v 70) (gB v 71) dv y n && (decide (gA v 70 (7 * dv + n) = nI 0) || albit (gB v 71) (7 * dv + n) y)) := rfl
        rw [h, Bool.true_and] at hs
        have e1 : (7 * dv + n) * 4 + y / 2 ^ 6 = 4 * (7 * dv + n) + y / 64 := by omega
        simp (disch := omega) only [pk_mul, nI_add, nI_clamp, vp_t, true_and, nI_leI, n_shr, e1, y_m]
        refine ⟨fun z => absurd z (by omega), fun _ => ⟨fun h0 => ?_, fun h0 => ⟨fun h1 => ?_, fun h1 => ?_⟩⟩⟩
        · refine ih ?_
          rw [hs, decide_eq_true h0, Bool.true_or]
        · refine ih ?_
          rw [hs, decide_eq_false h0, Bool.false_or]
          rw [y_cmp, y_bit (Nat.mod_lt _ (by decide)) (y_c _ (Nat.mod_lt _ (by decide)))] at h1
          unfold albit
          rw [Bool.not_eq_false] at h1
          exact h1
        · rw [decide_eq_false h0, Bool.false_or] at hs
          rw [y_cmp, y_bit (Nat.mod_lt _ (by decide)) (y_c _ (Nat.mod_lt _ (by decide)))] at h1
          have hf : slB (gA v 70) (gB v 71) dv y (n + 1) = false := hs.trans h1
          rw [slB_f hf (by omega)] at kk
          exact kk
    have := loop 0 (by omega) rfl
    rw [Nat.mul_comm dv 7]
    exact this
  · rw [decide_eq_true (i_nlt.mp h), decide_eq_true h2, decide_eq_true (show 20 ≤ dv by omega), Bool.true_and, Bool.true_and, Bool.true_or] at kk
    exact kk
  · rw [decide_eq_false h2, Bool.false_and, Bool.and_false] at kk
    exact kk
def mY (v : xV) : Nat → Nat → Bool := mayY (gA v 68) (gA v 69) (gA v 70) (gB v 71)
theorem k_firstYear {E : Nat × (Nat → Int32)} {d : Nat} {v : xV} {dv y : Nat} {Q : Int32 → xV → Prop} (hd : dv < 52) (hy : y ≤ 200) (kk : ∀ r, y ≤ r → r ≤ 200 → (r < 200 → mY v dv r = true) → (∀ z, y ≤ z → z < r → mY v dv z = false) → Q (nI r) v) : KI E (d + 1) 102 [.ref 67, .int (nI dv), .int (nI y)] v Q := by
  refine KI.of ok_102 (Nat.le_of_ble_eq_true rfl) (w_X10_firstYear_0 ?_)
  refine lp_up (n := 200) (P := fun i => y ≤ i → (∀ z, y ≤ z → z < i → mY v dv z = false) → RI E (d + 1) 102 2 [(0, .ref 67), (1, .int (nI dv)), (3, .int (nI i))] v Q) (fun h1 h2 => w_X10_firstYear_2 ⟨fun _ => kk 200 h1 (Nat.le_refl _) (fun z => absurd z (Nat.lt_irrefl _)) h2, fun h => absurd (by decide) h⟩) (fun i hi ih h1 h2 => w_X10_firstYear_2 ⟨fun h => ?_, fun _ => k_mayBe hd hi (bbc (fun hb => ?_) (fun hb => kk i h1 (by omega) (fun _ => hb) h2))⟩) hy (Nat.le_refl _) (fun z h1 h2 => by omega)
  · exfalso
    rw [nI_leI (by decide) (by omega)] at h
    omega
  · rw [nI_add]
    refine ih (by omega) (fun z g1 g2 => ?_)
    by_cases e : z = i
    · rw [e]
      exact hb
    · exact h2 z g1 (by omega)
/-- from y down: r is one more than the last year, 0 if none -/
theorem k_lastYear {E : Nat × (Nat → Int32)} {d : Nat} {v : xV} {dv y : Nat} {Q : Int32 → xV → Prop} (hd : dv < 52) (hy : y ≤ 200) (kk : ∀ r, r ≤ y → (0 < r → mY v dv (r - 1) = true) → (∀ z, r ≤ z → z < y → mY v dv z = false) → Q (nI r - nI 1) v) : KI E (d + 1) 103 [.ref 67, .int (nI dv), .int (nI y - nI 1)] v Q := by
  refine KI.of ok_103 (Nat.le_of_ble_eq_true rfl) (w_X10_lastYear_0 ?_)
  have loop : ∀ i, i ≤ y → (∀ z, i ≤ z → z < y → mY v dv z = false) → RI E (d + 1) 103 2 [(0, .ref 67), (1, .int (nI dv)), (3, .int (nI i - nI 1))] v Q := by
    intro i
    induction i with
    | zero => exact fun _ h => w_X10_lastYear_2 ⟨fun _ => kk 0 (Nat.zero_le _) (fun z => absurd z (Nat.lt_irrefl _)) h, fun h => absurd (by decide) h⟩
    | succ i ih =>
      intro hi h
      have e1 : nI (i + 1) - nI 1 = nI i := by rw [nI_sub (by omega), Nat.add_sub_cancel]
      rw [e1]
      refine w_X10_lastYear_2 ⟨fun h => absurd h (nz_lt (by omega)), fun _ => k_mayBe hd (by omega) (bbc (fun hb => ?_) (fun hb => ?_))⟩
      · rw [i_m1]
        refine ih (by omega) (fun z g1 g2 => ?_)
        by_cases e : z = i
        · rw [e]
          exact hb
        · exact h z (by omega) g2
      · have := kk (i + 1) hi (fun _ => hb) h
        rw [e1] at this
        exact this
  exact loop y (Nat.le_refl _) (fun z h1 h2 => by omega)
theorem k_raise {E : Nat × (Nat → Int32)} {d : Nat} {v : xV} {a b : Nat} {L : Nat → Nat} {Q : Int32 → xV → Prop} (ha : a < 52) (hb : b < 52) (hL : ∀ k, k < 52 → gA v 72 k = nI (L k) ∧ L k ≤ 200) (k1 : L b ≤ L a → Q (nI 0) v) (k2 : ∀ r, L a < L b → L b ≤ r → r ≤ 200 → (r < 200 → mY v a r = true) → (∀ z, L b ≤ z → z < r → mY v a z = false) → Q (nI 1) (v_A v 72 (upd (gA v 72) a (nI r)))) : KI E (d + 2) 110 [.ref 67, .int (nI a), .int (nI b)] v Q := by
  obtain ⟨a1, a2⟩ := hL a ha
  obtain ⟨b1, b2⟩ := hL b hb
  refine KI.of ok_110 (Nat.le_of_ble_eq_true rfl) (w_X10_raise_0 ?_)
  simp (disch := omega) only [nI_clamp, vp_t, true_and, a1, b1, nI_ltI]
  refine ⟨fun h => k_firstYear ha b2 (fun r r1 r2 r3 r4 => k2 r h r1 r2 r3 r4), fun h => k1 (by omega)⟩
theorem k_allYears {E : Nat × (Nat → Int32)} {d : Nat} {v : xV} {L : Nat → Nat} {Q : Int32 → xV → Prop} (hL : ∀ k, k < 52 → gA v 72 k = nI (L k) ∧ L k ≤ 200) (k1 : (∀ k, k < 52 → L k < 200) → Q (nI 1) v) (k2 : (∃ k, k < 52 ∧ L k = 200) → Q (nI 0) v) : KI E d 105 [.ref 67] v Q := by
  refine KI.of ok_105 (Nat.le_of_ble_eq_true rfl) (w_X10_allHaveYears_0 ?_)
  refine lp_up (n := 52) (P := fun i => (∀ k, k < i → L k < 200) → RI E d 105 2 [(0, .ref 67), (1, .int (nI i))] v Q) (fun h => w_X10_allHaveYears_2 ⟨fun _ => k1 h, fun z => absurd (by decide) z⟩) (fun i hi ih h => w_X10_allHaveYears_2 ?_) (Nat.zero_le _) (fun k hk => by omega)
  obtain ⟨a1, a2⟩ := hL i hi
  simp (disch := omega) only [nI_clamp, vp_t, true_and, a1, nI_ltI, nI_leI, nI_add]
  refine ⟨fun z => by omega, fun _ => ⟨fun h2 => ih (fun k hk => ?_), fun h2 => k2 ⟨i, hi, by omega⟩⟩⟩
  by_cases e : k = i
  · rw [e]
    exact h2
  · exact h k (by omega)

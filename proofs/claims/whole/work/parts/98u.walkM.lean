/-! the reference: the least way -/
theorem sh1 {S z : Nat} (hS : S < 2 ^ 31) (hz : z < 32) : ((nI S >>> (nI z &&& 31)) &&& nI 1) = nI (if S.testBit z = true then 1 else 0) := by
  rw [n_shr hS hz, n_and, Nat.and_one_is_mod]
  by_cases e : S.testBit z = true
  · rw [if_pos e]
    rw [Nat.testBit_eq_decide_div_mod_eq, decide_eq_true_eq] at e
    rw [e]
  · rw [if_neg e]
    rw [Nat.testBit_eq_decide_div_mod_eq, decide_eq_true_eq] at e
    rw [show S / 2 ^ z % 2 = 0 by omega]
theorem sh1_1 {S z : Nat} (hS : S < 2 ^ 31) (hz : z < 32) : ((nI S >>> (nI z &&& 31)) &&& nI 1) = nI 1 ↔ S.testBit z = true := by
  rw [sh1 hS hz]
  by_cases e : S.testBit z = true
  · rw [if_pos e]
    exact ⟨fun _ => e, fun _ => rfl⟩
  · rw [if_neg e]
    exact ⟨fun q => absurd q (by decide), fun q => absurd q e⟩
theorem sh1_0 {S z : Nat} (hS : S < 2 ^ 31) (hz : z < 32) : ((nI S >>> (nI z &&& 31)) &&& nI 1) = nI 0 ↔ ¬ S.testBit z = true := by
  rw [sh1 hS hz]
  by_cases e : S.testBit z = true
  · rw [if_pos e]
    exact ⟨fun q => absurd q (by decide), fun q => absurd e q⟩
  · rw [if_neg e]
    exact ⟨fun _ => e, fun _ => rfl⟩
def cn8 (a : Nat) : Nat := (if a.testBit 0 then 1 else 0) + (if a.testBit 1 then 1 else 0) + (if a.testBit 2 then 1 else 0) + (if a.testBit 3 then 1 else 0) + (if a.testBit 4 then 1 else 0) + (if a.testBit 5 then 1 else 0) + (if a.testBit 6 then 1 else 0) + (if a.testBit 7 then 1 else 0)
theorem cn8_up : ∀ a, a < 256 → ∀ w, w < 8 → a.testBit w = false → cn8 (a ||| 2 ^ w) = cn8 a + 1 ∧ cn8 (a ||| 2 ^ w) ≤ 8 := by decide +kernel
theorem MinI.cong {I : Nat} {A : Nat → Prop} {g g' : Nat → Nat} {k y : Nat} (h : MinI I A g k y) (e : ∀ i, i < k → g' i = g i) : MinI I A g' k y := by
  refine ⟨h.1, fun q => ?_, fun i hi a => ?_⟩
  · obtain ⟨i, a, b, c⟩ := h.2.1 q
    exact ⟨i, a, b, by rw [e i a]; exact c⟩
  · rw [e i hi]
    exact h.2.2 i hi a
def StM (T : xV) (ed : Nat → Nat → Nat → Prop) (cf : Nat → Nat) (n : Nat) : Prop := n ≤ 8 ∧ (∀ i, i < n → gA T 137 i = nI (cf i)) ∧ (∀ i, cf i < 12) ∧ ∃ D : Nat → Nat → Nat, ∀ i j, i < 12 → j < 12 → gA T 136 (12 * i + j) = nI (D i j) ∧ Dok ed 100000000 i j (D i j)
theorem k_tourM {E : Nat × (Nat → Int32)} {d : Nat} {T : xV} {ed : Nat → Nat → Nat → Prop} {cf : Nat → Nat} {n S z : Nat} {x6 : Int32} {Q : Int32 → xV → Prop} (h : StM T ed cf n) (hS : S < 2 ^ n) (hz : z < n) (ht : ∀ S' i, 0 < S' → S' < S → i < n → ∃ x, gA T 138 (8 * S' + i) = nI x ∧ SpT ed cf 100000000 S' i x) (kk : ∀ x, SpT ed cf 100000000 S z x → RI E (d + 1) 223 276 [(0, .ref 80), (4, .int (nI n)), (6, .int x6), (7, .int (nI S)), (8, .int (nI z)), (9, .int (nI x))] T Q) : RI E (d + 1) 223 151 [(0, .ref 80), (4, .int (nI n)), (6, .int x6), (7, .int (nI S)), (8, .int (nI z))] T Q := by
  obtain ⟨h2, hcf, hc12, D, hD⟩ := h
  have h256 : S < 256 := Nat.lt_of_lt_of_le hS (Nat.pow_le_pow_right (by decide) h2 : 2 ^ n ≤ 2 ^ 8)
  have hp2 : 2 ^ z < 2 ^ 31 := Nat.pow_lt_pow_right (by decide) (by omega)
  refine w_X12_walk_151 ?_
  rw [nI_leI (by omega) (by omega), n_s1 (by omega), nI_inj (by omega) hp2]
  refine ⟨fun q => by omega, fun _ => ⟨fun q => ?_, fun q => ?_⟩⟩
  · by_cases hb : S.testBit z = true
    · obtain ⟨c1, c2⟩ := clr S h256 z (by omega) hb
      have hA := fun i => clr_b S z i hb
      obtain ⟨A, eA⟩ : ∃ A, A = S ^^^ 2 ^ z := ⟨_, rfl⟩
      rw [← eA] at c1
      rw [← eA] at c2
      rw [← eA] at hA
      have hAn : ∀ i, A.testBit i = true → i < n := fun i hi => b_lt hS ((hA i).mp hi).1
      have q0 : A ≠ 0 := by
        intro e
        apply q
        apply Nat.eq_of_testBit_eq
        intro i
        rw [Nat.testBit_two_pow]
        by_cases e2 : z = i
        · rw [decide_eq_true e2, ← e2]
          exact hb
        · rw [decide_eq_false e2]
          cases hh : S.testBit i with
          | false => rfl
          | true =>
            have := (hA i).mpr ⟨hh, fun r => e2 r.symm⟩
            rw [e, Nat.zero_testBit] at this
            exact this.symm
      have h0 : ∃ i, A.testBit i = true := Nat.exists_testBit_of_ne_zero q0
      let tA : Nat → Nat := fun i => (gA T 138 (8 * A + i)).toNatClampNeg
      have htA : ∀ i, i < n → gA T 138 (8 * A + i) = nI (tA i) ∧ SpT ed cf 100000000 A i (tA i) := by
        intro i hi
        obtain ⟨x, x1, x2⟩ := ht A i (by omega) c2 hi
        have : tA i = x := by
          show (gA T 138 (8 * A + i)).toNatClampNeg = x
          rw [x1, nI_clamp (by have := x2.1; omega)]
        rw [this]
        exact ⟨x1, x2⟩
      refine lp_up (n := n) (P := fun i => ∀ y, MinI 100000000 (fun i => A.testBit i = true) (fun i => tA i + D (cf i) (cf z)) i y → RI E (d + 1) 223 178 [(0, .ref 80), (4, .int (nI n)), (6, .int x6), (7, .int (nI S)), (8, .int (nI z)), (9, .int (nI y)), (10, .int (nI i))] T Q) (fun y hy => w_X12_walk_178 ⟨fun _ => ?_, fun q => absurd (nI_le (Nat.le_refl _) (by omega)) q⟩) (fun i hi ih y hy => w_X12_walk_178 ⟨fun q => ?_, fun _ => ⟨fun q => absurd ((sh1_1 (by omega) (by omega)).mpr hb) q, fun _ y1 hy1 => ?_⟩⟩) (Nat.zero_le _) 100000000 (MinI.zero _ _ _)
      · exact kk y (SpT.step hA hAn h0 (fun i hi => (htA i (hAn i hi)).2) (fun i hi => (hD (cf i) (cf z) (hc12 i) (hc12 z)).2) hy)
      · exfalso
        rw [nI_leI (by omega) (by omega)] at q
        omega
      · rw [n_s1 (by omega), c1] at hy1
        subst hy1
        rw [sh1_0 (by omega) (by omega), nI_add]
        refine ⟨fun q => ?_, fun q => ih y (hy.skip q)⟩
        have q : A.testBit i = true := Classical.byContradiction q
        have hi12 := hc12 i
        have hz12 := hc12 z
        rw [nI_clamp (by omega), nI_clamp (by omega), hcf i hi, hcf z hz]
        simp only [pk_mul, nI_add]
        rw [nI_clamp (by omega), nI_clamp (by omega), (htA i hi).1, (hD (cf i) (cf z) hi12 hz12).1]
        refine ⟨vp_in_nI (by omega) (by decide), vp_in_nI (by omega) (by decide), vp_in_nI (by omega) (by decide), vp_in_nI (by omega) (by decide), fun y6 hy6 => ?_⟩
        have l1 := (htA i hi).2.1
        have l2 := (hD (cf i) (cf z) hi12 hz12).2.1
        have l3 := hy.1
        rw [nI_add] at hy6
        subst hy6
        rw [nI_leI (by omega) (by omega)]
        exact ⟨fun r => ih y (hy.keep r), fun r => ih _ (hy.take q (by omega))⟩
    · refine w_X12_walk_178 ⟨fun _ => kk 100000000 (SpT.out (by cases hh : S.testBit z with | false => rfl | true => exact absurd hh hb)), fun _ => ⟨fun _ => kk 100000000 (SpT.out (by cases hh : S.testBit z with | false => rfl | true => exact absurd hh hb)), fun q => absurd ((sh1_1 (by omega) (by omega)).mp q) hb⟩⟩
  · have hb : S.testBit z = true := by rw [q, Nat.testBit_two_pow_self]
    obtain ⟨c1, c2⟩ := clr S h256 z (by omega) hb
    have e0 : S ^^^ 2 ^ z = 0 := by rw [q, Nat.xor_self]
    rw [e0] at c1
    refine lp_up (n := n) (P := fun i => RI E (d + 1) 223 178 [(0, .ref 80), (4, .int (nI n)), (6, .int x6), (7, .int (nI S)), (8, .int (nI z)), (9, .int (nI 0)), (10, .int (nI i))] T Q) (w_X12_walk_178 ⟨fun _ => kk 0 (SpT.one (fun i hi => ?_)), fun q => absurd (nI_le (Nat.le_refl _) (by omega)) q⟩) (fun i hi ih => w_X12_walk_178 ⟨fun q => ?_, fun _ => ⟨fun q => absurd ((sh1_1 (by omega) (by omega)).mpr hb) q, fun _ y1 hy1 => ?_⟩⟩) (Nat.zero_le _)
    · rw [q, Nat.testBit_two_pow, decide_eq_true_eq] at hi
      exact hi.symm
    · exfalso
      rw [nI_leI (by omega) (by omega)] at q
      omega
    · rw [n_s1 (by omega), c1] at hy1
      subst hy1
      rw [sh1_0 (by decide) (by omega), nI_add]
      exact ⟨fun q => absurd (by rw [Nat.zero_testBit]; decide) q, fun _ => ih⟩
theorem k_toursM {E : Nat × (Nat → Int32)} {d : Nat} {B : xV} {ed : Nat → Nat → Nat → Prop} {cf : Nat → Nat} {n : Nat} {X : Nat → Prop} {Q : Int32 → xV → Prop} (h : ∀ g, StM (v_A B 138 g) ed cf n) (h0 : 0 < n) (hX : ∀ x, X x ↔ ∃ i, i < n ∧ cf i = x) (kk : ∀ W g, WkT ed X 100000000 W → Q (if W < 100000000 then nI W else -2) (v_A B 138 g)) : RI E (d + 1) 223 139 [(0, .ref 80), (4, .int (nI n)), (6, .int (nI 100000000)), (7, .int (nI 1))] B Q := by
  have hn8 := (h (gA B 138)).1
  have hpw : 2 ^ n ≤ 256 := (Nat.pow_le_pow_right (by decide) (by omega) : 2 ^ n ≤ 2 ^ 8)
  have hpw2 : 2 ≤ 2 ^ n := (Nat.pow_le_pow_right (by decide) (by omega) : 2 ^ 1 ≤ 2 ^ n)
  have key : ∀ S, S ≤ 2 ^ n → 1 ≤ S → ∀ g y, (∀ S' i, 0 < S' → S' < S → i < n → ∃ x, g (8 * S' + i) = nI x ∧ SpT ed cf 100000000 S' i x) → (S < 2 ^ n → y = 100000000) → (S = 2 ^ n → WkT ed X 100000000 y) → RI E (d + 1) 223 139 [(0, .ref 80), (4, .int (nI n)), (6, .int (nI y)), (7, .int (nI S))] (v_A B 138 g) Q := by
    intro S hS
    refine lp_up (n := 2 ^ n) (P := fun S => 1 ≤ S → ∀ g y, (∀ S' i, 0 < S' → S' < S → i < n → ∃ x, g (8 * S' + i) = nI x ∧ SpT ed cf 100000000 S' i x) → (S < 2 ^ n → y = 100000000) → (S = 2 ^ n → WkT ed X 100000000 y) → RI E (d + 1) 223 139 [(0, .ref 80), (4, .int (nI n)), (6, .int (nI y)), (7, .int (nI S))] (v_A B 138 g) Q) (fun _ g y hg h1 h2 => w_X12_walk_139 ?_) (fun S hS ih hS1 g y hg h1 h2 => w_X12_walk_139 ?_) hS
    · have hw := h2 rfl
      have := hw.1
      have k := kk y g hw
      rw [n_s1 (by omega), nI_ltI (by omega) (by decide)]
      refine ⟨fun _ => ⟨fun q => ?_, fun q => ?_⟩, fun q => absurd (nI_le (Nat.le_refl _) (by omega)) q⟩
      · rw [if_pos q] at k
        exact k
      · rw [if_neg q] at k
        exact k
    · rw [n_s1 (by omega), nI_leI (by omega) (by omega)]
      refine ⟨fun q => by omega, fun _ => ?_⟩
      have hy : y = 100000000 := h1 hS
      subst hy
      have inner : ∀ z, z ≤ n → ∀ (g : Nat → Int32) (y : Nat) (t : Nat → Nat), (∀ S' i, 0 < S' → S' < S → i < n → ∃ x, g (8 * S' + i) = nI x ∧ SpT ed cf 100000000 S' i x) → (∀ i, i < z → g (8 * S + i) = nI (t i) ∧ SpT ed cf 100000000 S i (t i)) → y ≤ 100000000 → (S < 2 ^ n - 1 → y = 100000000) → (S = 2 ^ n - 1 → MinI 100000000 (fun _ => True) t z y) → RI E (d + 1) 223 151 [(0, .ref 80), (4, .int (nI n)), (6, .int (nI y)), (7, .int (nI S)), (8, .int (nI z))] (v_A B 138 g) Q := by
        intro z hz
        refine lp_up (n := n) (P := fun z => ∀ (g : Nat → Int32) (y : Nat) (t : Nat → Nat), (∀ S' i, 0 < S' → S' < S → i < n → ∃ x, g (8 * S' + i) = nI x ∧ SpT ed cf 100000000 S' i x) → (∀ i, i < z → g (8 * S + i) = nI (t i) ∧ SpT ed cf 100000000 S i (t i)) → y ≤ 100000000 → (S < 2 ^ n - 1 → y = 100000000) → (S = 2 ^ n - 1 → MinI 100000000 (fun _ => True) t z y) → RI E (d + 1) 223 151 [(0, .ref 80), (4, .int (nI n)), (6, .int (nI y)), (7, .int (nI S)), (8, .int (nI z))] (v_A B 138 g) Q) (fun g y t g1 g2 g3 g4 g5 => w_X12_walk_151 ⟨fun _ => ?_, fun q => absurd (nI_le (Nat.le_refl _) (by omega)) q⟩) (fun z hz ihz g y t g1 g2 g3 g4 g5 => k_tourM (h g) hS hz g1 (fun x hx => w_X12_walk_276 ?_)) hz
        · rw [nI_add]
          refine ih (by omega) g y (fun S' i k1 k2 hi => ?_) (fun q => g4 (by omega)) (fun q => ?_)
          · by_cases e : S' = S
            · rw [e]
              exact ⟨t i, g2 i hi⟩
            · exact g1 S' i k1 (by omega) hi
          · have hf : S = 2 ^ n - 1 := by omega
            have g5' := g5 hf
            rw [hf] at g2
            exact WkT.of (ed := ed) hX h0 (full_b n) (fun z hz => (g2 z hz).2) g5'
        · have hx1 := hx.1
          have nx : ∀ y', y' ≤ 100000000 → (S < 2 ^ n - 1 → y' = 100000000) → (S = 2 ^ n - 1 → MinI 100000000 (fun _ => True) (updN t z x) (z + 1) y') → RI E (d + 1) 223 151 [(0, .ref 80), (4, .int (nI n)), (6, .int (nI y')), (7, .int (nI S)), (8, .int (nI (z + 1)))] (v_A B 138 (upd g (8 * S + z) (nI x))) Q := by
            intro y' k1 k2 k3
            refine ihz _ y' (updN t z x) (fun S' i j1 j2 hi => ?_) (fun i hi => ?_) k1 k2 k3
            · rw [upd_n _ _ (by omega)]
              exact g1 S' i j1 j2 hi
            · by_cases e : i = z
              · rw [e, upd_s, updN_s]
                exact ⟨rfl, hx⟩
              · rw [upd_n _ _ (by omega), updN_n t x e]
                exact g2 i (by omega)
          simp only [pk_mul, nI_add]
          rw [nI_clamp (by omega), n_s1 (by omega), nI_sub (by omega), nI_inj (by omega) (by omega), vA_s, show gA (v_A B 138 g) 138 = g from rfl, nI_leI (by omega) (by omega)]
          have mc : S = 2 ^ n - 1 → MinI 100000000 (fun _ => True) (updN t z x) z y := fun q => (g5 q).cong (fun i hi => updN_n t x (by omega))
          refine ⟨vp_in_nI (by omega) (by decide), fun q => nx y g3 g4 (fun q2 => absurd q2 q), fun q => ⟨fun r => nx y g3 g4 (fun q2 => (mc q2).keep (by rw [updN_s]; exact r)), fun r => nx x hx1 (fun q2 => by omega) (fun q2 => ?_)⟩⟩
          have := (mc q2).take (show True from trivial) (by rw [updN_s]; omega)
          rw [updN_s] at this
          exact this
      exact inner 0 (Nat.zero_le _) g 100000000 (fun _ => 0) hg (fun i hi => absurd hi (Nat.not_lt_zero _)) (Nat.le_refl _) (fun _ => rfl) (fun _ => MinI.zero _ _ _)
  have := key 1 (by omega) (Nat.le_refl _) (gA B 138) 100000000 (fun S' i k1 k2 => by omega) (fun _ => rfl) (fun q => by omega)
  rw [vAself] at this
  exact this
theorem k_walkM {E : Nat × (Nat → Int32)} {d : Nat} {u : xV} {n : Nat} {ed : Nat → Nat → Nat → Prop} {l : List Nat} {q wl co : Nat → Nat} {p : Nat} {Q : Int32 → xV → Prop} (hn : gI u 80 21 = nI n) (hn30 : n ≤ 30) (hed : ed = edge (gA u 88) (gA u 89) (gA u 90) n) (hst : ∀ k, k < n → isN 12 (gA u 88 k) ∧ isN 12 (gA u 89 k) ∧ ∃ e, (1 ≤ e ∧ e ≤ 99) ∧ gA u 90 k = nI e) (hl : l.length ≤ 10) (hlK : ∀ x, x ∈ l → x < 20) (hp : p < 2 ^ 31) (hqb : ∀ i, i < l.length → q i < 2 ^ 31) (h8 : gI u 80 82 = nI l.length) (hm : ∀ i x, l[i]? = some x → gA u 132 i = nI x) (hq : ∀ i, i < l.length → gA u 133 i = nI (q i)) (hw : ∀ x, x < 20 → gA u 100 x = nI (wl x) ∧ wl x < 8) (hco : ∀ w, gA u 91 w = nI (co w) ∧ co w < 12) (hne : ∃ (j x : Nat), l[j]? = some x ∧ q j = p) (kk : ∀ W f g h, WkT ed (fun y => ∃ (j x : Nat), l[j]? = some x ∧ q j = p ∧ co (wl x) = y) 100000000 W → Q (if W < 100000000 then nI W else -2) (v_A (v_A (v_A u 137 f) 136 g) 138 h)) : RI E (d + 1) 223 47 [(0, .ref 80), (2, .int (nI p)), (4, .int (nI 0)), (5, .int (nI 0)), (6, .int (nI 0))] u Q := by
  have key : ∀ k, k ≤ l.length → ∀ (f : Nat → Int32) (a : Nat) (cf : Nat → Nat), a < 256 → (∀ i, i < cn8 a → f i = nI (cf i)) → (∀ i, cf i < 12) → cn8 a ≤ 8 → (∀ w, a.testBit w = true ↔ ∃ (j x : Nat), j < k ∧ l[j]? = some x ∧ q j = p ∧ wl x = w) → (∀ y, (∃ i, i < cn8 a ∧ cf i = y) ↔ ∃ (j x : Nat), j < k ∧ l[j]? = some x ∧ q j = p ∧ co (wl x) = y) → RI E (d + 1) 223 47 [(0, .ref 80), (2, .int (nI p)), (4, .int (nI (cn8 a))), (5, .int (nI a)), (6, .int (nI k))] (v_A u 137 f) Q := by
    intro k hk
    refine lp_up (n := l.length) (P := fun k => ∀ (f : Nat → Int32) (a : Nat) (cf : Nat → Nat), a < 256 → (∀ i, i < cn8 a → f i = nI (cf i)) → (∀ i, cf i < 12) → cn8 a ≤ 8 → (∀ w, a.testBit w = true ↔ ∃ (j x : Nat), j < k ∧ l[j]? = some x ∧ q j = p ∧ wl x = w) → (∀ y, (∃ i, i < cn8 a ∧ cf i = y) ↔ ∃ (j x : Nat), j < k ∧ l[j]? = some x ∧ q j = p ∧ co (wl x) = y) → RI E (d + 1) 223 47 [(0, .ref 80), (2, .int (nI p)), (4, .int (nI (cn8 a))), (5, .int (nI a)), (6, .int (nI k))] (v_A u 137 f) Q) (fun f a cf h1 h2 h3 h4 h5 h6 => w_X12_walk_47 ⟨fun _ => ?_, fun z => ?_⟩) (fun k hk ih f a cf h1 h2 h3 h4 h5 h6 => w_X12_walk_47 ⟨fun z => ?_, fun _ => ?_⟩) hk
    · refine k_measure (v := v_A u 137 f) (ed := ed) hn hn30 hed hst (fun D g hD => ?_)
      have hX : ∀ y, (∃ (j x : Nat), l[j]? = some x ∧ q j = p ∧ co (wl x) = y) ↔ ∃ i, i < cn8 a ∧ cf i = y := by
        intro y
        rw [h6 y]
        exact ⟨fun ⟨j, x, e, r⟩ => ⟨j, x, (List.getElem?_eq_some_iff.mp e).1, e, r⟩, fun ⟨j, x, _, r⟩ => ⟨j, x, r⟩⟩
      refine k_toursM (ed := ed) (cf := cf) (B := v_A (v_A u 137 f) 136 g) (fun h => ⟨h4, h2, h3, D, hD⟩) ?_ hX (fun W h hW => kk W f g h hW)
      obtain ⟨j, x, e1, e2⟩ := hne
      obtain ⟨i, hi, -⟩ := (hX _).mp ⟨j, x, e1, e2, rfl⟩
      omega
    · rw [show gI (v_A u 137 f) 80 82 = nI l.length from h8] at z
      exact absurd (nI_le (Nat.le_refl _) (by omega)) z
    · exfalso
      rw [show gI (v_A u 137 f) 80 82 = nI l.length from h8, nI_leI (by omega) (by omega)] at z
      omega
    · have ek : l[k]? = some l[k] := List.getElem?_eq_getElem hk
      have hx := hlK _ (List.getElem_mem hk)
      have hwx := hw _ hx
      have hcw := hco (wl l[k])
      have hv : vp_in (nI k) 10 := vp_in_nI (by omega) (by decide)
      rw [nI_clamp (by omega), show gA (v_A u 137 f) 132 = gA u 132 from rfl, show gA (v_A u 137 f) 133 = gA u 133 from rfl, show gA (v_A u 137 f) 100 = gA u 100 from rfl, show gA (v_A u 137 f) 91 = gA u 91 from rfl, show gA (v_A u 137 f) 137 = f from rfl, hm k _ ek, hq k hk, nI_clamp (by omega), hwx.1, nI_inj (hqb k hk) hp, nI_add, nI_add]
      refine ⟨hv, vp_in_nI hx (by decide), fun y4 hy4 => ⟨hv, ?_⟩⟩
      subst hy4
      rw [sh1_1 (by omega) (by omega), n_s1 (by omega), n_or, nI_clamp (by omega), nI_clamp (by omega), hcw.1, vA_s]
      refine ⟨fun z => ih f a cf h1 h2 h3 h4 (fun w => ?_) (fun y => ?_), fun z => ⟨fun z2 y6 hy6 => ?_, fun z2 => ih f a cf h1 h2 h3 h4 (fun w => ?_) (fun y => ?_)⟩⟩
      · rw [h5 w]
        constructor
        · exact fun ⟨j, x, hj, r⟩ => ⟨j, x, by omega, r⟩
        · rintro ⟨j, x, hj, e, r⟩
          by_cases e2 : j = k
          · exact absurd (e2 ▸ r.1) z
          · exact ⟨j, x, by omega, e, r⟩
      · rw [h6 y]
        constructor
        · exact fun ⟨j, x, hj, r⟩ => ⟨j, x, by omega, r⟩
        · rintro ⟨j, x, hj, e, r⟩
          by_cases e2 : j = k
          · exact absurd (e2 ▸ r.1) z
          · exact ⟨j, x, by omega, e, r⟩
      · subst hy6
        have hbf : a.testBit (wl l[k]) = false := by
          cases hh : a.testBit (wl l[k]) with
          | false => rfl
          | true => exact absurd hh z2
        obtain ⟨c1, c2⟩ := cn8_up a h1 (wl l[k]) hwx.2 hbf
        refine ⟨vp_in_nI hwx.2 (by decide), vp_in_nI (by omega) (by decide), ?_⟩
        have := ih (upd f (cn8 a) (nI (co (wl l[k])))) (a ||| 2 ^ wl l[k]) (updN cf (cn8 a) (co (wl l[k]))) (n_lt_or (n := 8) h1 hwx.2) (fun i hi => ?_) (fun i => ?_) c2 (fun w => ?_) (fun y => ?_)
        · rw [c1] at this
          exact this
        · rw [upd_i]
          by_cases e : i = cn8 a
          · rw [if_pos e, e, updN_s]
          · rw [if_neg e, updN_n cf _ e]
            exact h2 i (by omega)
        · by_cases e : i = cn8 a
          · rw [e, updN_s]
            exact hcw.2
          · rw [updN_n cf _ e]
            exact h3 i
        · rw [n_or_b, Bool.or_eq_true, h5 w, decide_eq_true_eq]
          constructor
          · rintro (⟨j, x, hj, r⟩ | e)
            · exact ⟨j, x, by omega, r⟩
            · exact ⟨k, _, by omega, ek, z, e⟩
          · rintro ⟨j, x, hj, e, r1, r2⟩
            by_cases e2 : j = k
            · subst e2
              rw [ek] at e
              cases e
              exact Or.inr r2
            · exact Or.inl ⟨j, x, by omega, e, r1, r2⟩
        · have hnew : (∃ i, i < cn8 (a ||| 2 ^ wl l[k]) ∧ updN cf (cn8 a) (co (wl l[k])) i = y) ↔ (∃ i, i < cn8 a ∧ cf i = y) ∨ co (wl l[k]) = y := by
            rw [c1]
            constructor
            · rintro ⟨i, r1, r2⟩
              by_cases e : i = cn8 a
              · rw [e, updN_s] at r2
                exact Or.inr r2
              · rw [updN_n cf _ e] at r2
                exact Or.inl ⟨i, by omega, r2⟩
            · rintro (⟨i, r1, r2⟩ | r)
              · exact ⟨i, by omega, by rw [updN_n cf _ (by omega)]; exact r2⟩
              · exact ⟨cn8 a, by omega, by rw [updN_s]; exact r⟩
          rw [hnew, h6 y]
          constructor
          · rintro (⟨j, x, hj, r⟩ | e)
            · exact ⟨j, x, by omega, r⟩
            · exact ⟨k, _, by omega, ek, z, e⟩
          · rintro ⟨j, x, hj, e, r1, r2⟩
            by_cases e2 : j = k
            · subst e2
              rw [ek] at e
              cases e
              exact Or.inr r2
            · exact Or.inl ⟨j, x, by omega, e, r1, r2⟩
      · rw [h5 w]
        constructor
        · exact fun ⟨j, x, hj, r⟩ => ⟨j, x, by omega, r⟩
        · rintro ⟨j, x, hj, e, r1, r2⟩
          by_cases e2 : j = k
          · subst e2
            rw [ek] at e
            cases e
            subst r2
            exact (h5 _).mp z2
          · exact ⟨j, x, by omega, e, r1, r2⟩
      · rw [h6 y]
        constructor
        · exact fun ⟨j, x, hj, r⟩ => ⟨j, x, by omega, r⟩
        · rintro ⟨j, x, hj, e, r1, r2⟩
          by_cases e2 : j = k
          · subst e2
            rw [ek] at e
            cases e
            obtain ⟨j', x', s1, s2, s3, s4⟩ := (h5 _).mp z2
            exact ⟨j', x', s1, s2, s3, by rw [s4]; exact r2⟩
          · exact ⟨j, x, by omega, e, r1, r2⟩
  have := key 0 (Nat.zero_le _) (gA u 137) 0 (fun _ => 0) (by decide) (fun i hi => absurd hi (Nat.not_lt_zero _)) (fun _ => (show 0 < 12 by decide)) (by decide) (fun w => by
    rw [Nat.zero_testBit]
    exact ⟨fun z => absurd z (by decide), fun ⟨j, x, hj, _⟩ => absurd hj (Nat.not_lt_zero _)⟩) (fun y => ⟨fun ⟨i, hi, _⟩ => absurd hi (Nat.not_lt_zero _), fun ⟨j, x, hj, _⟩ => absurd hj (Nat.not_lt_zero _)⟩)
  rw [vAself] at this
  exact this

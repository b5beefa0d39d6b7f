/-! loops, bits, habits -/
theorem lp_up {P : Nat → Prop} {n : Nat} (last : P n) (step : ∀ i, i < n → P (i + 1) → P i) {i : Nat} (hi : i ≤ n) : P i := by
  have H : ∀ m j, j + m = n → P j := by
    intro m
    induction m with
    | zero =>
      intro j hj
      obtain rfl : j = n := by omega
      exact last
    | succ m ih => exact fun j hj => step j (by omega) (ih (j + 1) (by omega))
  exact H (n - i) i (by omega)
theorem vp_t {i n : Nat} (h : i < n) (hn : n < 2 ^ 31) : vp_in (nI i) n = True := eq_true (vp_in_nI h hn)
theorem n_and (a b : Nat) : nI a &&& nI b = nI (a &&& b) := by
  apply Int32.toBitVec_inj.mp
  rw [Int32.toBitVec_and]
  show BitVec.ofNat 32 a &&& BitVec.ofNat 32 b = BitVec.ofNat 32 (a &&& b)
  exact (BitVec.ofNat_and ..).symm
theorem n_or (a b : Nat) : nI a ||| nI b = nI (a ||| b) := by
  apply Int32.toBitVec_inj.mp
  rw [Int32.toBitVec_or]
  show BitVec.ofNat 32 a ||| BitVec.ofNat 32 b = BitVec.ofNat 32 (a ||| b)
  exact (BitVec.ofNat_or ..).symm
theorem n_sl : ∀ n, n < 32 → ((nI n &&& 31).toBitVec.smod 32).toNat = n := by decide +kernel
theorem n_s1 {w : Nat} (h : w < 32) : nI 1 <<< (nI w &&& 31) = nI (2 ^ w) := by
  rw [pk_shlN _ w (n_sl w h) (by rw [Nat.one_mul]; exact Nat.pow_lt_pow_right (by decide) h), Nat.one_mul]
theorem n_shr {a w : Nat} (ha : a < 2 ^ 31) (h : w < 32) : nI a >>> (nI w &&& 31) = nI (a / 2 ^ w) := pk_shrN ha _ w (n_sl w h)
theorem n_b0 {a w : Nat} : a &&& 2 ^ w = 0 ↔ a.testBit w = false := by
  constructor
  · intro h
    have e : (a &&& 2 ^ w).testBit w = false := by rw [h]; exact Nat.zero_testBit w
    rw [Nat.testBit_and, Nat.testBit_two_pow_self, Bool.and_true] at e
    exact e
  · intro h
    apply Nat.eq_of_testBit_eq
    intro i
    rw [Nat.testBit_and, Nat.zero_testBit]
    by_cases hi : i = w
    · rw [hi, h, Bool.false_and]
    · rw [Nat.testBit_two_pow_of_ne (fun e => hi e.symm), Bool.and_false]
theorem n_or_b (a w u : Nat) : (a ||| 2 ^ w).testBit u = (a.testBit u || decide (w = u)) := by rw [Nat.testBit_or, Nat.testBit_two_pow]
theorem n_lt_or {a w n : Nat} (h : a < 2 ^ n) (hw : w < n) : a ||| 2 ^ w < 2 ^ n := Nat.or_lt_two_pow h (Nat.pow_lt_pow_right (by decide) hw)
theorem n_lt_and {a b n : Nat} (h : a < n) : a &&& b < n := Nat.lt_of_le_of_lt Nat.and_le_left h
/-- a number below N, or none -/
theorem i_ln {x : Int32} {N : Nat} (hN : N < 2 ^ 31) : (nI 0 ≤ x ∧ x < nI N) ↔ ∃ n, n < N ∧ x = nI n := by
  constructor
  · rintro ⟨h1, h2⟩
    obtain ⟨n, _, h, e⟩ := i_btw' hN (by decide) h1 h2
    exact ⟨n, h, e⟩
  · rintro ⟨n, h, rfl⟩
    exact ⟨nz_le (by omega), (nI_ltI (by omega) hN).mpr h⟩
theorem k_let {E : Nat × (Nat → Int32)} {d : Nat} {v : xV} {x : Int32} {Q : Int32 → xV → Prop} (k1 : ∀ n, n < 26 → x = nI n → Q (nI 1) v) (k2 : (¬ ∃ n, n < 26 ∧ x = nI n) → Q (nI 0) v) : KI E d 143 [.int x] v Q := by
  refine k_isLetter ?_
  by_cases h : nI 0 ≤ x ∧ x < nI 26
  · obtain ⟨n, hn, e⟩ := (i_ln (by decide)).mp h
    rw [decide_eq_true h.1, decide_eq_true h.2]
    exact k1 n hn e
  · have e : (decide (nI 0 ≤ x) && decide (x < nI 26)) = false := by
      rw [Bool.and_eq_false_iff, decide_eq_false_iff_not, decide_eq_false_iff_not]
      exact Decidable.not_and_iff_or_not.mp h
    rw [e]
    exact k2 (fun g => h ((i_ln (by decide)).mpr g))
/-- isIn of 0 up to N -/
theorem k_inN {E : Nat × (Nat → Int32)} {d : Nat} {v : xV} {x : Int32} {N : Nat} {Q : Int32 → xV → Prop} (hN : N < 2 ^ 31) (k1 : ∀ n, n ≤ N → x = nI n → Q (nI 1) v) (k2 : (¬ ∃ n, n ≤ N ∧ x = nI n) → Q (nI 0) v) : KI E d 152 [.int x, .int (nI 0), .int (nI N)] v Q := by
  refine k_in (fun h => ?_) (fun h => k2 (fun ⟨n, hn, e⟩ => h ?_))
  · obtain ⟨n, _, hn, e⟩ := i_btw hN (by decide) h.1 h.2
    exact k1 n hn e
  · subst e
    exact ⟨nz_le (by omega), (nI_leI (by omega) hN).mpr hn⟩
def hab (n l w : Nat → Int32) (dd a b : Nat) : Prop := ∃ k, k < (n dd).toNatClampNeg ∧ l (12 * dd + k) = nI a ∧ w (12 * dd + k) = nI b
/-- the habits: bits of each drawer and letter, how many; how many, letters, drawn -/
def IvH (m n n' l w : Nat → Int32) : Prop := n = n' ∧ (∀ i, ∃ k, k ≤ 12 ∧ n i = nI k) ∧ (∀ i, ∃ a, a < 2 ^ 26 ∧ m i = nI a) ∧ ∀ dd a b, dd < 4 → a < 26 → b < 26 → ((m (26 * dd + a)).toNatClampNeg.testBit b = true ↔ hab n l w dd a b)
theorem k_hasHabit {E : Nat × (Nat → Int32)} {d : Nat} {v : xV} {dd a b k : Nat} {Q : Int32 → xV → Prop} (hd : dd < 4) (ha : a < 26) (hb : b < 26) (hm : gA v 9 (26 * dd + a) = nI k) (hk : k < 2 ^ 26) (k1 : k.testBit b = true → Q (nI 1) v) (k2 : k.testBit b = false → Q (nI 0) v) : KI E d 30 [.ref 3, .int (nI dd), .int (nI a), .int (nI b)] v Q := by
  refine KI.of ok_30 (Nat.le_of_ble_eq_true rfl) (w_X3_hasHabit_0 ?_)
  have hl : k &&& 2 ^ b < 2 ^ 31 := n_lt_and (by omega)
  rw [Nat.mul_comm 26] at hm
  simp (disch := omega) only [nI_add, pk_mul, nI_clamp, nI_leI, nI_ltI, nI_eq, vp_t, true_and, hm, n_s1, n_and, n_b0]
  refine ⟨fun h => k2 h, fun h => k1 ?_⟩
  rw [Bool.not_eq_false] at h
  exact h
theorem k_habitX {E : Nat × (Nat → Int32)} {d : Nat} {v : xV} {dd a b k n : Nat} {Q : Int32 → xV → Prop} (hd : dd < 4) (ha : a < 26) (hb : b < 26) (hm : gA v 9 (26 * dd + a) = nI k) (hk : k < 2 ^ 26) (hc : gA v 10 dd = nI n) (hn : n ≤ 12)
    (k1 : a = b ∨ k.testBit b = true ∨ n = 12 → Q (-1) v) (k2 : a ≠ b → k.testBit b = false → n < 12 → Q (nI (n + 1)) (v_A (v_A (v_A v 9 (upd (gA v 9) (26 * dd + a) (nI (k ||| 2 ^ b)))) 10 (upd (gA v 10) dd (nI (n + 1)))) 39 (zto 20 (gA v 39)))) : KI E (d + 2) 120 [.ref 0, .int (nI dd), .int (nI a), .int (nI b)] v Q := by
  have b1 : ∀ h : a = b ∨ k.testBit b = true ∨ n = 12, ((-1 : Int32) = -1 → Q (-1) v) ∧ (¬ (-1 : Int32) = -1 → KV E (d + 1) 72 [.ref 38] v (fun v3 => Q (-1) v3)) := fun h => ⟨fun _ => k1 h, fun hx => absurd rfl hx⟩
  refine KI.of ok_120 (Nat.le_of_ble_eq_true rfl) (w_X11_habit_0 (KI.of ok_29 (Nat.le_of_ble_eq_true rfl) (w_X3_addHabit_0 ⟨fun h => absurd h (nz_lt (by omega)), fun _ => ⟨fun h => ?_, fun _ => k_let (fun _ _ _ => ⟨fun h => absurd h nI_01, fun _ => k_let (fun _ _ _ => ⟨fun h => absurd h nI_01, fun _ => ⟨fun h0 => ?_, fun h => b1 ?_⟩⟩) (fun h => absurd ⟨b, hb, rfl⟩ h)⟩) (fun h => absurd ⟨a, ha, rfl⟩ h)⟩⟩)))
  · rw [nI_leI (by decide) (by omega)] at h
    omega
  · rw [nI_eq (by omega) (by omega)] at h0
    refine k_hasHabit hd ha hb hm hk (fun h => ⟨fun _ => b1 (Or.inr (Or.inl h)), fun h => absurd h nI_01⟩) (fun h => ⟨fun h => absurd rfl h, fun _ => ?_⟩)
    have hm' := hm
    rw [Nat.mul_comm 26] at hm' 
    simp (disch := omega) only [nI_add, pk_mul, nI_clamp, nI_leI, nI_ltI, nI_eq, vp_t, true_and, hc, hm', n_s1, n_or, upd_s]
    refine ⟨fun h2 => ⟨fun hx => absurd hx (m1_ne (by omega)), fun _ => k_forget ?_⟩, fun h2 => ⟨fun _ => k1 (Or.inr (Or.inr (by omega))), fun h => absurd trivial h⟩⟩
    rw [Nat.mul_comm dd]
    exact k2 h0 h h2
  · rw [nI_eq (by omega) (by omega)] at h
    exact Or.inl h
theorem k_habitXN {E : Nat × (Nat → Int32)} {d : Nat} {v : xV} {x y z : Int32} {Q : Int32 → xV → Prop} (hb : ¬ ((∃ n, n < 4 ∧ x = nI n) ∧ (∃ n, n < 26 ∧ y = nI n) ∧ ∃ n, n < 26 ∧ z = nI n)) (k : Q (-1) v) : KI E (d + 2) 120 [.ref 0, .int x, .int y, .int z] v Q := by
  have b1 : ((-1 : Int32) = -1 → Q (-1) v) ∧ (¬ (-1 : Int32) = -1 → KV E (d + 1) 72 [.ref 38] v (fun v3 => Q (-1) v3)) := ⟨fun _ => k, fun hx => absurd rfl hx⟩
  refine KI.of ok_120 (Nat.le_of_ble_eq_true rfl) (w_X11_habit_0 (KI.of ok_29 (Nat.le_of_ble_eq_true rfl) (w_X3_addHabit_0 ⟨fun h => b1, fun h => ⟨fun h => b1, fun h2 => k_let (fun a ha ea => ⟨fun h => absurd h nI_01, fun _ => k_let (fun b hb' eb => absurd ⟨?_, ⟨a, ha, ea⟩, b, hb', eb⟩ hb) (fun _ => ⟨fun _ => b1, fun h => absurd rfl h⟩)⟩) (fun _ => ⟨fun _ => b1, fun h => absurd rfl h⟩)⟩⟩)))
  exact (i_ln (by decide)).mp ⟨i_nlt.mp h, i_nle.mp h2⟩
theorem k_isHabit {E : Nat × (Nat → Int32)} {d : Nat} {v : xV} {dd a b n : Nat} {Q : Int32 → xV → Prop} (hd : dd < 4) (ha : a < 26) (hb : b < 26) (hc : gA v 93 dd = nI n) (hn : n ≤ 12) (k1 : hab (gA v 93) (gA v 94) (gA v 95) dd a b → Q (nI 1) v) (k2 : ¬ hab (gA v 93) (gA v 94) (gA v 95) dd a b → Q (nI 0) v) : KI E d 162 [.ref 80, .int (nI dd), .int (nI a), .int (nI b)] v Q := by
  have hcl : (gA v 93 dd).toNatClampNeg = n := by rw [hc, nI_clamp (by omega)]
  have step : ∀ i, i ≤ n → (∀ j, j < i → ¬ (gA v 94 (12 * dd + j) = nI a ∧ gA v 95 (12 * dd + j) = nI b)) → RI E d 162 3 [(0, .ref 80), (1, .int (nI dd)), (2, .int (nI a)), (3, .int (nI b)), (4, .int (nI i))] v Q := by
    intro i hi
    refine lp_up (P := fun i => (∀ j, j < i → ¬ (gA v 94 (12 * dd + j) = nI a ∧ gA v 95 (12 * dd + j) = nI b)) → RI E d 162 3 [(0, .ref 80), (1, .int (nI dd)), (2, .int (nI a)), (3, .int (nI b)), (4, .int (nI i))] v Q) (fun hj => w_X12_isHabit_3 ?_) (fun i hi ih hj => w_X12_isHabit_3 ?_) hi
    · simp (disch := omega) only [nI_add, pk_mul, nI_clamp, nI_leI, nI_ltI, nI_eq, vp_t, true_and, hc]
      refine ⟨fun _ => k2 ?_, fun h => absurd (Nat.le_refl n) h⟩
      rintro ⟨k, hk, e⟩
      rw [hcl] at hk
      exact hj k hk e
    · have nx : (¬ (gA v 94 (12 * dd + i) = nI a ∧ gA v 95 (12 * dd + i) = nI b)) → RI E d 162 3 [(0, .ref 80), (1, .int (nI dd)), (2, .int (nI a)), (3, .int (nI b)), (4, .int (nI (i + 1)))] v Q := by
        intro h
        refine ih (fun j hj' => ?_)
        by_cases e : j = i
        · subst e
          exact h
        · exact hj j (by omega)
      simp (disch := omega) only [nI_add, pk_mul, nI_clamp, nI_leI, nI_ltI, nI_eq, vp_t, true_and, hc]
      refine ⟨fun h => by omega, fun _ => ⟨fun h => nx (fun g => h g.1), fun h => ⟨fun h2 => nx (fun g => h2 g.2), fun h2 => k1 ⟨i, by rw [hcl]; omega, h, h2⟩⟩⟩⟩
  exact KI.of ok_162 (Nat.le_of_ble_eq_true rfl) (w_X12_isHabit_0 (step 0 (by omega) (fun j hj => by omega)))
theorem k_habitM {E : Nat × (Nat → Int32)} {d : Nat} {v : xV} {dd a b n : Nat} {Q : Int32 → xV → Prop} (hd : dd < 4) (ha : a < 26) (hb : b < 26) (hc : gA v 93 dd = nI n) (hn : n ≤ 12)
    (k1 : a = b ∨ hab (gA v 93) (gA v 94) (gA v 95) dd a b ∨ n = 12 → Q (-1) (v_I v 80 0 (nI 0))) (k2 : a ≠ b → ¬ hab (gA v 93) (gA v 94) (gA v 95) dd a b → n < 12 → Q (nI (n + 1)) (v_I (v_A (v_A (v_A (v_I v 80 0 (nI 0)) 94 (upd (gA v 94) (12 * dd + n) (nI a))) 95 (upd (gA v 95) (12 * dd + n) (nI b))) 93 (upd (gA v 93) dd (nI (n + 1)))) 80 6 (gI v 80 6 + nI 1))) : KI E (d + 1) 161 [.ref 80, .int (nI dd), .int (nI a), .int (nI b)] v Q := by
  refine KI.of ok_161 (Nat.le_of_ble_eq_true rfl) (w_X12_habit_0 (k_inN (by decide) (fun _ _ _ => ⟨fun h => absurd h nI_01, fun _ => k_inN (by decide) (fun _ _ _ => ⟨fun h => absurd h nI_01, fun _ => k_inN (by decide) (fun _ _ _ => ⟨fun h => absurd h nI_01, fun _ => ⟨fun h => k1 (Or.inl ?_), fun h0 => ?_⟩⟩) (fun h => absurd ⟨b, by omega, rfl⟩ h)⟩) (fun h => absurd ⟨a, by omega, rfl⟩ h)⟩) (fun h => absurd ⟨dd, by omega, rfl⟩ h)))
  · rw [nI_eq (by omega) (by omega)] at h
    exact h
  · rw [nI_eq (by omega) (by omega)] at h0
    have hc' : gA (v_I v 80 0 (nI 0)) 93 dd = nI n := hc
    simp (disch := omega) only [nI_add, pk_mul, nI_clamp, nI_leI, nI_ltI, nI_eq, vp_t, true_and, hc']
    refine ⟨fun h => k1 (Or.inr (Or.inr h)), fun h => k_isHabit (n := n) hd ha hb hc hn (fun h2 => ⟨fun h3 => absurd h3 nI_01, fun _ => k1 (Or.inr (Or.inl h2))⟩) (fun h2 => ⟨fun _ => ?_, fun h3 => absurd rfl h3⟩)⟩
    simp (disch := omega) only [nI_add, pk_mul, nI_clamp, nI_leI, nI_ltI, nI_eq, vp_t, true_and, hc', upd_s]
    exact k2 h0 h2 (by omega)
theorem k_habitMN {E : Nat × (Nat → Int32)} {d : Nat} {v : xV} {x y z : Int32} {Q : Int32 → xV → Prop} (hb : ¬ ((∃ n, n < 4 ∧ x = nI n) ∧ (∃ n, n < 26 ∧ y = nI n) ∧ ∃ n, n < 26 ∧ z = nI n)) (k : Q (-1) (v_I v 80 0 (nI 0))) : KI E (d + 1) 161 [.ref 80, .int x, .int y, .int z] v Q := by
  refine KI.of ok_161 (Nat.le_of_ble_eq_true rfl) (w_X12_habit_0 (k_inN (by decide) (fun a ha ea => ⟨fun h => absurd h nI_01, fun _ => k_inN (by decide) (fun b hb' eb => ⟨fun h => absurd h nI_01, fun _ => k_inN (by decide) (fun c hc ec => absurd ⟨⟨a, by omega, ea⟩, ⟨b, by omega, eb⟩, c, by omega, ec⟩ hb) (fun h => ⟨fun _ => k, fun h => absurd rfl h⟩)⟩) (fun h => ⟨fun _ => k, fun h => absurd rfl h⟩)⟩) (fun h => ⟨fun _ => k, fun h => absurd rfl h⟩)))
/-- a habit more -/
theorem IvH.up {m n n' l w : Nat → Int32} {dd a b k c : Nat} (h : IvH m n n' l w) (hd : dd < 4) (ha : a < 26) (hb : b < 26) (hm : m (26 * dd + a) = nI k) (hk : k < 2 ^ 26) (hc : n dd = nI c) (hc2 : c < 12) :
    IvH (upd m (26 * dd + a) (nI (k ||| 2 ^ b))) (upd n dd (nI (c + 1))) (upd n' dd (nI (c + 1))) (upd l (12 * dd + c) (nI a)) (upd w (12 * dd + c) (nI b)) := by
  obtain ⟨rfl, h1, h2, h3⟩ := h
  refine ⟨rfl, n_upd h1 dd (by omega), fun i => ?_, fun dd' a' b' hd' ha' hb' => ?_⟩
  · rw [upd_i]
    split
    · exact ⟨_, n_lt_or hk hb, rfl⟩
    · exact h2 i
  · have old := h3 dd' a' b' hd' ha' hb'
    by_cases e : dd' = dd
    · subst e
      have hn' : hab (upd n dd' (nI (c + 1))) (upd l (12 * dd' + c) (nI a)) (upd w (12 * dd' + c) (nI b)) dd' a' b' ↔ hab n l w dd' a' b' ∨ (a' = a ∧ b' = b) := by
        unfold hab
        rw [upd_s, hc, nI_clamp (by omega), nI_clamp (by omega)]
        constructor
        · rintro ⟨j, hj, e1, e2⟩
          by_cases ej : j = c
          · subst ej
            rw [upd_s, nI_eq (by omega) (by omega)] at e1 e2
            exact Or.inr ⟨e1.symm, e2.symm⟩
          · rw [upd_n _ _ (by omega)] at e1 e2
            exact Or.inl ⟨j, by omega, e1, e2⟩
        · rintro (⟨j, hj, e1, e2⟩ | ⟨rfl, rfl⟩)
          · exact ⟨j, by omega, by rw [upd_n _ _ (by omega)]; exact e1, by rw [upd_n _ _ (by omega)]; exact e2⟩
          · exact ⟨c, by omega, upd_s _ _ _, upd_s _ _ _⟩
      rw [hn', ← old]
      by_cases ea : a' = a
      · subst ea
        have hlt : k ||| 2 ^ b < 2 ^ 26 := n_lt_or hk hb
        rw [upd_s, hm, nI_clamp (by omega), nI_clamp (by omega), n_or_b, Bool.or_eq_true, decide_eq_true_eq]
        constructor
        · rintro (h | h)
          · exact Or.inl h
          · exact Or.inr ⟨rfl, h.symm⟩
        · rintro (h | ⟨_, h⟩)
          · exact Or.inl h
          · exact Or.inr h.symm
      · rw [upd_n _ _ (by omega)]
        exact ⟨Or.inl, fun g => g.elim id (fun g => absurd g.1 ea)⟩
    · rw [upd_n _ _ (by omega), old]
      unfold hab
      rw [upd_n _ _ e]
      obtain ⟨q, hq, eq⟩ := h1 dd'
      rw [eq, nI_clamp (by omega)]
      constructor
      · rintro ⟨j, hj, e1, e2⟩
        exact ⟨j, hj, by rw [upd_n _ _ (by omega)]; exact e1, by rw [upd_n _ _ (by omega)]; exact e2⟩
      · rintro ⟨j, hj, e1, e2⟩
        rw [upd_n _ _ (by omega)] at e1 e2
        exact ⟨j, hj, e1, e2⟩

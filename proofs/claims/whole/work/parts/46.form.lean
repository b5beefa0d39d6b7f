theorem nI_inj {a b : Nat} (ha : a < 2 ^ 31) (hb : b < 2 ^ 31) : nI a = nI b ↔ a = b := ⟨fun h => by rw [← nI_clamp ha, ← nI_clamp hb, h], fun h => by rw [h]⟩
theorem nI_sub {a b : Nat} (h : b ≤ a) : nI a - nI b = nI (a - b) := by
  have : nI a = nI (a - b) + nI b := by rw [nI_add, Nat.sub_add_cancel h]
  rw [this, Int32.add_sub_cancel]
def zto (n : Nat) (f : Nat → Int32) : Nat → Int32 := fun i => if i < n then nI 0 else f i
theorem zto_0 (f : Nat → Int32) : zto 0 f = f := by funext i; simp [zto]
theorem zto_s (f : Nat → Int32) (n : Nat) : upd (zto n f) n (nI 0) = zto (n + 1) f := by
  funext i
  rw [upd_i]
  unfold zto
  by_cases h : i = n
  · simp [h]
  · have : i < n + 1 ↔ i < n := by omega
    simp [h, this]
theorem k_forget {E : Nat × (Nat → Int32)} {d : Nat} {v : xV} {Q : xV → Prop} (k : Q (v_A v 39 (zto 20 (gA v 39)))) : KV E d 72 [.ref 38] v Q := by
  have step : ∀ (m i : Nat), i + m = 20 → RV E d 72 2 [(0, .ref 38), (1, .int (nI i))] (v_A v 39 (zto i (gA v 39))) Q := by
    intro m
    induction m with
    | zero =>
      intro i hi
      obtain rfl : i = 20 := by omega
      exact w_X7_forget_2 ⟨fun _ => k, fun hc => absurd (by decide) hc⟩
    | succ m ih =>
      intro i hi
      refine w_X7_forget_2 ⟨fun hc => ?_, fun _ => ⟨vp_in_nI (by omega) (by decide), ?_⟩⟩
      · rw [nI_leI (by decide) (by omega)] at hc
        omega
      · rw [nI_add, nI_clamp (by omega)]
        have e : upd (gA (v_A v 39 (zto i (gA v 39))) 39) i (nI 0) = zto (i + 1) (gA v 39) := zto_s _ _
        rw [e, vA_s]
        exact ih (i + 1) (by omega)
  refine KV.of ok_72 (Nat.le_of_ble_eq_true rfl) (w_X7_forget_0 ?_)
  have := step 20 0 rfl
  rw [zto_0, vAself] at this
  exact this
/-- a letter's forms hold x -/
def frm (f : Nat → Int32) (l n : Nat) (x : Int32) : Prop := ∃ k, k < n ∧ f (3 * l + k) = x
theorem k_addForm {E : Nat × (Nat → Int32)} {d : Nat} {v : xV} {x : Int32} {l n : Nat} {Q : Int32 → xV → Prop} (hl : l < 26) (h1 : nI 1 ≤ x) (h2 : x ≤ nI 255) (hc : gA v 5 l = nI n) (hn : n ≤ 3)
    (k1 : n = 3 ∨ frm (gA v 4) l n x → Q (-1) v) (k2 : n < 3 → ¬ frm (gA v 4) l n x → Q (nI n) (v_A (v_A v 4 (upd (gA v 4) (3 * l + n) x)) 5 (upd (gA v 5) l (nI (n + 1))))) : KI E (d + 1) 25 [.ref 3, .int (nI l), .int x] v Q := by
  have step : n < 3 → ∀ (m i : Nat), i + m = n → ¬ frm (gA v 4) l i x → RI E (d + 1) 25 41 [(0, .ref 3), (1, .int (nI l)), (2, .int x), (3, .int (nI n)), (4, .int (nI i))] v Q := by
    intro h3 m
    induction m with
    | zero =>
      intro i hi hf
      obtain rfl : i = n := by omega
      refine w_X3_addForm_41 ⟨fun _ => ?_, fun hx => absurd (by rw [nI_leI (by omega) (by omega)]; omega) hx⟩
      rw [pk_mul, nI_add, nI_add, nI_clamp (by omega), nI_clamp (by omega), Nat.mul_comm l 3]
      exact ⟨vp_in_nI (by omega) (by decide), vp_in_nI (by omega) (by decide), k2 h3 hf⟩
    | succ m ih =>
      intro i hi hf
      refine w_X3_addForm_41 ⟨fun hx => ?_, fun _ => ?_⟩
      · rw [nI_leI (by omega) (by omega)] at hx
        omega
      · rw [pk_mul, nI_add, nI_add, nI_clamp (by omega), Nat.mul_comm l 3]
        refine ⟨vp_in_nI (by omega) (by decide), fun hx => ih (i + 1) (by omega) ?_, fun hx => k1 (Or.inr ⟨i, by omega, hx⟩)⟩
        rintro ⟨k, hk, e⟩
        rcases Nat.lt_succ_iff_lt_or_eq.mp hk with h | h
        · exact hf ⟨k, h, e⟩
        · subst h
          exact hx e
  refine KI.of ok_25 (Nat.le_of_ble_eq_true rfl) (w_X3_addForm_0 (k_isLetter ⟨fun hx => ?_, fun _ => ⟨fun hx => absurd h1 (i_nle.mpr hx), fun _ => ⟨fun hx => absurd h2 (i_nle.mpr hx), fun _ => ⟨vp_in_nI hl (by decide), ?_⟩⟩⟩⟩))
  · rw [bB_0, decide_eq_true (nz_le (by omega)), decide_eq_true ((nI_ltI (by omega) (by decide)).mpr hl)] at hx
    cases hx
  · rw [nI_clamp (by omega), hc]
    refine ⟨fun hx => ⟨vp_in_nI hl (by decide), fun y e => ?_⟩, fun hx => k1 (Or.inl ?_)⟩
    · subst e
      rw [nI_ltI (by omega) (by decide)] at hx
      exact step hx n 0 (by omega) (fun ⟨k, hk, _⟩ => by omega)
    · rw [nI_ltI (by omega) (by decide)] at hx
      omega
theorem k_addFormN {E : Nat × (Nat → Int32)} {d : Nat} {v : xV} {x y : Int32} {Q : Int32 → xV → Prop} (hb : ¬ ((nI 0 ≤ y ∧ y < nI 26) ∧ (nI 1 ≤ x ∧ x ≤ nI 255))) (k : Q (-1) v) : KI E (d + 1) 25 [.ref 3, .int y, .int x] v Q := by
  refine KI.of ok_25 (Nat.le_of_ble_eq_true rfl) (w_X3_addForm_0 (k_isLetter ⟨fun _ => k, fun hz => ⟨fun _ => k, fun hx => ⟨fun _ => k, fun hy => absurd ?_ hb⟩⟩⟩))
  rw [bB_0, Bool.not_eq_false, Bool.and_eq_true, decide_eq_true_eq, decide_eq_true_eq] at hz
  exact ⟨hz, i_nlt.mp hx, i_nlt.mp hy⟩
theorem k_formX {E : Nat × (Nat → Int32)} {d : Nat} {v : xV} {x : Int32} {l n : Nat} {Q : Int32 → xV → Prop} (hl : l < 26) (h1 : nI 1 ≤ x) (h2 : x ≤ nI 255) (hc : gA v 5 l = nI n) (hn : n ≤ 3)
    (k1 : n = 3 ∨ frm (gA v 4) l n x → Q (-1) v) (k2 : n < 3 → ¬ frm (gA v 4) l n x → Q (nI n) (v_A (v_A (v_A v 4 (upd (gA v 4) (3 * l + n) x)) 5 (upd (gA v 5) l (nI (n + 1)))) 39 (zto 20 (gA v 39)))) : KI E (d + 2) 116 [.ref 0, .int (nI l), .int x] v Q := by
  refine KI.of ok_116 (Nat.le_of_ble_eq_true rfl) (w_X11_form_0 (k_addForm hl h1 h2 hc hn (fun h => ⟨fun _ => k1 h, fun hx => absurd rfl hx⟩) (fun h h' => ⟨fun hx => absurd hx (m1_ne (by omega)), fun _ => k_forget (k2 h h')⟩)))
theorem k_formXN {E : Nat × (Nat → Int32)} {d : Nat} {v : xV} {x y : Int32} {Q : Int32 → xV → Prop} (hb : ¬ ((nI 0 ≤ y ∧ y < nI 26) ∧ (nI 1 ≤ x ∧ x ≤ nI 255))) (k : Q (-1) v) : KI E (d + 2) 116 [.ref 0, .int y, .int x] v Q :=
  KI.of ok_116 (Nat.le_of_ble_eq_true rfl) (w_X11_form_0 (k_addFormN hb ⟨fun _ => k, fun hx => absurd rfl hx⟩))
theorem k_formM {E : Nat × (Nat → Int32)} {d : Nat} {v : xV} {x : Int32} {l n : Nat} {Q : Int32 → xV → Prop} (hl : l < 26) (h1 : nI 1 ≤ x) (h2 : x ≤ nI 255) (hc : gA v 83 l = nI n) (hn : n ≤ 3)
    (k1 : n = 3 ∨ frm (gA v 84) l n x → Q (-1) (v_I v 80 0 (nI 0))) (k2 : n < 3 → ¬ frm (gA v 84) l n x → Q (nI n) (v_I (v_A (v_A (v_I v 80 0 (nI 0)) 84 (upd (gA v 84) (3 * l + n) x)) 83 (upd (gA v 83) l (nI (n + 1)))) 80 6 (gI v 80 6 + nI 1))) : KI E (d + 1) 155 [.ref 80, .int (nI l), .int x] v Q := by
  have step : n < 3 → ∀ (m i : Nat), i + m = n → ¬ frm (gA v 84) l i x → RI E (d + 1) 155 40 [(0, .ref 80), (1, .int (nI l)), (2, .int x), (3, .int (nI i))] (v_I v 80 0 (nI 0)) Q := by
    intro h3 m
    induction m with
    | zero =>
      intro i hi hf
      obtain rfl : i = n := by omega
      refine w_X12_form_40 ?_
      rw [nI_clamp (by omega : l < 2 ^ 31), show gA (v_I v 80 0 (nI 0)) 83 l = nI i from hc]
      refine ⟨vp_in_nI hl (by decide), fun _ => ?_, fun hx => absurd (by rw [nI_leI (by omega) (by omega)]; omega) hx⟩
      rw [pk_mul, nI_add, nI_add, nI_clamp (by omega), upd_s, nI_sub (by omega), Nat.add_sub_cancel]
      exact ⟨vp_in_nI hl (by decide), vp_in_nI (by omega) (by decide), vp_in_nI hl (by decide), vp_in_nI hl (by decide), vp_in_nI hl (by decide), k2 h3 hf⟩
    | succ m ih =>
      intro i hi hf
      refine w_X12_form_40 ?_
      rw [nI_clamp (by omega : l < 2 ^ 31), show gA (v_I v 80 0 (nI 0)) 83 l = nI n from hc]
      refine ⟨vp_in_nI hl (by decide), fun hx => ?_, fun _ => ?_⟩
      · rw [nI_leI (by omega) (by omega)] at hx
        omega
      · rw [pk_mul, nI_add, nI_add, nI_clamp (by omega)]
        refine ⟨vp_in_nI (by omega) (by decide), fun hx => ih (i + 1) (by omega) ?_, fun hx => k1 (Or.inr ⟨i, by omega, hx⟩)⟩
        rintro ⟨k, hk, e⟩
        rcases Nat.lt_succ_iff_lt_or_eq.mp hk with h | h
        · exact hf ⟨k, h, e⟩
        · subst h
          exact hx e
  refine KI.of ok_155 (Nat.le_of_ble_eq_true rfl) (w_X12_form_0 (k_isIn ⟨fun hx => ?_, fun _ => k_isIn ⟨fun hx => ?_, fun _ => ⟨vp_in_nI hl (by decide), ?_⟩⟩⟩))
  · rw [bB_0, decide_eq_true (nz_le (by omega)), decide_eq_true ((nI_leI (by omega) (by decide)).mpr (by omega))] at hx
    cases hx
  · rw [bB_0, decide_eq_true h1, decide_eq_true h2] at hx
    cases hx
  · rw [nI_clamp (by omega), show gA (v_I v 80 0 (nI 0)) 83 l = nI n from hc, nI_inj (by omega) (by decide)]
    exact ⟨fun hx => step (by omega) n 0 (by omega) (fun ⟨k, hk, _⟩ => by omega), fun hx => k1 (Or.inl hx)⟩
theorem k_formMN {E : Nat × (Nat → Int32)} {d : Nat} {v : xV} {x y : Int32} {Q : Int32 → xV → Prop} (hb : ¬ ((nI 0 ≤ y ∧ y < nI 26) ∧ (nI 1 ≤ x ∧ x ≤ nI 255))) (k : Q (-1) (v_I v 80 0 (nI 0))) : KI E (d + 1) 155 [.ref 80, .int y, .int x] v Q := by
  refine KI.of ok_155 (Nat.le_of_ble_eq_true rfl) (w_X12_form_0 (k_isIn ⟨fun _ => k, fun hz => k_isIn ⟨fun _ => k, fun hw => absurd ?_ hb⟩⟩))
  rw [bB_0, Bool.not_eq_false, Bool.and_eq_true, decide_eq_true_eq, decide_eq_true_eq] at hz hw
  refine ⟨⟨hz.1, ?_⟩, hw⟩
  obtain ⟨n, hn, rfl⟩ := nI_of (i_nlt.mpr hz.1)
  have := hz.2
  rw [nI_leI hn (by decide)] at this
  rw [nI_ltI hn (by decide)]
  omega

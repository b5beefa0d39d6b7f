/-! years, the class: the least years -/
def sm (L : Nat → Nat) : Nat → Nat
  | 0 => 0
  | n + 1 => sm L n + L n
theorem sm_le {L L' : Nat → Nat} {n : Nat} (h : ∀ k, k < n → L k ≤ L' k) : sm L n ≤ sm L' n := by
  induction n with
  | zero => exact Nat.le_refl _
  | succ n ih =>
    have := ih (fun k hk => h k (by omega))
    have := h n (by omega)
    show sm L n + L n ≤ sm L' n + L' n
    omega
theorem sm_lt {L L' : Nat → Nat} {n : Nat} (h : ∀ k, k < n → L k ≤ L' k) (h2 : ∃ k, k < n ∧ L k < L' k) : sm L n < sm L' n := by
  induction n with
  | zero =>
    obtain ⟨k, hk, _⟩ := h2
    omega
  | succ n ih =>
    obtain ⟨k, hk, hlt⟩ := h2
    have h3 := h n (by omega)
    show sm L n + L n < sm L' n + L' n
    by_cases e : k = n
    · subst e
      have := sm_le (n := k) (fun j hj => h j (by omega))
      omega
    · have := ih (fun j hj => h j (by omega)) ⟨k, by omega, hlt⟩
      omega
theorem sm_b {L : Nat → Nat} {n M : Nat} (h : ∀ k, k < n → L k ≤ M) : sm L n ≤ M * n := by
  induction n with
  | zero => exact Nat.le_refl _
  | succ n ih =>
    have := ih (fun k hk => h k (by omega))
    have := h n (by omega)
    show sm L n + L n ≤ M * (n + 1)
    rw [Nat.mul_succ]
    omega
/-- the least of all that agree -/
def LeastY (v : xV) (K h : Nat) (L : Nat → Nat) : Prop := SolY v K h L ∧ ∀ y, SolY v K h y → ∀ k, k < 52 → L k ≤ y k
theorem Con.lt {v : xV} {K h u w : Nat} (hX : YearX v K h) (hc : Con v K h u w) : u < 52 ∧ w < 52 := by
  obtain ⟨⟨x1, x1'⟩, x2, ⟨x3, x3'⟩, ⟨x4, x4'⟩, x5, x6⟩ := hX
  rcases hc with ⟨a, l, n, q1, q2, q3, q4, q5, q6⟩ | ⟨s, a, l, q1, q2, q3, q4, q5, q6⟩ | ⟨s, a, l, n, q1, q2, q3, q4, q5, q6, q7⟩ | ⟨f, a, b, q1, q2, q3, q4, q5, q6, q7⟩
  · omega
  · omega
  · omega
  · omega
theorem k_settleLeast {E : Nat × (Nat → Int32)} {d : Nat} {v : xV} {K h : Nat} {Q : Int32 → xV → Prop} (hX : YearX v K h) (k1 : ∀ L f, (∀ k, k < 52 → f k = nI (L k)) → LeastY v K h L → Q (nI 1) (v_A v 72 f)) (k2 : ∀ f, (¬ ∃ y, SolY v K h y) → Q (nI 0) (v_A v 72 f)) : KI E (d + 4) 104 [.ref 67] v Q := by
  have v1 : vp_in (nI 1) 2 := vp_in_nI (by decide) (by decide)
  have v0 : vp_in (nI 0) 2 := vp_in_nI (by decide) (by decide)
  -- the last word
  have fin : ∀ L f, (∀ k, k < 52 → f k = nI (L k)) → LB v K h L → ((∃ k, k < 52 ∧ L k = 200) ∨ ∀ u w, Con v K h u w → L u ≤ L w) → RI E (d + 4) 104 67 [(0, .ref 67)] (v_A v 72 f) Q := by
    intro L f h1 h2 h3
    refine w_X10_settleLeast_67 (k_allYears (v := v_A v 72 f) (L := L) (fun k hk => ⟨h1 k hk, (h2.1 k hk).1⟩) (fun hall => ⟨v1, ?_⟩) (fun ⟨k, hk, e⟩ => ⟨v0, k2 f (fun ⟨y, hy⟩ => ?_)⟩))
    · rcases h3 with ⟨k, hk, e⟩ | h3
      · have := hall k hk
        omega
      · exact k1 L f h1 ⟨⟨fun k hk => ⟨hall k hk, (h2.1 k hk).2 (hall k hk)⟩, h3⟩, h2.2⟩
    · have := h2.2 y hy k hk
      have := (hy.1 k hk).1
      omega
  have stop : ∀ j L f, j ≤ 10453 → (∀ k, k < 52 → f k = nI (L k)) → LB v K h L → ((∃ k, k < 52 ∧ L k = 200) ∨ ∀ u w, Con v K h u w → L u ≤ L w) → RI E (d + 4) 104 30 [(0, .ref 67), (1, .int (nI 0)), (2, .int (nI j))] (v_A v 72 f) Q := fun j L f _ h1 h2 h3 => w_X10_settleLeast_30 ⟨fun _ => fin L f h1 h2 h3, fun _ => ⟨fun _ => fin L f h1 h2 h3, fun z => absurd rfl z⟩⟩
  have sweep : ∀ fuel j L f, 10400 - sm L 52 ≤ fuel → j ≤ sm L 52 → (∀ k, k < 52 → f k = nI (L k)) → LB v K h L → RI E (d + 4) 104 30 [(0, .ref 67), (1, .int (nI 1)), (2, .int (nI j))] (v_A v 72 f) Q := by
    intro fuel
    induction fuel with
    | zero =>
      intro j L f hf hj h1 h2
      have hb := sm_b (n := 52) (fun k hk => (h2.1 k hk).1)
      refine w_X10_settleLeast_30 ⟨fun z => ?_, fun _ => ⟨fun z => absurd z nI_01, fun _ => k_allYears (v := v_A v 72 f) (L := L) (fun k hk => ⟨h1 k hk, (h2.1 k hk).1⟩) (fun hall => ?_) (fun hex => ⟨fun _ => ?_, fun z => absurd rfl z⟩)⟩⟩
      · exfalso
        rw [nI_leI (by decide) (by omega)] at z
        omega
      · exfalso
        have h199 := sm_b (L := L) (n := 52) (M := 199) (fun k hk => by have := hall k hk; omega)
        omega
      · rw [nI_add]
        exact stop (j + 1) L f (by omega) h1 h2 (Or.inl hex)
    | succ fuel ih =>
      intro j L f hf hj h1 h2
      have hb := sm_b (n := 52) (fun k hk => (h2.1 k hk).1)
      refine w_X10_settleLeast_30 ⟨fun z => ?_, fun _ => ⟨fun z => absurd z nI_01, fun _ => k_allYears (v := v_A v 72 f) (L := L) (fun k hk => ⟨h1 k hk, (h2.1 k hk).1⟩) (fun hall => ⟨fun z => absurd z nI_01, fun _ => k_sweepUp hX h1 h2 (fun m L' f' H => ?_)⟩) (fun hex => ⟨fun _ => ?_, fun z => absurd rfl z⟩)⟩⟩
      · exfalso
        rw [nI_leI (by decide) (by omega)] at z
        omega
      · obtain ⟨g1, g2, g3, g4, g5⟩ := H
        rw [nI_add]
        refine bbc (fun e => ?_) (fun e => ?_)
        · obtain ⟨e1, e2⟩ := g4 e
          refine stop (j + 1) L' f' (by omega) g1 g2 (Or.inr (fun u w hc => ?_))
          obtain ⟨c1, c2⟩ := hc.lt hX
          rw [e1 u c1, e1 w c2]
          exact e2 u w hc
        · have := sm_lt g3 (g5 e)
          exact ih (j + 1) L' f' (by omega) (by omega) g1 g2
      · rw [nI_add]
        exact stop (j + 1) L f (by omega) h1 h2 (Or.inl hex)
  refine KI.of ok_104 (Nat.le_of_ble_eq_true rfl) (w_X10_settleLeast_0 ?_)
  have init : ∀ i, i ≤ 52 → ∀ (L : Nat → Nat) (f : Nat → Int32), (∀ k, k < i → f k = nI (L k) ∧ L k ≤ 200 ∧ (L k < 200 → mY v k (L k) = true) ∧ ∀ z, z < L k → mY v k z = false) → RI E (d + 4) 104 2 [(0, .ref 67), (1, .int (nI i))] (v_A v 72 f) Q := by
    intro i hi
    refine lp_up (n := 52) (P := fun i => ∀ (L : Nat → Nat) (f : Nat → Int32), (∀ k, k < i → f k = nI (L k) ∧ L k ≤ 200 ∧ (L k < 200 → mY v k (L k) = true) ∧ ∀ z, z < L k → mY v k z = false) → RI E (d + 4) 104 2 [(0, .ref 67), (1, .int (nI i))] (v_A v 72 f) Q) (fun L f H => w_X10_settleLeast_2 ⟨fun _ => ?_, fun z => absurd (by decide) z⟩) (fun i hi ih L f H => w_X10_settleLeast_2 ⟨fun z => ?_, fun _ => k_firstYear (v := v_A v 72 f) hi (by decide) (fun r r1 r2 r3 r4 => ?_)⟩) hi
    · refine sweep 10400 0 L f (by omega) (Nat.zero_le _) (fun k hk => (H k hk).1) ⟨fun k hk => ⟨(H k hk).2.1, (H k hk).2.2.1⟩, fun y hy k hk => ?_⟩
      rcases Nat.lt_or_ge (y k) (L k) with z | z
      · have e1 := (H k hk).2.2.2 (y k) z
        rw [(hy.1 k hk).2] at e1
        cases e1
      · exact z
    · exfalso
      rw [nI_leI (by decide) (by omega)] at z
      omega
    · rw [nI_clamp (by omega), vA_s, nI_add]
      refine ⟨vp_in_nI hi (by decide), ih (fun k => if k = i then r else L k) (upd f i (nI r)) (fun k hk => ?_)⟩
      show upd f i (nI r) k = nI (if k = i then r else L k) ∧ (if k = i then r else L k) ≤ 200 ∧ ((if k = i then r else L k) < 200 → mY v k (if k = i then r else L k) = true) ∧ ∀ z, z < (if k = i then r else L k) → mY v k z = false
      rw [upd_i]
      by_cases e : k = i
      · rw [if_pos e, if_pos e, e]
        exact ⟨rfl, r2, r3, fun z hz => r4 z (Nat.zero_le _) hz⟩
      · rw [if_neg e, if_neg e]
        exact H k (by omega)
  have := init 0 (Nat.zero_le _) (fun _ => 0) (gA v 72) (fun k hk => by omega)
  rw [vAself] at this
  exact this

/-! years, the class: the greatest years -/
def yW2 (v : xV) (a0 l0 u w : Nat) : Prop := ∃ a l n, (a < a0 ∨ (a = a0 ∧ l0 ≤ l)) ∧ a < nA v ∧ gA v 14 a = nI n ∧ (1 ≤ l ∧ l < n ∧ n ≤ 4) ∧ u = 20 + 4 * a + (l - 1) ∧ w = 20 + 4 * a + l
def yU2 (v : xV) (s0 K u w : Nat) : Prop := ∃ s a l, (s0 ≤ s ∧ s < K) ∧ gA v 26 s = nI a ∧ gA v 27 s = nI l ∧ (a < 8 ∧ l < 4) ∧ u = 20 + 4 * a + l ∧ w = s
def yV2 (v : xV) (s0 K u w : Nat) : Prop := ∃ s a l n, (s0 ≤ s ∧ s < K) ∧ gA v 26 s = nI a ∧ gA v 27 s = nI l ∧ (a < 8 ∧ l + 1 < n ∧ n ≤ 4) ∧ (a < nA v ∧ gA v 14 a = nI n) ∧ u = s ∧ w = 20 + 4 * a + l + 1
def yF2 (v : xV) (f0 h u w : Nat) : Prop := ∃ f a b, (f0 ≤ f ∧ f < h) ∧ gA v 61 f = nI 2 ∧ gA v 62 f = nI a ∧ gA v 63 f = nI b ∧ (a < 20 ∧ b < 20) ∧ u = a ∧ w = b
def UB (v : xV) (K h : Nat) (G : Nat → Nat) : Prop := (∀ k, k < 52 → G k < 200 ∧ mY v k (G k) = true) ∧ ∀ y, SolY v K h y → ∀ k, k < 52 → y k ≤ G k
def SwD (v : xV) (K h : Nat) (G : Nat → Nat) (dn : Nat → Nat → Prop) (m : Bool) (G' : Nat → Nat) (f : Nat → Int32) : Prop := (∀ k, k < 52 → f k = nI (G' k)) ∧ UB v K h G' ∧ (∀ k, k < 52 → G' k ≤ G k) ∧ (m = false → (∀ k, k < 52 → G' k = G k) ∧ ∀ u w, dn u w → G u ≤ G w) ∧ (m = true → ∃ k, k < 52 ∧ G' k < G k)
theorem SwD.imp {v : xV} {K h : Nat} {L L' : Nat → Nat} {dn dn' : Nat → Nat → Prop} {m : Bool} {f : Nat → Int32} (H : SwD v K h L dn m L' f) (hd : ∀ u w, dn' u w → dn u w) : SwD v K h L dn' m L' f := ⟨H.1, H.2.1, H.2.2.1, fun e => ⟨(H.2.2.2.1 e).1, fun u w z => (H.2.2.2.1 e).2 u w (hd u w z)⟩, H.2.2.2.2⟩
theorem k_lowerS {E : Nat × (Nat → Int32)} {d : Nat} {v : xV} {K h a b : Nat} {G G' : Nat → Nat} {dn : Nat → Nat → Prop} {m : Bool} {f : Nat → Int32} {y0 : Nat → Nat} {Q : Int32 → xV → Prop} (hy0 : SolY v K h y0) (ha : a < 52) (hb : b < 52) (hc : Con v K h a b) (H : SwD v K h G dn m G' f) (kk : ∀ r G'' f'', SwD v K h G (fun u w => dn u w ∨ (u = a ∧ w = b)) (m || r) G'' f'' → Q (bB r) (v_A v 73 f'')) : KI E (d + 2) 111 [.ref 67, .int (nI a), .int (nI b)] (v_A v 73 f) Q := by
  obtain ⟨h1, ⟨h2, h3⟩, h4, h5, h6⟩ := H
  have a1 : gA (v_A v 73 f) 73 a = nI (G' a) := h1 a ha
  have b1 : gA (v_A v 73 f) 73 b = nI (G' b) := h1 b hb
  have a2 := (h2 a ha).1
  have b2 := (h2 b hb).1
  refine KI.of ok_111 (Nat.le_of_ble_eq_true rfl) (w_X10_lower_0 ?_)
  simp (disch := omega) only [nI_clamp, vp_t, true_and, a1, b1, nI_ltI]
  refine ⟨fun hlt => ?_, fun hle => kk false G' f ⟨h1, ⟨h2, h3⟩, h4, fun e => ?_, fun e => ?_⟩⟩
  · have eb : nI (G' b) = nI (G' b + 1) - nI 1 := by rw [nI_sub (by omega), Nat.add_sub_cancel]
    rw [eb]
    refine k_lastYear (v := v_A v 73 f) ha (by omega) (fun r r1 r2 r3 => ?_)
    have hr : 1 ≤ r := by
      have y1 := hy0.2 a b hc
      have y2 := h3 y0 hy0 b hb
      have y3 := (hy0.1 a ha).2
      rcases Nat.lt_or_ge (y0 a) r with z | z
      · omega
      · exfalso
        have := r3 (y0 a) z (by omega)
        have : mY v a (y0 a) = false := this
        rw [y3] at this
        cases this
    rw [nI_sub hr, vA_s]
    have hga := h4 a ha
    refine kk true (fun k => if k = a then r - 1 else G' k) (upd f a (nI (r - 1))) ⟨fun k hk => ?_, ⟨fun k hk => ?_, fun y hy k hk => ?_⟩, fun k hk => ?_, fun e => ?_, fun _ => ⟨a, ha, ?_⟩⟩
    · show upd f a (nI (r - 1)) k = nI (if k = a then r - 1 else G' k)
      rw [upd_i]
      split
      · rfl
      · exact h1 k hk
    · show (if k = a then r - 1 else G' k) < 200 ∧ mY v k (if k = a then r - 1 else G' k) = true
      split
      · rename_i e
        rw [e]
        exact ⟨by omega, r2 (by omega)⟩
      · exact h2 k hk
    · show y k ≤ (if k = a then r - 1 else G' k)
      split
      · rename_i e
        rw [e]
        have y1 := hy.2 a b hc
        have y2 := h3 y hy b hb
        have y3 := (hy.1 a ha).2
        rcases Nat.lt_or_ge (y a) r with z | z
        · omega
        · exfalso
          have := r3 (y a) z (by omega)
          have : mY v a (y a) = false := this
          rw [y3] at this
          cases this
      · exact h3 y hy k hk
    · show (if k = a then r - 1 else G' k) ≤ G k
      split
      · rename_i e
        rw [e]
        omega
      · exact h4 k hk
    · rw [Bool.or_true] at e
      cases e
    · show (if a = a then r - 1 else G' a) < G a
      rw [if_pos rfl]
      omega
  · rw [Bool.or_false] at e
    obtain ⟨e1, e2⟩ := h5 e
    refine ⟨e1, fun u w z => ?_⟩
    rcases z with z | ⟨rfl, rfl⟩
    · exact e2 u w z
    · rw [← e1 u ha, ← e1 w hb]
      omega
  · rw [Bool.or_false] at e
    exact h6 e
theorem k_sweepDown {E : Nat × (Nat → Int32)} {d : Nat} {v : xV} {K h : Nat} {G y0 : Nat → Nat} {f0 : Nat → Int32} {Q : Int32 → xV → Prop} (hX : YearX v K h) (hy0 : SolY v K h y0) (h0 : ∀ k, k < 52 → f0 k = nI (G k)) (hUB : UB v K h G) (kk : ∀ m G' f, SwD v K h G (Con v K h) m G' f → Q (bB m) (v_A v 73 f)) : KI E (d + 3) 108 [.ref 67] (v_A v 73 f0) Q := by
  obtain ⟨⟨x1, x1'⟩, x2, ⟨x3, x3'⟩, ⟨x4, x4'⟩, x5, x6⟩ := id hX
  have walls : ∀ a, a ≤ nA v → ∀ m L' f, SwD v K h G (fun u w => (yF2 v 0 h u w ∨ yU2 v 0 K u w ∨ yV2 v 0 K u w) ∨ yW2 v a 4 u w) m L' f → RI E (d + 3) 108 157 [(0, .ref 67), (1, .int (bB m)), (2, .int (nI a))] (v_A v 73 f) Q := by
    intro a ha
    refine lp_up (n := nA v) (P := fun a => ∀ m L' f, SwD v K h G (fun u w => (yF2 v 0 h u w ∨ yU2 v 0 K u w ∨ yV2 v 0 K u w) ∨ yW2 v a 4 u w) m L' f → RI E (d + 3) 108 157 [(0, .ref 67), (1, .int (bB m)), (2, .int (nI a))] (v_A v 73 f) Q) (fun m L' f H => w_X10_sweepDown_157 ?_) (fun a ha ih m L' f H => w_X10_sweepDown_157 ?_) ha
    · rw [show gI (v_A v 73 f) 11 7 = nI (nA v) from x1]
      refine ⟨fun _ => ⟨bB_in, kk m L' f (H.imp (fun u w z => ?_))⟩, fun z => absurd (nI_le (Nat.le_refl _) (by omega)) z⟩
      rcases z with ⟨a, l, n, q1, q2, q3⟩ | ⟨s, a, l, q1, q2⟩ | ⟨s, a, l, n, q1, q2⟩ | ⟨g, a, b, q1, q2⟩
      · exact Or.inr ⟨a, l, n, Or.inl (by omega), q2, q3⟩
      · exact Or.inl (Or.inr (Or.inl ⟨s, a, l, ⟨Nat.zero_le _, q1⟩, q2⟩))
      · exact Or.inl (Or.inr (Or.inr ⟨s, a, l, n, ⟨Nat.zero_le _, q1⟩, q2⟩))
      · exact Or.inl (Or.inl ⟨g, a, b, ⟨Nat.zero_le _, q1⟩, q2⟩)
    · obtain ⟨n, hn, en⟩ := x2 a
      have e14 : gA (v_A v 73 f) 14 a = nI n := en
      rw [show gI (v_A v 73 f) 11 7 = nI (nA v) from x1]
      simp (disch := omega) only [nI_clamp, vp_t, true_and, e14, nI_leI, forall_eq]
      refine ⟨fun z => by omega, fun _ => ?_⟩
      have inner : ∀ l, l ≤ n → ∀ m L' f, SwD v K h G (fun u w => (yF2 v 0 h u w ∨ yU2 v 0 K u w ∨ yV2 v 0 K u w) ∨ yW2 v a l u w) m L' f → RI E (d + 3) 108 180 [(0, .ref 67), (1, .int (bB m)), (2, .int (nI a)), (3, .int (nI l - nI 1))] (v_A v 73 f) Q := by
        intro l
        induction l with
        | zero =>
          intro _ m L' f H
          refine w_X10_sweepDown_180 ⟨fun _ => ?_, fun z => absurd (by decide) z⟩
          rw [nI_add]
          refine ih m L' f (H.imp (fun u w z => ?_))
          rcases z with z | ⟨a', l', n', q1, q2⟩
          · exact Or.inl z
          · exact Or.inr ⟨a', l', n', by omega, q2⟩
        | succ l ihl =>
          intro hl m L' f H
          have el : nI (l + 1) - nI 1 = nI l := by rw [nI_sub (by omega), Nat.add_sub_cancel]
          rw [el]
          refine w_X10_sweepDown_180 ?_
          rw [nI_ltI (by omega) (by decide)]
          refine ⟨fun hz => ?_, fun hz => ?_⟩
          · rw [nI_add]
            refine ih m L' f (H.imp (fun u w z => ?_))
            rcases z with z | ⟨a', l', n', q1, q2, q3, q4, q5⟩
            · exact Or.inl z
            · exact Or.inr ⟨a', l', n', by omega, q2, q3, q4, q5⟩
          · rw [nI_sub (by omega)]
            refine k_dated (k_dated ?_)
            have hc : Con v K h (20 + 4 * a + (l - 1)) (20 + 4 * a + l) := Or.inl ⟨a, l, n, Or.inl ha, ha, en, ⟨by omega, by omega, hn⟩, rfl, rfl⟩
            rw [i_m1]
            refine k_lowerS hy0 (by omega) (by omega) hc H (fun r L1 f1 H1 => y_flag (A := fun x => RI E (d + 3) 108 180 [(0, .ref 67), (1, .int x), (2, .int (nI a)), (3, .int (nI l - nI 1))] (v_A v 73 f1) Q) (ihl (by omega) _ _ _ (H1.imp (fun u w z => ?_))))
            rcases z with z | ⟨a', l', n', q1, q2, q3, q4, q5, q6⟩
            · exact Or.inl (Or.inl z)
            · by_cases e : a' = a ∧ l' = l
              · obtain ⟨rfl, rfl⟩ := e
                exact Or.inr ⟨q5, q6⟩
              · exact Or.inl (Or.inr ⟨a', l', n', by omega, q2, q3, q4, q5, q6⟩)
      refine inner n (Nat.le_refl _) m L' f (H.imp (fun u w z => ?_))
      rcases z with z | ⟨a', l', n', q1, q2, q3, q4, q5⟩
      · exact Or.inl z
      · refine Or.inr ⟨a', l', n', ?_, q2, q3, q4, q5⟩
        by_cases e : a' = a
        · subst e
          rw [en, nI_eq (by omega) (by omega)] at q3
          omega
        · omega
  have scr : ∀ s, s ≤ K → ∀ m L' f, SwD v K h G (fun u w => yF2 v 0 h u w ∨ yU2 v s K u w ∨ yV2 v s K u w) m L' f → RI E (d + 3) 108 74 [(0, .ref 67), (1, .int (bB m)), (2, .int (nI s - nI 1))] (v_A v 73 f) Q := by
    intro s
    induction s with
    | zero =>
      intro _ m L' f H
      refine w_X10_sweepDown_74 ⟨fun _ => walls 0 (Nat.zero_le _) m L' f (H.imp (fun u w z => ?_)), fun z => absurd (by decide) z⟩
      rcases z with z | ⟨a', l', n', q1, q2, q3, q4, _⟩
      · exact z
      · omega
    | succ s ih =>
      intro hs m L' f H
      obtain ⟨a, l, n, ⟨g1, g2, g3⟩, ea, en, el⟩ := x5 s (by omega)
      have es : nI (s + 1) - nI 1 = nI s := by rw [nI_sub (by omega), Nat.add_sub_cancel]
      rw [es]
      refine w_X10_sweepDown_74 ⟨fun z => absurd z (nz_lt (by omega)), fun _ => ?_⟩
      have ea' : gA (v_A v 73 f) 26 s = nI a := ea
      have el' : gA (v_A v 73 f) 27 s = nI l := el
      simp (disch := omega) only [nI_clamp, vp_t, true_and, ea', el']
      refine k_dated ?_
      have hXf : YearX (v_A v 73 f) K h := hX
      have under : ∀ (m1 : Bool) L1 f1, SwD v K h G (fun u w => (yF2 v 0 h u w ∨ yU2 v (s + 1) K u w ∨ yV2 v (s + 1) K u w) ∨ (l + 1 < n ∧ u = s ∧ w = 20 + 4 * a + l + 1)) m1 L1 f1 → RI E (d + 3) 108 130 [(0, .ref 67), (1, .int (bB m1)), (2, .int (nI s)), (3, .int (nI (20 + 4 * a + l)))] (v_A v 73 f1) Q := by
        intro m1 L1 f1 H1
        refine w_X10_sweepDown_130 ?_
        rw [i_m1]
        have hc1 : Con v K h (20 + 4 * a + l) s := Or.inr (Or.inl ⟨s, a, l, by omega, ea, el, ⟨by omega, by omega⟩, rfl, rfl⟩)
        refine k_lowerS hy0 (by omega) (by omega) hc1 H1 (fun r2 L2 f2 H2 => y_flag (A := fun x => RI E (d + 3) 108 74 [(0, .ref 67), (1, .int x), (2, .int (nI s - nI 1))] (v_A v 73 f2) Q) (ih (by omega) _ _ _ (H2.imp (fun u w z => ?_))))
        rcases z with z | ⟨s', a', l', q1, q2, q3, q4, q5, q6⟩ | ⟨s', a', l', n', q1, q2, q3, q4, q5, q6, q7⟩
        · exact Or.inl (Or.inl (Or.inl z))
        · by_cases e : s' = s
          · subst e
            rw [ea, nI_eq (by omega) (by omega)] at q2
            rw [el, nI_eq (by omega) (by omega)] at q3
            exact Or.inr ⟨by omega, q6⟩
          · exact Or.inl (Or.inl (Or.inr (Or.inl ⟨s', a', l', by omega, q2, q3, q4, q5, q6⟩)))
        · by_cases e : s' = s
          · subst e
            rw [ea, nI_eq (by omega) (by omega)] at q2
            rw [el, nI_eq (by omega) (by omega)] at q3
            have q5' := q5.2
            rw [← q2, en, nI_eq (by omega) (by omega)] at q5'
            exact Or.inl (Or.inr ⟨by omega, q6, by omega⟩)
          · exact Or.inl (Or.inl (Or.inr (Or.inr ⟨s', a', l', n', by omega, q2, q3, q4, q5, q6, q7⟩)))
      refine k_covered hXf (show s < K by omega) ea el g1 g3 en g2 (fun hl => ⟨fun z => absurd z nI_01, fun _ => ?_⟩) (fun hl => ⟨fun _ => under m L' f (H.imp (fun u w z => ?_)), fun z => absurd rfl z⟩)
      · rw [nI_add]
        have hc2 : Con v K h s (20 + 4 * a + l + 1) := Or.inr (Or.inr (Or.inl ⟨s, a, l, n, by omega, ea, el, ⟨by omega, hl, g2⟩, ⟨g1, en⟩, rfl, rfl⟩))
        refine k_lowerS hy0 (by omega) (by omega) hc2 H (fun r L1 f1 H1 => ?_)
        have H1' : SwD v K h G (fun u w => (yF2 v 0 h u w ∨ yU2 v (s + 1) K u w ∨ yV2 v (s + 1) K u w) ∨ (l + 1 < n ∧ u = s ∧ w = 20 + 4 * a + l + 1)) (m || r) L1 f1 := H1.imp (fun u w z => z.elim Or.inl (fun z => Or.inr z.2))
        cases r
        · rw [Bool.or_false] at H1'
          refine ⟨fun z => absurd rfl z, fun _ => ?_⟩
          cases m
          · exact ⟨fun _ => under false L1 f1 H1', fun z => absurd rfl z⟩
          · exact ⟨fun z => absurd z nI_01, fun _ => w_X10_sweepDown_124 (under true L1 f1 H1')⟩
        · rw [Bool.or_true] at H1'
          exact ⟨fun _ => w_X10_sweepDown_124 (under true L1 f1 H1'), fun z => absurd z nI_01⟩
      · rcases z with z | z
        · exact z
        · exact absurd z.1 hl
  have facts : ∀ i, i ≤ h → ∀ m L' f, SwD v K h G (yF2 v i h) m L' f → RI E (d + 3) 108 9 [(0, .ref 67), (1, .int (bB m)), (2, .int (nI i - nI 1))] (v_A v 73 f) Q := by
    intro i
    induction i with
    | zero =>
      intro _ m L' f H
      refine w_X10_sweepDown_9 ⟨fun _ y ey => ?_, fun z => absurd (by decide) z⟩
      have ey : y = nI K - nI 1 := by rw [ey]; exact congrArg (fun x => x - nI 1) x3
      subst ey
      refine scr K (Nat.le_refl _) m L' f (H.imp (fun u w z => ?_))
      rcases z with z | ⟨s', a', l', q1, _⟩ | ⟨s', a', l', n', q1, _⟩
      · exact z
      · omega
      · omega
    | succ i ih =>
      intro hi m L' f H
      have es : nI (i + 1) - nI 1 = nI i := by rw [nI_sub (by omega), Nat.add_sub_cancel]
      rw [es]
      refine w_X10_sweepDown_9 ⟨fun z => absurd z (nz_lt (by omega)), fun _ => ?_⟩
      simp (disch := omega) only [nI_clamp, vp_t, true_and]
      rw [i_m1]
      refine ⟨fun hk => ih (by omega) m L' f (H.imp (fun u w z => ?_)), fun hk => ?_⟩
      · obtain ⟨g, a, b, q1, q2, q3⟩ := z
        refine ⟨g, a, b, ?_, q2, q3⟩
        by_cases e : g = i
        · rw [e] at q2
          exact absurd q2 hk
        · omega
      · have hk : gA v 61 i = nI 2 := hk
        obtain ⟨⟨a, ha, ea⟩, b, hb, eb⟩ := x6 i (by omega) hk
        have ea' : gA (v_A v 73 f) 62 i = nI a := ea
        have eb' : gA (v_A v 73 f) 63 i = nI b := eb
        rw [ea', eb']
        have hcon : Con v K h a b := Or.inr (Or.inr (Or.inr ⟨i, a, b, by omega, hk, ea, eb, ⟨ha, hb⟩, rfl, rfl⟩))
        refine k_lowerS hy0 (by omega) (by omega) hcon H (fun r L'' f'' H' => y_flag (A := fun x => RI E (d + 3) 108 9 [(0, .ref 67), (1, .int x), (2, .int (nI i - nI 1))] (v_A v 73 f'') Q) (ih (by omega) _ _ _ (H'.imp (fun u w z => ?_))))
        obtain ⟨g, a', b', q1, q2, q3, q4, q5, q6, q7⟩ := z
        by_cases e : g = i
        · subst e
          rw [ea, nI_eq (by omega) (by omega)] at q3
          rw [eb, nI_eq (by omega) (by omega)] at q4
          exact Or.inr ⟨by omega, by omega⟩
        · exact Or.inl ⟨g, a', b', by omega, q2, q3, q4, q5, q6, q7⟩
  refine KI.of ok_108 (Nat.le_of_ble_eq_true rfl) (w_X10_sweepDown_0 (fun y ey => ?_))
  have ey : y = nI h - nI 1 := by rw [ey]; exact congrArg (fun x => x - nI 1) x4
  subst ey
  refine facts h (Nat.le_refl _) false G f0 ⟨h0, hUB, fun _ _ => Nat.le_refl _, fun _ => ⟨fun _ _ => rfl, fun u w z => ?_⟩, fun z => by cases z⟩
  obtain ⟨g, a', b', q1, _⟩ := z
  omega
/-- the greatest of all that agree -/
def GreatY (v : xV) (K h : Nat) (G : Nat → Nat) : Prop := SolY v K h G ∧ ∀ y, SolY v K h y → ∀ k, k < 52 → y k ≤ G k
theorem k_settleGreatest {E : Nat × (Nat → Int32)} {d : Nat} {v : xV} {K h : Nat} {y0 : Nat → Nat} {Q : xV → Prop} (hX : YearX v K h) (hy0 : SolY v K h y0) (kk : ∀ G f, (∀ k, k < 52 → f k = nI (G k)) → GreatY v K h G → Q (v_A v 73 f)) : KV E (d + 4) 106 [.ref 67] v Q := by
  have sweep : ∀ fuel j G f, sm G 52 ≤ fuel → j + sm G 52 ≤ 10400 → (∀ k, k < 52 → f k = nI (G k)) → UB v K h G → RV E (d + 4) 106 32 [(0, .ref 67), (1, .int (nI 1)), (2, .int (nI j))] (v_A v 73 f) Q := by
    intro fuel
    induction fuel with
    | zero =>
      intro j G f hf hj h1 h2
      refine w_X10_settleGreatest_32 ⟨fun z => ?_, fun _ => ⟨fun z => absurd z nI_01, fun _ => k_sweepDown hX hy0 h1 h2 (fun m G' f' H => ?_)⟩⟩
      · exfalso
        rw [nI_leI (by decide) (by omega)] at z
        omega
      · obtain ⟨g1, g2, g3, g4, g5⟩ := H
        rw [nI_add]
        cases m
        · obtain ⟨e1, e2⟩ := g4 rfl
          have hfin : Q (v_A v 73 f') := kk G' f' g1 ⟨⟨g2.1, fun u w hc => by
            obtain ⟨c1, c2⟩ := hc.lt hX
            rw [e1 u c1, e1 w c2]
            exact e2 u w hc⟩, g2.2⟩
          exact w_X10_settleGreatest_32 ⟨fun _ => hfin, fun _ => ⟨fun _ => hfin, fun z => absurd rfl z⟩⟩
        · exfalso
          have := sm_lt g3 (g5 rfl)
          omega
    | succ fuel ih =>
      intro j G f hf hj h1 h2
      refine w_X10_settleGreatest_32 ⟨fun z => ?_, fun _ => ⟨fun z => absurd z nI_01, fun _ => k_sweepDown hX hy0 h1 h2 (fun m G' f' H => ?_)⟩⟩
      · exfalso
        rw [nI_leI (by decide) (by omega)] at z
        omega
      · obtain ⟨g1, g2, g3, g4, g5⟩ := H
        rw [nI_add]
        cases m
        · obtain ⟨e1, e2⟩ := g4 rfl
          have hfin : Q (v_A v 73 f') := kk G' f' g1 ⟨⟨g2.1, fun u w hc => by
            obtain ⟨c1, c2⟩ := hc.lt hX
            rw [e1 u c1, e1 w c2]
            exact e2 u w hc⟩, g2.2⟩
          exact w_X10_settleGreatest_32 ⟨fun _ => hfin, fun _ => ⟨fun _ => hfin, fun z => absurd rfl z⟩⟩
        · have := sm_lt g3 (g5 rfl)
          exact ih (j + 1) G' f' (by omega) (by omega) g1 g2
  refine KV.of ok_106 (Nat.le_of_ble_eq_true rfl) (w_X10_settleGreatest_0 ?_)
  have init : ∀ i, i ≤ 52 → ∀ (G : Nat → Nat) (f : Nat → Int32), (∀ k, k < i → f k = nI (G k) ∧ G k < 200 ∧ mY v k (G k) = true ∧ ∀ z, G k < z → z < 200 → mY v k z = false) → RV E (d + 4) 106 2 [(0, .ref 67), (1, .int (nI i))] (v_A v 73 f) Q := by
    intro i hi
    refine lp_up (n := 52) (P := fun i => ∀ (G : Nat → Nat) (f : Nat → Int32), (∀ k, k < i → f k = nI (G k) ∧ G k < 200 ∧ mY v k (G k) = true ∧ ∀ z, G k < z → z < 200 → mY v k z = false) → RV E (d + 4) 106 2 [(0, .ref 67), (1, .int (nI i))] (v_A v 73 f) Q) (fun G f H => w_X10_settleGreatest_2 ⟨fun _ => ?_, fun z => absurd (by decide) z⟩) (fun i hi ih G f H => w_X10_settleGreatest_2 ⟨fun z => ?_, fun _ => ?_⟩) hi
    · have hb := sm_b (L := G) (n := 52) (M := 199) (fun k hk => by have := (H k hk).2.1; omega)
      refine sweep 10400 0 G f (by omega) (by omega) (fun k hk => (H k hk).1) ⟨fun k hk => ⟨(H k hk).2.1, (H k hk).2.2.1⟩, fun y hy k hk => ?_⟩
      rcases Nat.lt_or_ge (G k) (y k) with z | z
      · have e1 := (H k hk).2.2.2 (y k) z (hy.1 k hk).1
        rw [(hy.1 k hk).2] at e1
        cases e1
      · exact z
    · exfalso
      rw [nI_leI (by decide) (by omega)] at z
      omega
    · have e199 : nI 199 = nI 200 - nI 1 := by decide
      rw [e199]
      refine k_lastYear (v := v_A v 73 f) hi (by decide) (fun r r1 r2 r3 => ?_)
      have hr : 1 ≤ r := by
        obtain ⟨y1, y2⟩ := hy0.1 i hi
        rcases Nat.lt_or_ge (y0 i) r with z | z
        · omega
        · exfalso
          have := r3 (y0 i) z y1
          have : mY v i (y0 i) = false := this
          rw [y2] at this
          cases this
      rw [nI_sub hr, nI_clamp (by omega), vA_s, nI_add]
      refine ⟨vp_in_nI hi (by decide), ih (fun k => if k = i then r - 1 else G k) (upd f i (nI (r - 1))) (fun k hk => ?_)⟩
      show upd f i (nI (r - 1)) k = nI (if k = i then r - 1 else G k) ∧ (if k = i then r - 1 else G k) < 200 ∧ mY v k (if k = i then r - 1 else G k) = true ∧ ∀ z, (if k = i then r - 1 else G k) < z → z < 200 → mY v k z = false
      rw [upd_i]
      by_cases e : k = i
      · rw [if_pos e, if_pos e, e]
        exact ⟨rfl, by omega, r2 (by omega), fun z hz hz2 => r3 z (by omega) hz2⟩
      · rw [if_neg e, if_neg e]
        exact H k (by omega)
  have := init 0 (Nat.zero_le _) (fun _ => 0) (gA v 73) (fun k hk => by omega)
  rw [vAself] at this
  exact this

/-! years, the class: one sweep up -/
def yW (v : xV) (a0 l0 u w : Nat) : Prop := ∃ a l n, (a < a0 ∨ (a = a0 ∧ l < l0)) ∧ a < nA v ∧ gA v 14 a = nI n ∧ (1 ≤ l ∧ l < n ∧ n ≤ 4) ∧ u = 20 + 4 * a + (l - 1) ∧ w = 20 + 4 * a + l
def yU (v : xV) (s0 u w : Nat) : Prop := ∃ s a l, s < s0 ∧ gA v 26 s = nI a ∧ gA v 27 s = nI l ∧ (a < 8 ∧ l < 4) ∧ u = 20 + 4 * a + l ∧ w = s
def yV (v : xV) (s0 u w : Nat) : Prop := ∃ s a l n, s < s0 ∧ gA v 26 s = nI a ∧ gA v 27 s = nI l ∧ (a < 8 ∧ l + 1 < n ∧ n ≤ 4) ∧ (a < nA v ∧ gA v 14 a = nI n) ∧ u = s ∧ w = 20 + 4 * a + l + 1
def yF (v : xV) (h u w : Nat) : Prop := ∃ f a b, f < h ∧ gA v 61 f = nI 2 ∧ gA v 62 f = nI a ∧ gA v 63 f = nI b ∧ (a < 20 ∧ b < 20) ∧ u = a ∧ w = b
/-- one is not ahead of the other -/
def Con (v : xV) (K h u w : Nat) : Prop := yW v (nA v) 0 u w ∨ yU v K u w ∨ yV v K u w ∨ yF v h u w
def SolY (v : xV) (K h : Nat) (y : Nat → Nat) : Prop := (∀ k, k < 52 → y k < 200 ∧ mY v k (y k) = true) ∧ ∀ u w, Con v K h u w → y u ≤ y w
def LB (v : xV) (K h : Nat) (L : Nat → Nat) : Prop := (∀ k, k < 52 → L k ≤ 200 ∧ (L k < 200 → mY v k (L k) = true)) ∧ ∀ y, SolY v K h y → ∀ k, k < 52 → L k ≤ y k
def SwI (v : xV) (K h : Nat) (L : Nat → Nat) (dn : Nat → Nat → Prop) (m : Bool) (L' : Nat → Nat) (f : Nat → Int32) : Prop := (∀ k, k < 52 → f k = nI (L' k)) ∧ LB v K h L' ∧ (∀ k, k < 52 → L k ≤ L' k) ∧ (m = false → (∀ k, k < 52 → L' k = L k) ∧ ∀ u w, dn u w → L u ≤ L w) ∧ (m = true → ∃ k, k < 52 ∧ L k < L' k)
theorem SwI.imp {v : xV} {K h : Nat} {L L' : Nat → Nat} {dn dn' : Nat → Nat → Prop} {m : Bool} {f : Nat → Int32} (H : SwI v K h L dn m L' f) (hd : ∀ u w, dn' u w → dn u w) : SwI v K h L dn' m L' f := ⟨H.1, H.2.1, H.2.2.1, fun e => ⟨(H.2.2.2.1 e).1, fun u w z => (H.2.2.2.1 e).2 u w (hd u w z)⟩, H.2.2.2.2⟩
theorem k_raiseS {E : Nat × (Nat → Int32)} {d : Nat} {v : xV} {K h a b : Nat} {L L' : Nat → Nat} {dn : Nat → Nat → Prop} {m : Bool} {f : Nat → Int32} {Q : Int32 → xV → Prop} (ha : a < 52) (hb : b < 52) (hc : Con v K h b a) (H : SwI v K h L dn m L' f) (kk : ∀ r L'' f'', SwI v K h L (fun u w => dn u w ∨ (u = b ∧ w = a)) (m || r) L'' f'' → Q (bB r) (v_A v 72 f'')) : KI E (d + 2) 110 [.ref 67, .int (nI a), .int (nI b)] (v_A v 72 f) Q := by
  obtain ⟨h1, ⟨h2, h3⟩, h4, h5, h6⟩ := H
  refine k_raise (v := v_A v 72 f) (L := L') ha hb (fun k hk => ⟨h1 k hk, (h2 k hk).1⟩) (fun hle => kk false L' f ⟨h1, ⟨h2, h3⟩, h4, fun e => ?_, fun e => ?_⟩) (fun r r1 r2 r3 r4 r5 => ?_)
  · rw [Bool.or_false] at e
    obtain ⟨e1, e2⟩ := h5 e
    refine ⟨e1, fun u w z => ?_⟩
    rcases z with z | ⟨rfl, rfl⟩
    · exact e2 u w z
    · rw [← e1 u hb, ← e1 w ha]
      exact hle
  · rw [Bool.or_false] at e
    exact h6 e
  · rw [vA_s]
    have hlt := h4 a ha
    refine kk true (fun k => if k = a then r else L' k) (upd f a (nI r)) ⟨fun k hk => ?_, ⟨fun k hk => ?_, fun y hy k hk => ?_⟩, fun k hk => ?_, fun e => ?_, fun _ => ⟨a, ha, ?_⟩⟩
    · show upd f a (nI r) k = nI (if k = a then r else L' k)
      rw [upd_i]
      split
      · rfl
      · exact h1 k hk
    · show (if k = a then r else L' k) ≤ 200 ∧ ((if k = a then r else L' k) < 200 → mY v k (if k = a then r else L' k) = true)
      split
      · rename_i e
        rw [e]
        exact ⟨r3, r4⟩
      · exact h2 k hk
    · show (if k = a then r else L' k) ≤ y k
      split
      · rename_i e
        rw [e]
        have y1 := hy.2 b a hc
        have y2 := h3 y hy b hb
        rcases Nat.lt_or_ge (y a) r with z | z
        · exfalso
          have e1 := r5 (y a) (by omega) z
          have e2 := (hy.1 a ha).2
          have e1 : mY v a (y a) = false := e1
          rw [e2] at e1
          cases e1
        · exact z
      · exact h3 y hy k hk
    · show L k ≤ (if k = a then r else L' k)
      split
      · rename_i e
        rw [e]
        omega
      · exact h4 k hk
    · rw [Bool.or_true] at e
      cases e
    · show L a < (if a = a then r else L' a)
      rw [if_pos rfl]
      omega
theorem y_flag {A : Int32 → Prop} {r m : Bool} (h : A (bB (m || r))) : (¬ bB r = nI 0 → A (nI 1)) ∧ (bB r = nI 0 → ((bB m = nI 0 → A (nI 0)) ∧ (¬ bB m = nI 0 → A (nI 1)))) := by
  cases r
  · rw [Bool.or_false] at h
    refine ⟨fun z => absurd rfl z, fun _ => ?_⟩
    cases m
    · exact ⟨fun _ => h, fun z => absurd rfl z⟩
    · exact ⟨fun z => absurd z nI_01, fun _ => h⟩
  · rw [Bool.or_true] at h
    exact ⟨fun _ => h, fun z => absurd z nI_01⟩
theorem k_dated {E : Nat × (Nat → Int32)} {d : Nat} {v : xV} {a l : Nat} {Q : Int32 → xV → Prop} (kk : Q (nI (20 + 4 * a + l)) v) : KI E d 94 [.ref 67, .int (nI a), .int (nI l)] v Q := by
  refine KI.of ok_94 (Nat.le_of_ble_eq_true rfl) (w_X10_datedLayer_0 ?_)
  rw [pk_mul, nI_add, nI_add, Nat.mul_comm a 4]
  exact kk
/-- what years rest on -/
def YearX (v : xV) (K h : Nat) : Prop := (gI v 11 7 = nI (nA v) ∧ nA v ≤ 8) ∧ (∀ i, ∃ n, n ≤ 4 ∧ gA v 14 i = nI n) ∧ (gI v 67 10 = nI K ∧ K ≤ 20) ∧ (gI v 67 11 = nI h ∧ h ≤ 80) ∧ (∀ s, s < K → isLay (gA v 14) (nA v) (gA v 26 s) (gA v 27 s)) ∧ ∀ f, f < h → gA v 61 f = nI 2 → isN 20 (gA v 62 f) ∧ isN 20 (gA v 63 f)
theorem k_covered {E : Nat × (Nat → Int32)} {d : Nat} {v : xV} {K h s a l n : Nat} {Q : Int32 → xV → Prop} (hX : YearX v K h) (hs : s < K) (h26 : gA v 26 s = nI a) (h27 : gA v 27 s = nI l) (ha : a < nA v) (hl : l < n) (h14 : gA v 14 a = nI n) (hn : n ≤ 4) (k1 : l + 1 < n → Q (nI 1) v) (k2 : ¬ l + 1 < n → Q (nI 0) v) : KI E (d + 1) 109 [.ref 67, .int (nI s)] v Q := by
  obtain ⟨⟨x1, x1'⟩, x2, ⟨x3, x3'⟩, -⟩ := hX
  refine KI.of ok_109 (Nat.le_of_ble_eq_true rfl) (w_X10_isCovered_0 ?_)
  simp (disch := omega) only [nI_clamp, vp_t, true_and, h26, h27, nI_add]
  refine k_isLayer x1 x1' x2 (fun g => ⟨vp_in_nI (by decide) (by decide), k1 ?_⟩) (fun g => ⟨vp_in_nI (by decide) (by decide), k2 (fun z => g ⟨a, l + 1, n, ⟨ha, hn, z⟩, rfl, h14, rfl⟩)⟩)
  obtain ⟨a', l', n', g1, g2, g3, g4⟩ := g
  rw [nI_eq (by omega) (by omega)] at g2 g4
  rw [← g2, h14, nI_eq (by omega) (by omega)] at g3
  omega
theorem k_sweepUp {E : Nat × (Nat → Int32)} {d : Nat} {v : xV} {K h : Nat} {L : Nat → Nat} {f0 : Nat → Int32} {Q : Int32 → xV → Prop} (hX : YearX v K h) (h0 : ∀ k, k < 52 → f0 k = nI (L k)) (hLB : LB v K h L) (kk : ∀ m L' f, SwI v K h L (Con v K h) m L' f → Q (bB m) (v_A v 72 f)) : KI E (d + 3) 107 [.ref 67] (v_A v 72 f0) Q := by
  obtain ⟨⟨x1, x1'⟩, x2, ⟨x3, x3'⟩, ⟨x4, x4'⟩, x5, x6⟩ := id hX
  -- the answers
  have facts : ∀ i, i ≤ h → ∀ m L' f, SwI v K h L (fun u w => yW v (nA v) 0 u w ∨ yU v K u w ∨ yV v K u w ∨ yF v i u w) m L' f → RI E (d + 3) 107 162 [(0, .ref 67), (1, .int (bB m)), (2, .int (nI i))] (v_A v 72 f) Q := by
    intro i hi
    refine lp_up (n := h) (P := fun i => ∀ m L' f, SwI v K h L (fun u w => yW v (nA v) 0 u w ∨ yU v K u w ∨ yV v K u w ∨ yF v i u w) m L' f → RI E (d + 3) 107 162 [(0, .ref 67), (1, .int (bB m)), (2, .int (nI i))] (v_A v 72 f) Q) (fun m L' f H => w_X10_sweepUp_162 ?_) (fun i hi ih m L' f H => w_X10_sweepUp_162 ?_) hi
    · rw [show gI (v_A v 72 f) 67 11 = nI h from x4]
      exact ⟨fun _ => ⟨bB_in, kk m L' f H⟩, fun z => absurd (nI_le (Nat.le_refl _) (by omega)) z⟩
    · have e11 : gI (v_A v 72 f) 67 11 = nI h := x4
      simp (disch := omega) only [nI_clamp, vp_t, true_and, e11, nI_leI, nI_add]
      refine ⟨fun z => by omega, fun _ => ⟨fun hk => ?_, fun hk => ?_⟩⟩
      · refine ih m L' f (H.imp (fun u w z => ?_))
        rcases z with z | z | z | ⟨g, a, b, q1, q2, q3⟩
        · exact Or.inl z
        · exact Or.inr (Or.inl z)
        · exact Or.inr (Or.inr (Or.inl z))
        · refine Or.inr (Or.inr (Or.inr ⟨g, a, b, ?_, q2, q3⟩))
          by_cases e : g = i
          · rw [e] at q2
            exact absurd q2 hk
          · omega
      · have hk : gA v 61 i = nI 2 := hk
        obtain ⟨⟨a, ha, ea⟩, b, hb, eb⟩ := x6 i hi hk
        have ea' : gA (v_A v 72 f) 62 i = nI a := ea
        have eb' : gA (v_A v 72 f) 63 i = nI b := eb
        rw [ea', eb']
        have hcon : Con v K h a b := Or.inr (Or.inr (Or.inr ⟨i, a, b, hi, hk, ea, eb, ⟨ha, hb⟩, rfl, rfl⟩))
        refine k_raiseS (by omega) (by omega) hcon H (fun r L'' f'' H' => ?_)
        refine y_flag (A := fun x => RI E (d + 3) 107 162 [(0, .ref 67), (1, .int x), (2, .int (nI (i + 1)))] (v_A v 72 f'') Q) (ih _ _ _ (H'.imp (fun u w z => ?_)))
        rcases z with z | z | z | ⟨g, a', b', q1, q2, q3, q4, q5, q6, q7⟩
        · exact Or.inl (Or.inl z)
        · exact Or.inl (Or.inr (Or.inl z))
        · exact Or.inl (Or.inr (Or.inr (Or.inl z)))
        · by_cases e : g = i
          · subst e
            rw [ea, nI_eq (by omega) (by omega)] at q3
            rw [eb, nI_eq (by omega) (by omega)] at q4
            exact Or.inr ⟨by omega, by omega⟩
          · exact Or.inl (Or.inr (Or.inr (Or.inr ⟨g, a', b', by omega, q2, q3, q4, q5, q6, q7⟩)))
  -- the scrawls
  have scr : ∀ s, s ≤ K → ∀ m L' f, SwI v K h L (fun u w => yW v (nA v) 0 u w ∨ yU v s u w ∨ yV v s u w) m L' f → RI E (d + 3) 107 75 [(0, .ref 67), (1, .int (bB m)), (2, .int (nI s))] (v_A v 72 f) Q := by
    intro s hs
    refine lp_up (n := K) (P := fun s => ∀ m L' f, SwI v K h L (fun u w => yW v (nA v) 0 u w ∨ yU v s u w ∨ yV v s u w) m L' f → RI E (d + 3) 107 75 [(0, .ref 67), (1, .int (bB m)), (2, .int (nI s))] (v_A v 72 f) Q) (fun m L' f H => w_X10_sweepUp_75 ?_) (fun s hs ih m L' f H => w_X10_sweepUp_75 ?_) hs
    · rw [show gI (v_A v 72 f) 67 10 = nI K from x3]
      refine ⟨fun _ => facts 0 (Nat.zero_le _) m L' f (H.imp (fun u w z => ?_)), fun z => absurd (nI_le (Nat.le_refl _) (by omega)) z⟩
      rcases z with z | z | z | ⟨g, a, b, q1, _⟩
      · exact Or.inl z
      · exact Or.inr (Or.inl z)
      · exact Or.inr (Or.inr z)
      · omega
    · obtain ⟨a, l, n, ⟨g1, g2, g3⟩, ea, en, el⟩ := x5 s hs
      have e10 : gI (v_A v 72 f) 67 10 = nI K := x3
      have ea' : gA (v_A v 72 f) 26 s = nI a := ea
      have el' : gA (v_A v 72 f) 27 s = nI l := el
      simp (disch := omega) only [nI_clamp, vp_t, true_and, e10, nI_leI, nI_add, ea', el']
      refine ⟨fun z => by omega, fun _ => k_dated ?_⟩
      have hc1 : Con v K h (20 + 4 * a + l) s := Or.inr (Or.inl ⟨s, a, l, hs, ea, el, ⟨by omega, by omega⟩, rfl, rfl⟩)
      refine k_raiseS (by omega) (by omega) hc1 H (fun r L1 f1 H1 => ?_)
      -- when the next layer lies over it
      have more : ∀ (m1 : Bool) L1 f1, SwI v K h L (fun u w => (yW v (nA v) 0 u w ∨ yU v s u w ∨ yV v s u w) ∨ (u = 20 + 4 * a + l ∧ w = s)) m1 L1 f1 → KI E (d + 2) 109 [.ref 67, .int (nI s)] (v_A v 72 f1) (fun y8 v7 => ((y8 = nI 0 → RI E (d + 3) 107 75 [(0, .ref 67), (1, .int (bB m1)), (2, .int (nI (s + 1)))] v7 Q) ∧ (¬ y8 = nI 0 → KI E (d + 2) 110 [.ref 67, .int (nI (20 + 4 * a + l + 1)), .int (nI s)] v7 (fun y10 v9 => ((¬ y10 = nI 0 → RI E (d + 3) 107 75 [(0, .ref 67), (1, .int (nI 1)), (2, .int (nI (s + 1)))] v9 Q) ∧ (y10 = nI 0 → ((bB m1 = nI 0 → RI E (d + 3) 107 75 [(0, .ref 67), (1, .int (nI 0)), (2, .int (nI (s + 1)))] v9 Q) ∧ (¬ bB m1 = nI 0 → RI E (d + 3) 107 75 [(0, .ref 67), (1, .int (nI 1)), (2, .int (nI (s + 1)))] v9 Q)))))))) := by
        intro m1 L1 f1 H1
        have hXf : YearX (v_A v 72 f1) K h := hX
        refine k_covered hXf hs ea el g1 g3 en g2 (fun hl => ⟨fun z => absurd z nI_01, fun _ => ?_⟩) (fun hl => ⟨fun _ => ih m1 L1 f1 (H1.imp (fun u w z => ?_)), fun z => absurd rfl z⟩)
        · have hc2 : Con v K h s (20 + 4 * a + l + 1) := Or.inr (Or.inr (Or.inl ⟨s, a, l, n, hs, ea, el, ⟨by omega, hl, g2⟩, ⟨g1, en⟩, rfl, rfl⟩))
          refine k_raiseS (by omega) (by omega) hc2 H1 (fun r2 L2 f2 H2 => y_flag (A := fun x => RI E (d + 3) 107 75 [(0, .ref 67), (1, .int x), (2, .int (nI (s + 1)))] (v_A v 72 f2) Q) (ih _ _ _ (H2.imp (fun u w z => ?_))))
          rcases z with z | ⟨s', a', l', q1, q2, q3, q4, q5, q6⟩ | ⟨s', a', l', n', q1, q2, q3, q4, q5, q6, q7⟩
          · exact Or.inl (Or.inl (Or.inl z))
          · by_cases e : s' = s
            · subst e
              rw [ea, nI_eq (by omega) (by omega)] at q2
              rw [el, nI_eq (by omega) (by omega)] at q3
              exact Or.inl (Or.inr ⟨by omega, q6⟩)
            · exact Or.inl (Or.inl (Or.inr (Or.inl ⟨s', a', l', by omega, q2, q3, q4, q5, q6⟩)))
          · by_cases e : s' = s
            · subst e
              rw [ea, nI_eq (by omega) (by omega)] at q2
              rw [el, nI_eq (by omega) (by omega)] at q3
              exact Or.inr ⟨q6, by omega⟩
            · exact Or.inl (Or.inl (Or.inr (Or.inr ⟨s', a', l', n', by omega, q2, q3, q4, q5, q6, q7⟩)))
        · rcases z with z | ⟨s', a', l', q1, q2, q3, q4, q5, q6⟩ | ⟨s', a', l', n', q1, q2, q3, q4, q5, q6, q7⟩
          · exact Or.inl (Or.inl z)
          · by_cases e : s' = s
            · subst e
              rw [ea, nI_eq (by omega) (by omega)] at q2
              rw [el, nI_eq (by omega) (by omega)] at q3
              exact Or.inr ⟨by omega, q6⟩
            · exact Or.inl (Or.inr (Or.inl ⟨s', a', l', by omega, q2, q3, q4, q5, q6⟩))
          · by_cases e : s' = s
            · subst e
              exfalso
              rw [ea, nI_eq (by omega) (by omega)] at q2
              rw [el, nI_eq (by omega) (by omega)] at q3
              rw [← q2, en, nI_eq (by omega) (by omega)] at q5
              omega
            · exact Or.inl (Or.inr (Or.inr ⟨s', a', l', n', by omega, q2, q3, q4, q5, q6, q7⟩))
      have m119 : ∀ L1 f1, SwI v K h L (fun u w => (yW v (nA v) 0 u w ∨ yU v s u w ∨ yV v s u w) ∨ (u = 20 + 4 * a + l ∧ w = s)) true L1 f1 → RI E (d + 3) 107 119 [(0, .ref 67), (2, .int (nI s)), (3, .int (nI (20 + 4 * a + l)))] (v_A v 72 f1) Q := by
        intro L1 f1 H1
        refine w_X10_sweepUp_119 ?_
        rw [nI_add, nI_add]
        exact more true L1 f1 H1
      cases r
      · refine ⟨fun z => absurd rfl z, fun _ => ?_⟩
        rw [Bool.or_false] at H1
        cases m
        · rw [nI_add]
          exact ⟨fun _ => (more false L1 f1 H1).mono (fun y8 w8 z => ⟨z.1, fun hn => (z.2 hn).mono (fun y9 w9 q => ⟨q.1, fun e => ⟨fun _ => (q.2 e).1 rfl, fun hh => absurd trivial hh⟩⟩)⟩), fun z => absurd rfl z⟩
        · exact ⟨fun z => absurd z nI_01, fun _ => m119 L1 f1 H1⟩
      · rw [Bool.or_true] at H1
        exact ⟨fun _ => m119 L1 f1 H1, fun z => absurd z nI_01⟩
  -- the walls
  have walls : ∀ a, a ≤ nA v → ∀ m L' f, SwI v K h L (yW v a 0) m L' f → RI E (d + 3) 107 4 [(0, .ref 67), (1, .int (bB m)), (2, .int (nI a))] (v_A v 72 f) Q := by
    intro a ha
    refine lp_up (n := nA v) (P := fun a => ∀ m L' f, SwI v K h L (yW v a 0) m L' f → RI E (d + 3) 107 4 [(0, .ref 67), (1, .int (bB m)), (2, .int (nI a))] (v_A v 72 f) Q) (fun m L' f H => w_X10_sweepUp_4 ?_) (fun a ha ih m L' f H => w_X10_sweepUp_4 ?_) ha
    · rw [show gI (v_A v 72 f) 11 7 = nI (nA v) from x1]
      refine ⟨fun _ => scr 0 (Nat.zero_le _) m L' f (H.imp (fun u w z => ?_)), fun z => absurd (nI_le (Nat.le_refl _) (by omega)) z⟩
      rcases z with z | ⟨s, a, l, q1, _⟩ | ⟨s, a, l, n, q1, _⟩
      · exact z
      · omega
      · omega
    · rw [show gI (v_A v 72 f) 11 7 = nI (nA v) from x1, nI_leI (by omega) (by omega)]
      refine ⟨fun z => by omega, fun _ => ?_⟩
      obtain ⟨n, hn, en⟩ := x2 a
      have inner : ∀ l, 1 ≤ l → l ≤ max n 1 → ∀ m L' f, SwI v K h L (yW v a l) m L' f → RI E (d + 3) 107 17 [(0, .ref 67), (1, .int (bB m)), (2, .int (nI a)), (3, .int (nI l))] (v_A v 72 f) Q := by
        intro l hl1 hl
        refine lp_up (n := max n 1) (P := fun l => 1 ≤ l → ∀ m L' f, SwI v K h L (yW v a l) m L' f → RI E (d + 3) 107 17 [(0, .ref 67), (1, .int (bB m)), (2, .int (nI a)), (3, .int (nI l))] (v_A v 72 f) Q) (fun _ m L' f H => w_X10_sweepUp_17 ?_) (fun l hl ih2 hl1 m L' f H => w_X10_sweepUp_17 ?_) hl hl1
        · have e14 : gA (v_A v 72 f) 14 a = nI n := en
          simp (disch := omega) only [nI_clamp, vp_t, true_and, e14, nI_leI, nI_add]
          refine ⟨fun _ => ih m L' f (H.imp (fun u w z => ?_)), fun z => absurd (by omega) z⟩
          obtain ⟨a', l', n', q1, q2, q3, q4, q5⟩ := z
          refine ⟨a', l', n', ?_, q2, q3, q4, q5⟩
          by_cases e : a' = a
          · subst e
            rw [en, nI_eq (by omega) (by omega)] at q3
            exact Or.inr ⟨rfl, by omega⟩
          · exact Or.inl (by omega)
        · have e14 : gA (v_A v 72 f) 14 a = nI n := en
          simp (disch := omega) only [nI_clamp, vp_t, true_and, e14, nI_leI, nI_add, nI_sub]
          refine ⟨fun z => absurd z (by omega), fun _ => k_dated (k_dated ?_)⟩
          have hc : Con v K h (20 + 4 * a + (l - 1)) (20 + 4 * a + l) := Or.inl ⟨a, l, n, Or.inl ha, ha, en, ⟨hl1, by omega, hn⟩, rfl, rfl⟩
          refine k_raiseS (by omega) (by omega) hc H (fun r L1 f1 H1 => y_flag (A := fun x => RI E (d + 3) 107 17 [(0, .ref 67), (1, .int x), (2, .int (nI a)), (3, .int (nI (l + 1)))] (v_A v 72 f1) Q) (ih2 (by omega) _ _ _ (H1.imp (fun u w z => ?_))))
          obtain ⟨a', l', n', q1, q2, q3, q4, q5, q6⟩ := z
          by_cases e : a' = a ∧ l' = l
          · obtain ⟨rfl, rfl⟩ := e
            exact Or.inr ⟨q5, q6⟩
          · exact Or.inl ⟨a', l', n', by omega, q2, q3, q4, q5, q6⟩
      refine inner 1 (Nat.le_refl _) (by omega) m L' f (H.imp (fun u w z => ?_))
      obtain ⟨a', l', n', q1, q2, q3, q4, q5⟩ := z
      exact ⟨a', l', n', by omega, q2, q3, q4, q5⟩
  refine KI.of ok_107 (Nat.le_of_ble_eq_true rfl) (w_X10_sweepUp_0 ?_)
  refine walls 0 (Nat.zero_le _) false L f0 ⟨h0, hLB, fun _ _ => Nat.le_refl _, fun _ => ⟨fun _ _ => rfl, fun u w z => ?_⟩, fun z => by cases z⟩
  obtain ⟨a', l', n', q1, _⟩ := z
  omega

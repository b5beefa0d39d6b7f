/-! years, the reference: passes over all constraints -/
def Rel (v : xV) (K k : Nat) : Prop := k < K ∨ ∃ a l n, a < nA v ∧ gA v 14 a = nI n ∧ (l < n ∧ n ≤ 4) ∧ k = 20 + 4 * a + l
def Ful (v : xV) (K : Nat) (Y : Nat → Nat → Bool) : Prop := ∀ k, k < 52 → ¬ Rel v K k → ∀ z, z < 200 → Y k z = true
theorem Con.rel {v : xV} {t up : Int32} {K N n u w : Nat} (hX : RfX v t up K N n) (hc : Con v K n u w) : (Rel v K u ∧ u < 52) ∧ Rel v K w ∧ w < 52 := by
  obtain ⟨⟨x1, x2, x3, x4⟩, ⟨y1, y2, y3, y4⟩, -, -, hl, -, hk⟩ := hX
  rcases hc with ⟨a, l, n, q1, q2, q3, q4, q5, q6⟩ | ⟨s, a, l, q1, q2, q3, q4, q5, q6⟩ | ⟨s, a, l, n, q1, q2, q3, q4, q5, q6, q7⟩ | ⟨f, a, b, q1, q2, q3, q4, q5, q6, q7⟩
  · exact ⟨⟨Or.inr ⟨a, l - 1, n, q2, q3, by omega, q5⟩, by omega⟩, Or.inr ⟨a, l, n, q2, q3, by omega, q6⟩, by omega⟩
  · obtain ⟨a', l', m, g1, g2, g3, g4⟩ := hl s q1
    rw [q2, nI_eq (by omega) (by omega)] at g2
    rw [q3, nI_eq (by omega) (by omega)] at g4
    subst g2 g4
    exact ⟨⟨Or.inr ⟨a, l, m, g1.1, g3, by omega, q5⟩, by omega⟩, Or.inl (by omega), by omega⟩
  · exact ⟨⟨Or.inl (by omega), by omega⟩, Or.inr ⟨a, l + 1, n, q5.1, q5.2, by omega, by omega⟩, by omega⟩
  · obtain ⟨h1, h2⟩ := hk f q1
    obtain ⟨a', ha, ea⟩ := h1 (Or.inr q2)
    obtain ⟨b', hb, eb⟩ := h2 q2
    rw [q3, nI_eq (by omega) (by omega)] at ea
    rw [q4, nI_eq (by omega) (by omega)] at eb
    exact ⟨⟨Or.inl (by omega), by omega⟩, Or.inl (by omega), by omega⟩
/-- a pass that began with Y0, with dn done -/
def PaI (v : xV) (K n : Nat) (Y0 : Nat → Nat → Bool) (dn : Nat → Nat → Prop) (z : Bool) (f : Nat → Int32) (Y : Nat → Nat → Bool) : Prop := YS f Y ∧ Sub Y0 Y ∧ (∀ p, SolD v K n p → InY Y p) ∧ Ful v K Y ∧ (z = false → (∀ k y, Y k y = Y0 k y) ∧ ∀ u w, dn u w → LeOK Y0 u w) ∧ (z = true → Drop Y0 Y)
theorem PaI.imp {v : xV} {K n : Nat} {Y0 Y : Nat → Nat → Bool} {dn dn' : Nat → Nat → Prop} {z : Bool} {f : Nat → Int32} (h : PaI v K n Y0 dn z f Y) (hd : ∀ u w, dn' u w → dn u w) : PaI v K n Y0 dn' z f Y := ⟨h.1, h.2.1, h.2.2.1, h.2.2.2.1, fun e => ⟨(h.2.2.2.2.1 e).1, fun u w q => (h.2.2.2.2.1 e).2 u w (hd u w q)⟩, h.2.2.2.2.2⟩
theorem k_followS {E : Nat × (Nat → Int32)} {d : Nat} {v : xV} {t up : Int32} {K N n u w : Nat} {Y0 Y : Nat → Nat → Bool} {dn : Nat → Nat → Prop} {z : Bool} {f : Nat → Int32} {Q : xV → Prop} (hX : RfX v t up K N n) (hc : Con v K n u w) (H : PaI v K n Y0 dn z f Y) (kk : ∀ f' Y' z', PaI v K n Y0 (fun a b => dn a b ∨ (a = u ∧ b = w)) z' f' Y' → Q (v_I (v_A v 127 f') 80 73 (bB z'))) : KV E (d + 1) 202 [.ref 80, .int (nI w), .int (nI u)] (v_I (v_A v 127 f) 80 73 (bB z)) Q := by
  obtain ⟨⟨r1, r2⟩, r3, r4⟩ := Con.rel hX hc
  obtain ⟨h1, h2, h3, h4, h5, h6⟩ := H
  refine k_follows r2 r4 h1 (fun f' Y' m g1 g2 g3 g4 g5 g6 => kk f' Y' (z || m) ⟨g1, fun k y q => h2 k y (g2 k y q), fun p hp => g3 p (h3 p hp) (hp.2 u w hc), fun k hk hr zz hz => ?_, fun e => ?_, fun e => ?_⟩)
  · rw [g4 k zz (fun e => hr (by rw [e]; exact r1)) (fun e => hr (by rw [e]; exact r3))]
    exact h4 k hk hr zz hz
  · obtain ⟨e1, e2⟩ := Bool.or_eq_false_iff.mp e
    obtain ⟨a1, a2⟩ := h5 e1
    obtain ⟨b1, b2⟩ := g5 e2
    have eY : Y = Y0 := by
      funext k y
      exact a1 k y
    rw [eY] at b1 b2
    refine ⟨b1, fun a b q => ?_⟩
    rcases q with q | ⟨rfl, rfl⟩
    · exact a2 a b q
    · exact b2
  · cases z with
    | true =>
      obtain ⟨k, y, q1, q2, q3⟩ := h6 rfl
      refine ⟨k, y, q1, q2, ?_⟩
      cases hq : Y' k y with
      | false => rfl
      | true =>
        rw [g2 k y hq] at q3
        cases q3
    | false =>
      obtain ⟨a1, -⟩ := h5 rfl
      obtain ⟨k, y, q1, q2, q3⟩ := g6 e
      rw [a1] at q2
      exact ⟨k, y, q1, q2, q3⟩
/-- how many years stand -/
def muY (f : Nat → Int32) : Nat := sm (fun i => if f i = nI 0 then 0 else 1) 10400
theorem muY_lt {f f' : Nat → Int32} {Y Y' : Nat → Nat → Bool} (h : YS f Y) (h' : YS f' Y') (hs : Sub Y Y') (hd : Drop Y Y') : muY f' < muY f := by
  have key : ∀ i, i < 10400 → (f i = bB (Y (i / 200) (i % 200)) ∧ f' i = bB (Y' (i / 200) (i % 200))) := by
    intro i hi
    have e : 200 * (i / 200) + i % 200 = i := by omega
    have := h (i / 200) (i % 200) (by omega) (by omega)
    have h2 := h' (i / 200) (i % 200) (by omega) (by omega)
    rw [e] at this h2
    exact ⟨this, h2⟩
  refine sm_lt (fun i hi => ?_) ?_
  · obtain ⟨k1, k2⟩ := key i hi
    show (if f' i = nI 0 then 0 else 1) ≤ (if f i = nI 0 then 0 else 1)
    rw [k1, k2]
    cases hq : Y' (i / 200) (i % 200) with
    | false =>
      rw [bB_f, if_pos rfl]
      exact Nat.zero_le _
    | true =>
      rw [hs _ _ hq]
      exact Nat.le_refl _
  · obtain ⟨k, y, q1, q2, q3⟩ := hd
    refine ⟨200 * k + y, by omega, ?_⟩
    show (if f' (200 * k + y) = nI 0 then 0 else 1) < (if f (200 * k + y) = nI 0 then 0 else 1)
    rw [h k y q1.1 q1.2, h' k y q1.1 q1.2, q2, q3, bB_f, bB_t, if_pos rfl, if_neg nI_01]
    exact Nat.zero_lt_one
theorem k_pass {E : Nat × (Nat → Int32)} {d : Nat} {v : xV} {t up : Int32} {K N n : Nat} {Y0 : Nat → Nat → Bool} {f0 : Nat → Int32} {Q : xV → Prop} (hX : RfX v t up K N n) (H0 : PaI v K n Y0 (fun _ _ => False) false f0 Y0) (kk : ∀ f Y z, PaI v K n Y0 (Con v K n) z f Y → RV E (d + 2) 204 317 [(0, .ref 80), (1, .int t), (2, .int up), (3, .int (nI N))] (v_I (v_A v 127 f) 80 73 (bB z)) Q) : RV E (d + 2) 204 170 [(0, .ref 80), (1, .int t), (2, .int up), (3, .int (nI 0))] (v_I (v_A v 127 f0) 80 73 (nI 0)) Q := by
  obtain ⟨⟨x1, x2, x3, x4⟩, ⟨y1, y2, y3, y4⟩, ⟨z1, z2, z3, z4⟩, ⟨e100, e101, e121, e122, e123, -, -⟩, hl, -, hkn⟩ := id hX
  -- the answers
  have facts : ∀ i, i ≤ N → ∀ f Y z, PaI v K n Y0 (fun u w => yW v (nA v) 0 u w ∨ yU v K u w ∨ yV v K u w ∨ yF v (min i n) u w) z f Y → RV E (d + 2) 204 317 [(0, .ref 80), (1, .int t), (2, .int up), (3, .int (nI i))] (v_I (v_A v 127 f) 80 73 (bB z)) Q := by
    intro i hi
    refine lp_up (n := N) (P := fun i => ∀ f Y z, PaI v K n Y0 (fun u w => yW v (nA v) 0 u w ∨ yU v K u w ∨ yV v K u w ∨ yF v (min i n) u w) z f Y → RV E (d + 2) 204 317 [(0, .ref 80), (1, .int t), (2, .int up), (3, .int (nI i))] (v_I (v_A v 127 f) 80 73 (bB z)) Q) (fun f Y z H => kk f Y z ?_) (fun i hi ih f Y z H => w_X12_settle_317 ?_) hi
    · rw [Nat.min_eq_right z2] at H
      exact H
    · have e70 : gI (v_I (v_A v 127 f) 80 73 (bB z)) 80 70 = nI N := z1
      rw [e70, nI_leI (by omega) (by omega)]
      refine ⟨fun q => absurd q (by omega), fun _ => ?_⟩
      have hXf : RfX (v_I (v_A v 127 f) 80 73 (bB z)) t up K N n := hX
      refine k_counts hXf hi (fun c1 c2 => ⟨fun q => absurd q nI_01, fun _ => ?_⟩) (fun c1 => ⟨fun _ => ?_, fun q => absurd rfl q⟩)
      · have c2 : gA v 61 i = nI 2 := c2
        obtain ⟨a, ha, ea⟩ := (hkn i c1).1 (Or.inr c2)
        obtain ⟨b, hb, eb⟩ := (hkn i c1).2 c2
        have ea' : gA (v_I (v_A v 127 f) 80 73 (bB z)) 122 i = nI a := by
          show gA v 122 i = nI a
          rw [e122]
          exact ea
        have eb' : gA (v_I (v_A v 127 f) 80 73 (bB z)) 123 i = nI b := by
          show gA v 123 i = nI b
          rw [e123]
          exact eb
        simp (disch := omega) only [nI_clamp, vp_t, true_and, ea', eb', nI_add]
        have hcon : Con v K n a b := Or.inr (Or.inr (Or.inr ⟨i, a, b, c1, c2, ea, eb, ⟨by omega, by omega⟩, rfl, rfl⟩))
        refine k_followS hX hcon H (fun f' Y' z' H' => ih f' Y' z' (H'.imp (fun u w q => ?_)))
        rcases q with q | q | q | ⟨g, a', b', q1, q2, q3, q4, q5, q6, q7⟩
        · exact Or.inl (Or.inl q)
        · exact Or.inl (Or.inr (Or.inl q))
        · exact Or.inl (Or.inr (Or.inr (Or.inl q)))
        · by_cases e : g = i
          · subst e
            rw [ea, nI_eq (by omega) (by omega)] at q3
            rw [eb, nI_eq (by omega) (by omega)] at q4
            exact Or.inr ⟨by omega, by omega⟩
          · exact Or.inl (Or.inr (Or.inr (Or.inr ⟨g, a', b', by omega, q2, q3, q4, q5, q6, q7⟩)))
      · rw [nI_add]
        refine ih f Y z (H.imp (fun u w q => ?_))
        rcases q with q | q | q | ⟨g, a', b', q1, q2, q3⟩
        · exact Or.inl q
        · exact Or.inr (Or.inl q)
        · exact Or.inr (Or.inr (Or.inl q))
        · refine Or.inr (Or.inr (Or.inr ⟨g, a', b', ?_, q2, q3⟩))
          by_cases e : g = i
          · subst e
            exact absurd ⟨by omega, q2⟩ c1
          · omega
  -- the scrawls
  have scr : ∀ s, s ≤ nS v → ∀ f Y z, PaI v K n Y0 (fun u w => yW v (nA v) 0 u w ∨ yU v (min s K) u w ∨ yV v (min s K) u w) z f Y → RV E (d + 2) 204 224 [(0, .ref 80), (1, .int t), (2, .int up), (3, .int (nI s))] (v_I (v_A v 127 f) 80 73 (bB z)) Q := by
    intro s hs
    refine lp_up (n := nS v) (P := fun s => ∀ f Y z, PaI v K n Y0 (fun u w => yW v (nA v) 0 u w ∨ yU v (min s K) u w ∨ yV v (min s K) u w) z f Y → RV E (d + 2) 204 224 [(0, .ref 80), (1, .int t), (2, .int up), (3, .int (nI s))] (v_I (v_A v 127 f) 80 73 (bB z)) Q) (fun f Y z H => w_X12_settle_224 ?_) (fun s hs ih f Y z H => w_X12_settle_224 ?_) hs
    · rw [show gI (v_I (v_A v 127 f) 80 73 (bB z)) 80 50 = nI (nS v) from x1]
      refine ⟨fun _ => facts 0 (Nat.zero_le _) f Y z (H.imp (fun u w q => ?_)), fun q => absurd (nI_le (Nat.le_refl _) (by omega)) q⟩
      rw [Nat.min_eq_right x2]
      rcases q with q | q | q | ⟨g, a, b, q1, _⟩
      · exact Or.inl q
      · exact Or.inr (Or.inl q)
      · exact Or.inr (Or.inr q)
      · omega
    · have e50 : gI (v_I (v_A v 127 f) 80 73 (bB z)) 80 50 = nI (nS v) := x1
      have e103 : gA (v_I (v_A v 127 f) 80 73 (bB z)) 103 = gA v 103 := rfl
      rw [e50, nI_leI (by omega) (by omega)]
      refine ⟨fun q => absurd q (by omega), fun _ => ?_⟩
      by_cases hsK : s < K
      · obtain ⟨a, l, m, ⟨g1, g2, g3⟩, ea, en, el⟩ := hl s hsK
        have ea' : gA (v_I (v_A v 127 f) 80 73 (bB z)) 100 s = nI a := by
          show gA v 100 s = nI a
          rw [e100]
          exact ea
        have el' : gA (v_I (v_A v 127 f) 80 73 (bB z)) 101 s = nI l := by
          show gA v 101 s = nI l
          rw [e101]
          exact el
        simp (disch := omega) only [nI_clamp, vp_t, true_and, e103, ea', el', nI_add]
        refine ⟨fun _ => k_layerVar ?_, fun q => absurd ((x4 s hs).mpr hsK) q⟩
        have hc1 : Con v K n (20 + 4 * a + l) s := Or.inr (Or.inl ⟨s, a, l, hsK, ea, el, ⟨by omega, by omega⟩, rfl, rfl⟩)
        refine k_followS hX hc1 H (fun f1 Y1 z1' H1 => ?_)
        have ea1 : gA (v_I (v_A v 127 f1) 80 73 (bB z1')) 100 s = nI a := ea'
        have el1 : gA (v_I (v_A v 127 f1) 80 73 (bB z1')) 101 s = nI l := el'
        have en1 : gA (v_I (v_A v 127 f1) 80 73 (bB z1')) 92 a = nI m := by
          show gA v 92 a = nI m
          rw [y3]
          exact en
        simp (disch := omega) only [nI_clamp, vp_t, true_and, ea1, el1, nI_add, en1, nI_leI]
        refine ⟨fun hle => ih f1 Y1 z1' (H1.imp (fun u w q => ?_)), fun hnle => k_layerVar ?_⟩
        · rcases q with q | ⟨s', a', l', q1, q2, q3, q4, q5, q6⟩ | ⟨s', a', l', n', q1, q2, q3, q4, q5, q6, q7⟩
          · exact Or.inl (Or.inl q)
          · by_cases e : s' = s
            · subst e
              rw [ea, nI_eq (by omega) (by omega)] at q2
              rw [el, nI_eq (by omega) (by omega)] at q3
              exact Or.inr ⟨by omega, q6⟩
            · exact Or.inl (Or.inr (Or.inl ⟨s', a', l', by omega, q2, q3, q4, q5, q6⟩))
          · by_cases e : s' = s
            · subst e
              exfalso
              rw [ea, nI_eq (by omega) (by omega)] at q2
              rw [el, nI_eq (by omega) (by omega)] at q3
              rw [← q2, en, nI_eq (by omega) (by omega)] at q5
              omega
            · exact Or.inl (Or.inr (Or.inr ⟨s', a', l', n', by omega, q2, q3, q4, q5, q6, q7⟩))
        · have hc2 : Con v K n s (20 + 4 * a + (l + 1)) := Or.inr (Or.inr (Or.inl ⟨s, a, l, m, hsK, ea, el, ⟨by omega, by omega, g2⟩, ⟨g1, en⟩, rfl, rfl⟩))
          refine k_followS hX hc2 H1 (fun f2 Y2 z2' H2 => ih f2 Y2 z2' (H2.imp (fun u w q => ?_)))
          rcases q with q | ⟨s', a', l', q1, q2, q3, q4, q5, q6⟩ | ⟨s', a', l', n', q1, q2, q3, q4, q5, q6, q7⟩
          · exact Or.inl (Or.inl (Or.inl q))
          · by_cases e : s' = s
            · subst e
              rw [ea, nI_eq (by omega) (by omega)] at q2
              rw [el, nI_eq (by omega) (by omega)] at q3
              exact Or.inl (Or.inr ⟨by omega, q6⟩)
            · exact Or.inl (Or.inl (Or.inr (Or.inl ⟨s', a', l', by omega, q2, q3, q4, q5, q6⟩)))
          · by_cases e : s' = s
            · subst e
              rw [ea, nI_eq (by omega) (by omega)] at q2
              rw [el, nI_eq (by omega) (by omega)] at q3
              exact Or.inr ⟨q6, by omega⟩
            · exact Or.inl (Or.inl (Or.inr (Or.inr ⟨s', a', l', n', by omega, q2, q3, q4, q5, q6, q7⟩)))
      · rw [e103, nI_clamp (by omega), nI_add]
        refine ⟨vp_in_nI (by omega) (by decide), fun q => absurd ((x4 s hs).mp q) hsK, fun _ => ih f Y z (H.imp (fun u w q => ?_))⟩
        rw [Nat.min_eq_right (by omega)] at q ⊢
        exact q
  -- the walls
  have walls : ∀ a, a ≤ nA v → ∀ f Y z, PaI v K n Y0 (yW v a 0) z f Y → RV E (d + 2) 204 170 [(0, .ref 80), (1, .int t), (2, .int up), (3, .int (nI a))] (v_I (v_A v 127 f) 80 73 (bB z)) Q := by
    intro a ha
    refine lp_up (n := nA v) (P := fun a => ∀ f Y z, PaI v K n Y0 (yW v a 0) z f Y → RV E (d + 2) 204 170 [(0, .ref 80), (1, .int t), (2, .int up), (3, .int (nI a))] (v_I (v_A v 127 f) 80 73 (bB z)) Q) (fun f Y z H => w_X12_settle_170 ?_) (fun a ha ih f Y z H => w_X12_settle_170 ?_) ha
    · rw [show gI (v_I (v_A v 127 f) 80 73 (bB z)) 80 22 = nI (nA v) from y1]
      refine ⟨fun _ => scr 0 (Nat.zero_le _) f Y z (H.imp (fun u w q => ?_)), fun q => absurd (nI_le (Nat.le_refl _) (by omega)) q⟩
      rcases q with q | ⟨s, a, l, q1, _⟩ | ⟨s, a, l, n, q1, _⟩
      · exact q
      · omega
      · omega
    · rw [show gI (v_I (v_A v 127 f) 80 73 (bB z)) 80 22 = nI (nA v) from y1, nI_leI (by omega) (by omega)]
      refine ⟨fun q => absurd q (by omega), fun _ => ?_⟩
      obtain ⟨m, hm, en⟩ := y4 a
      have inner : ∀ l, 1 ≤ l → l ≤ max m 1 → ∀ f Y z, PaI v K n Y0 (yW v a l) z f Y → RV E (d + 2) 204 181 [(0, .ref 80), (1, .int t), (2, .int up), (3, .int (nI a)), (4, .int (nI l))] (v_I (v_A v 127 f) 80 73 (bB z)) Q := by
        intro l hl1 hl
        refine lp_up (n := max m 1) (P := fun l => 1 ≤ l → ∀ f Y z, PaI v K n Y0 (yW v a l) z f Y → RV E (d + 2) 204 181 [(0, .ref 80), (1, .int t), (2, .int up), (3, .int (nI a)), (4, .int (nI l))] (v_I (v_A v 127 f) 80 73 (bB z)) Q) (fun _ f Y z H => w_X12_settle_181 ?_) (fun l hl ih2 hl1 f Y z H => w_X12_settle_181 ?_) hl hl1
        · have e92 : gA (v_I (v_A v 127 f) 80 73 (bB z)) 92 a = nI m := by
            show gA v 92 a = nI m
            rw [y3]
            exact en
          simp (disch := omega) only [nI_clamp, vp_t, true_and, e92, nI_leI, nI_add]
          refine ⟨fun _ => ih f Y z (H.imp (fun u w q => ?_)), fun q => absurd (by omega) q⟩
          obtain ⟨a', l', n', q1, q2, q3, q4, q5⟩ := q
          refine ⟨a', l', n', ?_, q2, q3, q4, q5⟩
          by_cases e : a' = a
          · subst e
            rw [en, nI_eq (by omega) (by omega)] at q3
            exact Or.inr ⟨rfl, by omega⟩
          · exact Or.inl (by omega)
        · have e92 : gA (v_I (v_A v 127 f) 80 73 (bB z)) 92 a = nI m := by
            show gA v 92 a = nI m
            rw [y3]
            exact en
          simp (disch := omega) only [nI_clamp, vp_t, true_and, e92, nI_leI, nI_add, nI_sub]
          refine ⟨fun q => absurd q (by omega), fun _ => k_layerVar (k_layerVar ?_)⟩
          have hc : Con v K n (20 + 4 * a + (l - 1)) (20 + 4 * a + l) := Or.inl ⟨a, l, m, Or.inl ha, ha, en, ⟨hl1, by omega, hm⟩, rfl, rfl⟩
          refine k_followS hX hc H (fun f1 Y1 z1' H1 => ih2 (by omega) f1 Y1 z1' (H1.imp (fun u w q => ?_)))
          obtain ⟨a', l', n', q1, q2, q3, q4, q5, q6⟩ := q
          by_cases e : a' = a ∧ l' = l
          · obtain ⟨rfl, rfl⟩ := e
            exact Or.inr ⟨q5, q6⟩
          · exact Or.inl ⟨a', l', n', by omega, q2, q3, q4, q5, q6⟩
      refine inner 1 (Nat.le_refl _) (by omega) f Y z (H.imp (fun u w q => ?_))
      obtain ⟨a', l', n', q1, q2, q3, q4, q5⟩ := q
      exact ⟨a', l', n', by omega, q2, q3, q4, q5⟩
  refine walls 0 (Nat.zero_le _) f0 Y0 false (H0.imp (fun u w q => ?_))
  obtain ⟨a', l', n', q1, _⟩ := q
  omega

/-! street, count over J -/
theorem path_0 (ed : Nat → Nat → Nat → Prop) (i : Nat) : path ed i i 0 := ⟨0, rfl, rfl⟩
theorem path_e {ed : Nat → Nat → Nat → Prop} {i m j e c : Nat} (h : ed i m e) (h2 : path ed m j c) : path ed i j (e + c) := by
  obtain ⟨n, h2⟩ := h2
  exact ⟨n + 1, m, e, c, h, h2, rfl⟩
theorem path_t {ed : Nat → Nat → Nat → Prop} {i m j c c' : Nat} (h : path ed i m c) (h2 : path ed m j c') : path ed i j (c + c') := by
  obtain ⟨n, h⟩ := h
  induction n generalizing i c with
  | zero =>
    obtain ⟨rfl, rfl⟩ := h
    rw [Nat.zero_add]
    exact h2
  | succ n ih =>
    obtain ⟨k, e, c'', h3, h4, rfl⟩ := h
    rw [Nat.add_assoc]
    exact path_e h3 (ih h4)
theorem path_up {ed ed' : Nat → Nat → Nat → Prop} (h : ∀ i j e, ed i j e → ed' i j e) {i j c : Nat} (hp : path ed i j c) : path ed' i j c := by
  obtain ⟨n, hp⟩ := hp
  induction n generalizing i c with
  | zero => exact ⟨0, hp⟩
  | succ n ih =>
    obtain ⟨m, e, c', h1, h2, rfl⟩ := hp
    exact path_e (h _ _ _ h1) (ih h2)
theorem k_shorten {E : Nat × (Nat → Int32)} {d : Nat} {v : xV} {a b l : Nat} {X : Nat → Nat → Nat} {Pth : Nat → Nat → Nat → Prop} {Q : xV → Prop} (ha : a < 12) (hb : b < 12) (hl : l ≤ 99) (hX : ∀ i j, i < 12 → j < 12 → gA v 12 (12 * i + j) = nI (X i j) ∧ X i j ≤ 1000000) (hP : ∀ i j, i < 12 → j < 12 → X i j < 1000000 → Pth i j (X i j)) (hc1 : ∀ i j c c', Pth i a c → Pth b j c' → Pth i j (c + l + c')) (hc2 : ∀ i j c c', Pth i b c → Pth a j c' → Pth i j (c + l + c'))
    (kk : ∀ (f : Nat → Int32) (Y : Nat → Nat → Nat), (∀ i j, i < 12 → j < 12 → f (12 * i + j) = nI (Y i j) ∧ (Y i j < 1000000 → Pth i j (Y i j)) ∧ Y i j ≤ X i j ∧ Y i j ≤ X i a + l + X b j ∧ Y i j ≤ X i b + l + X a j) → Q (v_A v 12 f)) : KV E (d + 1) 81 [.ref 11, .int (nI a), .int (nI b), .int (nI l)] v Q := by
  refine KV.of ok_81 (Nat.le_of_ble_eq_true rfl) (w_X9_shorten_0 ?_)
  have loop : ∀ i, i ≤ 12 → ∀ (f : Nat → Int32) (Y : Nat → Nat → Nat), (∀ p q, p < 12 → q < 12 → f (12 * p + q) = nI (Y p q) ∧ (Y p q < 1000000 → Pth p q (Y p q)) ∧ Y p q ≤ X p q) → (∀ p q, p < i → q < 12 → Y p q ≤ X p a + l + X b q ∧ Y p q ≤ X p b + l + X a q) → RV E (d + 1) 81 3 [(0, .ref 11), (1, .int (nI a)), (2, .int (nI b)), (3, .int (nI l)), (4, .int (nI i))] (v_A v 12 f) Q := by
    intro i hi
    refine lp_up (n := 12) (P := fun i => ∀ (f : Nat → Int32) (Y : Nat → Nat → Nat), (∀ p q, p < 12 → q < 12 → f (12 * p + q) = nI (Y p q) ∧ (Y p q < 1000000 → Pth p q (Y p q)) ∧ Y p q ≤ X p q) → (∀ p q, p < i → q < 12 → Y p q ≤ X p a + l + X b q ∧ Y p q ≤ X p b + l + X a q) → RV E (d + 1) 81 3 [(0, .ref 11), (1, .int (nI a)), (2, .int (nI b)), (3, .int (nI l)), (4, .int (nI i))] (v_A v 12 f) Q) (fun f Y h1 h2 => w_X9_shorten_3 ⟨fun _ => kk f Y (fun p q hp hq => ?_), fun h => absurd (by decide) h⟩) (fun i hi ih f Y h1 h2 => w_X9_shorten_3 ⟨fun h => ?_, fun _ => ?_⟩) hi
    · obtain ⟨a1, a2, a3⟩ := h1 p q hp hq
      obtain ⟨a4, a5⟩ := h2 p q hp hq
      exact ⟨a1, a2, a3, a4, a5⟩
    · exfalso
      rw [nI_leI (by decide) (by omega)] at h
      omega
    · have inner : ∀ j, j ≤ 12 → ∀ (f : Nat → Int32) (Y : Nat → Nat → Nat), (∀ p q, p < 12 → q < 12 → f (12 * p + q) = nI (Y p q) ∧ (Y p q < 1000000 → Pth p q (Y p q)) ∧ Y p q ≤ X p q) → (∀ p q, p < i → q < 12 → Y p q ≤ X p a + l + X b q ∧ Y p q ≤ X p b + l + X a q) → (∀ q, q < j → Y i q ≤ X i a + l + X b q ∧ Y i q ≤ X i b + l + X a q) → RV E (d + 1) 81 13 [(0, .ref 11), (1, .int (nI a)), (2, .int (nI b)), (3, .int (nI l)), (4, .int (nI i)), (5, .int (nI j))] (v_A v 12 f) Q := by
        intro j hj
        refine lp_up (n := 12) (P := fun j => ∀ (f : Nat → Int32) (Y : Nat → Nat → Nat), (∀ p q, p < 12 → q < 12 → f (12 * p + q) = nI (Y p q) ∧ (Y p q < 1000000 → Pth p q (Y p q)) ∧ Y p q ≤ X p q) → (∀ p q, p < i → q < 12 → Y p q ≤ X p a + l + X b q ∧ Y p q ≤ X p b + l + X a q) → (∀ q, q < j → Y i q ≤ X i a + l + X b q ∧ Y i q ≤ X i b + l + X a q) → RV E (d + 1) 81 13 [(0, .ref 11), (1, .int (nI a)), (2, .int (nI b)), (3, .int (nI l)), (4, .int (nI i)), (5, .int (nI j))] (v_A v 12 f) Q) (fun f Y h1 h2 h3 => w_X9_shorten_13 ⟨fun _ => ?_, fun h => absurd (by decide) h⟩) (fun j hj ih2 f Y h1 h2 h3 => w_X9_shorten_13 ?_) hj
        · rw [nI_add]
          refine ih f Y h1 (fun p q hp hq => ?_)
          by_cases e : p = i
          · rw [e]
            exact h3 q hq
          · exact h2 p q (by omega) hq
        · obtain ⟨p1, p2, p3⟩ := h1 i a hi ha
          obtain ⟨q1, q2, q3⟩ := h1 b j hb hj
          obtain ⟨r1, r2, r3⟩ := h1 i b hi hb
          obtain ⟨s1, s2, s3⟩ := h1 a j ha hj
          obtain ⟨t1, t2, t3⟩ := h1 i j hi hj
          have x1 := (hX i a hi ha).2
          have x2 := (hX b j hb hj).2
          have x3 := (hX i b hi hb).2
          have x4 := (hX a j ha hj).2
          have x5 := (hX i j hi hj).2
          have p1 : gA (v_A v 12 f) 12 (12 * i + a) = nI (Y i a) := p1
          have q1 : gA (v_A v 12 f) 12 (12 * b + j) = nI (Y b j) := q1
          have r1 : gA (v_A v 12 f) 12 (12 * i + b) = nI (Y i b) := r1
          have s1 : gA (v_A v 12 f) 12 (12 * a + j) = nI (Y a j) := s1
          have t1 : gA (v_A v 12 f) 12 (12 * i + j) = nI (Y i j) := t1
          obtain ⟨m, hm⟩ : ∃ m, m = min (Y i a + l + Y b j) (Y i b + l + Y a j) := ⟨_, rfl⟩
          have em : (if nI (Y i b + l + Y a j) < nI (Y i a + l + Y b j) then nI (Y i b + l + Y a j) else nI (Y i a + l + Y b j)) = nI m := by
            by_cases hlt : Y i b + l + Y a j < Y i a + l + Y b j
            · rw [if_pos ((nI_ltI (by omega) (by omega)).mpr hlt), show m = Y i b + l + Y a j by omega]
            · rw [if_neg (fun z => hlt ((nI_ltI (by omega) (by omega)).mp z)), show m = Y i a + l + Y b j by omega]
          simp (disch := omega) only [pk_mul, nI_add, nI_clamp, vp_t, true_and, forall_eq, Nat.mul_comm i 12, Nat.mul_comm b 12, Nat.mul_comm a 12, p1, q1, r1, s1, t1, em, nI_leI, vA_s]
          refine ⟨fun h => by omega, fun _ => ⟨fun hle => ih2 f Y h1 h2 (fun q hq => ?_), fun hle => ?_⟩⟩
          · by_cases e : q = j
            · rw [e]
              omega
            · exact h3 q (by omega)
          · refine ih2 (upd f (12 * i + j) (nI m)) (fun p q => if p = i ∧ q = j then m else Y p q) (fun p q hp hq => ?_) (fun p q hp hq => ?_) (fun q hq => ?_)
            · show upd f (12 * i + j) (nI m) (12 * p + q) = nI (if p = i ∧ q = j then m else Y p q) ∧ ((if p = i ∧ q = j then m else Y p q) < 1000000 → Pth p q (if p = i ∧ q = j then m else Y p q)) ∧ (if p = i ∧ q = j then m else Y p q) ≤ X p q
              by_cases e : p = i ∧ q = j
              · obtain ⟨rfl, rfl⟩ := e
                rw [if_pos ⟨rfl, rfl⟩, upd_s]
                refine ⟨rfl, fun hlt => ?_, by omega⟩
                by_cases hw : Y p b + l + Y a q < Y p a + l + Y b q
                · rw [show m = Y p b + l + Y a q by omega]
                  exact hc2 p q _ _ (r2 (by omega)) (s2 (by omega))
                · rw [show m = Y p a + l + Y b q by omega]
                  exact hc1 p q _ _ (p2 (by omega)) (q2 (by omega))
              · rw [if_neg e, upd_n _ _ (by omega)]
                exact h1 p q hp hq
            · show (if p = i ∧ q = j then m else Y p q) ≤ _ ∧ (if p = i ∧ q = j then m else Y p q) ≤ _
              rw [if_neg (by omega)]
              exact h2 p q hp hq
            · show (if i = i ∧ q = j then m else Y i q) ≤ _ ∧ (if i = i ∧ q = j then m else Y i q) ≤ _
              by_cases e : q = j
              · subst e
                rw [if_pos ⟨rfl, rfl⟩]
                omega
              · rw [if_neg (fun z => e z.2)]
                exact h3 q (by omega)
      exact inner 0 (Nat.zero_le _) f Y h1 h2 (fun q h => by omega)
  have := loop 0 (Nat.zero_le _) (gA v 12) X (fun p q hp hq => ⟨(hX p q hp hq).1, hP p q hp hq, Nat.le_refl _⟩) (fun p q h => by omega)
  rw [vAself] at this
  exact this
/-- a street more, and the least ways are right again -/
theorem way_more {ed ed' : Nat → Nat → Nat → Prop} {X Y : Nat → Nat → Nat} {a b l : Nat} (ha : a < 12) (hb : b < 12) (hed : ∀ i j e, ed' i j e ↔ ed i j e ∨ (((i = a ∧ j = b) ∨ (i = b ∧ j = a)) ∧ e = l)) (h12 : ∀ i j e, ed i j e → j < 12) (hX0 : ∀ i j, i < 12 → j < 12 → X i j ≤ 1000000) (hX1 : ∀ i j, i < 12 → j < 12 → X i j < 1000000 → path ed i j (X i j)) (hX2 : ∀ i j, i < 12 → j < 12 → ∀ c, path ed i j c → X i j ≤ c) (hY : ∀ i j, i < 12 → j < 12 → Y i j ≤ X i j ∧ Y i j ≤ X i a + l + X b j ∧ Y i j ≤ X i b + l + X a j) : ∀ i j, i < 12 → j < 12 → ∀ c, path ed' i j c → Y i j ≤ c := by
  have x0 : ∀ i, i < 12 → X i i = 0 := fun i hi => by
    have := hX2 i i hi hi 0 (path_0 ed i)
    omega
  have tri : ∀ i m e j, i < 12 → j < 12 → ed i m e → X i j ≤ e + X m j := by
    intro i m e j hi hj he
    have hm := h12 _ _ _ he
    by_cases h : X m j < 1000000
    · exact hX2 i j hi hj _ (path_e he (hX1 m j hm hj h))
    · have := hX0 i j hi hj
      omega
  have main : ∀ n i j c, i < 12 → j < 12 → walkN ed' n i j c → min (X i j) (min (X i a + l + X b j) (X i b + l + X a j)) ≤ c := by
    intro n
    induction n with
    | zero =>
      intro i j c hi hj h
      obtain ⟨rfl, rfl⟩ := h
      have := x0 i hi
      omega
    | succ n ih =>
      intro i j c hi hj h
      obtain ⟨m, e, c', h1, h2, rfl⟩ := h
      rcases (hed i m e).mp h1 with h1 | ⟨h1, rfl⟩
      · have hm := h12 _ _ _ h1
        have := ih m j c' hm hj h2
        have t1 := tri i m e j hi hj h1
        have t2 := tri i m e a hi ha h1
        have t3 := tri i m e b hi hb h1
        omega
      · have xa := x0 a ha
        have xb := x0 b hb
        rcases h1 with ⟨rfl, rfl⟩ | ⟨rfl, rfl⟩
        · have := ih m j c' hb hj h2
          omega
        · have := ih m j c' ha hj h2
          omega
  intro i j hi hj c ⟨n, h⟩
  have := main n i j c hi hj h
  have := hY i j hi hj
  omega
def tGood (n : Nat) (x y z : Int32) : Prop := n < 30 ∧ (nI 0 ≤ x ∧ x < nI 12) ∧ (nI 0 ≤ y ∧ y < nI 12) ∧ ¬ x = y ∧ (nI 1 ≤ z ∧ z ≤ nI 99)
theorem k_streetM {E : Nat × (Nat → Int32)} {d : Nat} {v : xV} {x y z : Int32} {n : Nat} {Q : Int32 → xV → Prop} (hn : gI v 80 21 = nI n) (hn2 : n ≤ 30) (k1 : ¬ tGood n x y z → Q (nI 0) (v_I v 80 0 (nI 0))) (k2 : tGood n x y z → Q (nI 1) (v_I (v_A (v_A (v_A (v_I v 80 0 (nI 0)) 88 (upd (gA v 88) n x)) 89 (upd (gA v 89) n y)) 90 (upd (gA v 90) n z)) 80 21 (nI (n + 1)))) : KI E (d + 1) 159 [.ref 80, .int x, .int y, .int z] v Q := by
  refine KI.of ok_159 (Nat.le_of_ble_eq_true rfl) (w_X12_street_0 ?_)
  rw [hn, nI_eq (by omega) (by decide)]
  refine ⟨fun h => k1 (fun g => by have := g.1; omega), fun h => k_cornM (fun h1 => ⟨fun h => absurd h nI_01, fun _ => k_cornM (fun h2 => ⟨fun h => absurd h nI_01, fun _ => ⟨fun h3 => k1 (fun g => g.2.2.2.1 h3), fun h3 => k_in (fun h4 => ⟨fun _ => ?_, fun h => absurd h nI_01⟩) (fun h4 => ⟨fun h => absurd rfl h, fun _ => k1 (fun g => h4 g.2.2.2.2)⟩)⟩⟩) (fun h2 => ⟨fun _ => k1 (fun g => h2 g.2.2.1), fun h => absurd rfl h⟩)⟩) (fun h1 => ⟨fun _ => k1 (fun g => h1 g.2.1), fun h => absurd rfl h⟩)⟩
  rw [show gI (v_I v 80 0 (nI 0)) 80 21 = nI n from hn, nI_clamp (by omega), nI_add]
  have i := vp_in_nI (show n < 30 by omega) (by decide)
  exact ⟨i, i, i, k2 ⟨by omega, h1, h2, h3, h4⟩⟩
theorem pj_street {E : Nat × (Nat → Int32)} {d : Nat} {c : Nat} {v : xV} {x y z : Int32} (hJ : J c v) : P2 E (d + 3) 118 [.ref 0, .int x, .int y, .int z] 159 [.ref 80, .int x, .int y, .int z] v (J c) := by
  obtain ⟨hI, hH, hK, hO, ⟨⟨t1, t2, t3⟩, hR⟩, hC⟩ := id hJ
  obtain ⟨n, hn, n1, n2⟩ := t1
  have hnT : nT v = n := by
    show (gI v 11 6).toNatClampNeg = n
    rw [n1, nI_clamp (by omega)]
  rw [hnT] at t2 t3
  have v0 : vp_in (nI 0) 2 := vp_in_nI (by decide) (by decide)
  have v1 : vp_in (nI 1) 2 := vp_in_nI (by decide) (by decide)
  have no : ¬ tGood n x y z → vp_in (nI 0) 2 ∧ KI E (d + 3) 159 [.ref 80, .int x, .int y, .int z] v (fun y2 v2 => nI 0 = y2 ∧ J c v2) := fun h => ⟨v0, k_streetM n2 hn (fun _ => ⟨rfl, hJ⟩) (fun g => absurd g h)⟩
  refine KI.of ok_118 (Nat.le_of_ble_eq_true rfl) (w_X11_street_0 (KI.of ok_80 (Nat.le_of_ble_eq_true rfl) (w_X9_addStreet_0 ?_)))
  rw [n1, nI_leI (by decide) (by omega)]
  refine ⟨fun h => no (fun g => by have := g.1; omega), fun h => k_cornX (fun h1 => ⟨fun h => absurd h nI_01, fun _ => k_cornX (fun h2 => ⟨fun h => absurd h nI_01, fun _ => ⟨fun h3 => ⟨fun h4 => no (fun g => absurd g.2.2.2.2.1 (i_nle.mpr h4)), fun h4 => ⟨fun h5 => ?_, fun h5 => no (fun g => h5 g.2.2.2.2.2)⟩⟩, fun h3 => no (fun g => g.2.2.2.1 h3)⟩⟩) (fun h2 => ⟨fun _ => no (fun g => h2 g.2.2.1), fun h => absurd rfl h⟩)⟩) (fun h1 => ⟨fun _ => no (fun g => h1 g.2.1), fun h => absurd rfl h⟩)⟩
  have good : tGood n x y z := ⟨by omega, h1, h2, h3, i_nlt.mp h4, h5⟩
  obtain ⟨a, ha, rfl⟩ := (i_ln (by decide)).mp h1
  obtain ⟨b, hb, rfl⟩ := (i_ln (by decide)).mp h2
  obtain ⟨l, hl1, hl, rfl⟩ := i_btw (by decide) (by decide) (i_nlt.mp h4) h5
  rw [nI_eq (by omega) (by omega)] at h3
  rw [n1, nI_add]
  -- the numbers of the old ways
  obtain ⟨X, hX⟩ : ∃ X : Nat → Nat → Nat, ∀ i j, i < 12 → j < 12 → X i j ≤ 1000000 ∧ gA v 12 (12 * i + j) = nI (X i j) ∧ (X i j < 1000000 → path (edge (gA v 88) (gA v 89) (gA v 90) n) i j (X i j)) ∧ ∀ c, path (edge (gA v 88) (gA v 89) (gA v 90) n) i j c → X i j ≤ c := by
    refine ⟨fun i j => (gA v 12 (12 * i + j)).toNatClampNeg, fun i j hi hj => ?_⟩
    obtain ⟨x, x1, x2, x3, x4⟩ := t3 i j hi hj
    have hcx : (gA v 12 (12 * i + j)).toNatClampNeg = x := by rw [x2, nI_clamp (by omega)]
    show (gA v 12 (12 * i + j)).toNatClampNeg ≤ 1000000 ∧ gA v 12 (12 * i + j) = nI (gA v 12 (12 * i + j)).toNatClampNeg ∧ ((gA v 12 (12 * i + j)).toNatClampNeg < 1000000 → path (edge (gA v 88) (gA v 89) (gA v 90) n) i j (gA v 12 (12 * i + j)).toNatClampNeg) ∧ ∀ c, path (edge (gA v 88) (gA v 89) (gA v 90) n) i j c → (gA v 12 (12 * i + j)).toNatClampNeg ≤ c
    rw [hcx]
    exact ⟨x1, x2, x3, x4⟩
  have old : ∀ i j e, edge (gA v 88) (gA v 89) (gA v 90) n i j e → edge (upd (gA v 88) n (nI a)) (upd (gA v 89) n (nI b)) (upd (gA v 90) n (nI l)) (n + 1) i j e := by
    rintro i j e ⟨k0, k, k1, k2, k3⟩
    refine ⟨k0, k, by omega, ?_, ?_⟩
    · rw [upd_n _ _ (by omega), upd_n _ _ (by omega)]
      exact k2
    · rw [upd_n _ _ (by omega)]
      exact k3
  have new1 : edge (upd (gA v 88) n (nI a)) (upd (gA v 89) n (nI b)) (upd (gA v 90) n (nI l)) (n + 1) a b l := ⟨⟨ha, hb, hl⟩, n, by omega, Or.inl ⟨upd_s _ _ _, upd_s _ _ _⟩, upd_s _ _ _⟩
  have new2 : edge (upd (gA v 88) n (nI a)) (upd (gA v 89) n (nI b)) (upd (gA v 90) n (nI l)) (n + 1) b a l := ⟨⟨hb, ha, hl⟩, n, by omega, Or.inr ⟨upd_s _ _ _, upd_s _ _ _⟩, upd_s _ _ _⟩
  refine k_shorten (v := v_I v 11 6 (nI (n + 1))) (X := X) (Pth := path (edge (upd (gA v 88) n (nI a)) (upd (gA v 89) n (nI b)) (upd (gA v 90) n (nI l)) (n + 1))) ha hb hl (fun i j hi hj => ⟨(hX i j hi hj).2.1, (hX i j hi hj).1⟩) (fun i j hi hj hlt => path_up old ((hX i j hi hj).2.2.1 hlt)) (fun i j c c' p1 p2 => ?_) (fun i j c c' p1 p2 => ?_) (fun f Y hY => ⟨v1, ?_⟩)
  · rw [Nat.add_assoc]
    exact path_t p1 (path_e new1 p2)
  · rw [Nat.add_assoc]
    exact path_t p1 (path_e new2 p2)
  refine k_streetM (v := v_A (v_I v 11 6 (nI (n + 1))) 12 f) (n := n) n2 hn (fun g => absurd good g) (fun _ => ⟨rfl, hI, hH, hK, hO, ⟨⟨⟨n + 1, good.1, rfl, rfl⟩, fun k hk => ?_, fun i j hi hj => ?_⟩, hR⟩, hC⟩)
  · have hk : k < n + 1 := by
      have e : nT (v_I (v_A (v_A (v_A (v_I (v_A (v_I v 11 6 (nI (n + 1))) 12 f) 80 0 (nI 0)) 88 (upd (gA v 88) n (nI a))) 89 (upd (gA v 89) n (nI b))) 90 (upd (gA v 90) n (nI l))) 80 21 (nI (n + 1))) = n + 1 := by
        show (nI (n + 1)).toNatClampNeg = n + 1
        rw [nI_clamp (by omega)]
      rw [← e]
      exact hk
    show isN 12 (upd (gA v 88) n (nI a) k) ∧ isN 12 (upd (gA v 89) n (nI b) k) ∧ ∃ e, (1 ≤ e ∧ e ≤ 99) ∧ upd (gA v 90) n (nI l) k = nI e
    by_cases e : k = n
    · rw [e, upd_s, upd_s, upd_s]
      exact ⟨⟨a, ha, rfl⟩, ⟨b, hb, rfl⟩, l, ⟨hl1, hl⟩, rfl⟩
    · rw [upd_n _ _ e, upd_n _ _ e, upd_n _ _ e]
      exact t2 k (by omega)
  · show ∃ x, x ≤ 1000000 ∧ f (12 * i + j) = nI x ∧ (x < 1000000 → path (edge (upd (gA v 88) n (nI a)) (upd (gA v 89) n (nI b)) (upd (gA v 90) n (nI l)) (nI (n + 1)).toNatClampNeg) i j x) ∧ ∀ c, path (edge (upd (gA v 88) n (nI a)) (upd (gA v 89) n (nI b)) (upd (gA v 90) n (nI l)) (nI (n + 1)).toNatClampNeg) i j c → x ≤ c
    rw [nI_clamp (by omega)]
    obtain ⟨y1, y2, y3, y4, y5⟩ := hY i j hi hj
    have hx := (hX i j hi hj).1
    refine ⟨Y i j, by omega, y1, y2, ?_⟩
    refine way_more (ed := edge (gA v 88) (gA v 89) (gA v 90) n) (X := X) ha hb (l := l) (fun i j e => ⟨fun h => ?_, fun h => ?_⟩) (fun i j e h => h.1.2.1) (fun i j hi hj => (hX i j hi hj).1) (fun i j hi hj => (hX i j hi hj).2.2.1) (fun i j hi hj => (hX i j hi hj).2.2.2) (fun i j hi hj => (hY i j hi hj).2.2) i j hi hj
    · obtain ⟨⟨k1, k2, k3⟩, k, k4, k5, k6⟩ := h
      have k5 : (upd (gA v 88) n (nI a) k = nI i ∧ upd (gA v 89) n (nI b) k = nI j) ∨ (upd (gA v 88) n (nI a) k = nI j ∧ upd (gA v 89) n (nI b) k = nI i) := k5
      have k6 : upd (gA v 90) n (nI l) k = nI e := k6
      by_cases ek : k = n
      · subst ek
        rw [upd_s, upd_s] at k5
        rw [upd_s, nI_eq (by omega) (by omega)] at k6
        refine Or.inr ⟨?_, k6.symm⟩
        rcases k5 with ⟨z1, z2⟩ | ⟨z1, z2⟩
        · rw [nI_eq (by omega) (by omega)] at z1 z2
          exact Or.inl ⟨z1.symm, z2.symm⟩
        · rw [nI_eq (by omega) (by omega)] at z1 z2
          exact Or.inr ⟨z2.symm, z1.symm⟩
      · rw [upd_n _ _ ek, upd_n _ _ ek] at k5
        rw [upd_n _ _ ek] at k6
        exact Or.inl ⟨⟨k1, k2, k3⟩, k, by omega, k5, k6⟩
    · rcases h with h | ⟨⟨rfl, rfl⟩ | ⟨rfl, rfl⟩, rfl⟩
      · exact old i j e h
      · exact new1
      · exact new2
theorem pj_count {E : Nat × (Nat → Int32)} {d : Nat} {c : Nat} {v : xV} {x : Int32} (hJ : J c v) : P2 E d 140 [.ref 0, .int x] 224 [.ref 80, .int x] v (J c) := by
  obtain ⟨hI, hH, hK, hO, hR, -⟩ := id hJ
  refine KI.of ok_140 (Nat.le_of_ble_eq_true rfl) (w_X11_count_0 ⟨fun h => ?_, fun e => ?_, fun e => ?_, fun e => ?_, fun e => ?_, fun e => ?_, fun e => ?_, fun e => ?_, fun e => ?_, fun e => ?_, fun e => ?_, fun e => ?_⟩)
  · have no : ∀ k, k ≤ 10 → x = nI k → False := by
      intro k hk e
      rw [e, nI_toInt (by omega)] at h
      omega
    exact KI.of ok_224 (Nat.le_of_ble_eq_true rfl) (w_X12_count_0 ⟨fun _ => ⟨rfl, hJ⟩, fun e => absurd e (fun z => no 0 (by decide) z), fun e => absurd e (fun z => no 1 (by decide) z), fun e => absurd e (fun z => no 2 (by decide) z), fun e => absurd e (fun z => no 3 (by decide) z), fun e => absurd e (fun z => no 4 (by decide) z), fun e => absurd e (fun z => no 5 (by decide) z), fun e => absurd e (fun z => no 6 (by decide) z), fun e => absurd e (fun z => no 7 (by decide) z), fun e => absurd e (fun z => no 8 (by decide) z), fun e => absurd e (fun z => no 9 (by decide) z), fun e => absurd e (fun z => no 10 (by decide) z)⟩)
  · subst e
    exact KI.of ok_224 (Nat.le_of_ble_eq_true rfl) (w_X12_count_0 ⟨fun h2 => absurd h2 (by decide), fun _ => ⟨hI.D.e, hJ⟩, fun e2 => absurd e2 (by decide), fun e2 => absurd e2 (by decide), fun e2 => absurd e2 (by decide), fun e2 => absurd e2 (by decide), fun e2 => absurd e2 (by decide), fun e2 => absurd e2 (by decide), fun e2 => absurd e2 (by decide), fun e2 => absurd e2 (by decide), fun e2 => absurd e2 (by decide), fun e2 => absurd e2 (by decide)⟩)
  · subst e
    exact KI.of ok_224 (Nat.le_of_ble_eq_true rfl) (w_X12_count_0 ⟨fun h2 => absurd h2 (by decide), fun e2 => absurd e2 (by decide), fun _ => ⟨hI.W.1.e, hJ⟩, fun e2 => absurd e2 (by decide), fun e2 => absurd e2 (by decide), fun e2 => absurd e2 (by decide), fun e2 => absurd e2 (by decide), fun e2 => absurd e2 (by decide), fun e2 => absurd e2 (by decide), fun e2 => absurd e2 (by decide), fun e2 => absurd e2 (by decide), fun e2 => absurd e2 (by decide)⟩)
  · subst e
    exact KI.of ok_224 (Nat.le_of_ble_eq_true rfl) (w_X12_count_0 ⟨fun h2 => absurd h2 (by decide), fun e2 => absurd e2 (by decide), fun e2 => absurd e2 (by decide), fun _ => ⟨hR.1.1.e, hJ⟩, fun e2 => absurd e2 (by decide), fun e2 => absurd e2 (by decide), fun e2 => absurd e2 (by decide), fun e2 => absurd e2 (by decide), fun e2 => absurd e2 (by decide), fun e2 => absurd e2 (by decide), fun e2 => absurd e2 (by decide), fun e2 => absurd e2 (by decide)⟩)
  · subst e
    exact KI.of ok_224 (Nat.le_of_ble_eq_true rfl) (w_X12_count_0 ⟨fun h2 => absurd h2 (by decide), fun e2 => absurd e2 (by decide), fun e2 => absurd e2 (by decide), fun e2 => absurd e2 (by decide), fun _ => ⟨hI.A.1.e, hJ⟩, fun e2 => absurd e2 (by decide), fun e2 => absurd e2 (by decide), fun e2 => absurd e2 (by decide), fun e2 => absurd e2 (by decide), fun e2 => absurd e2 (by decide), fun e2 => absurd e2 (by decide), fun e2 => absurd e2 (by decide)⟩)
  · subst e
    exact KI.of ok_224 (Nat.le_of_ble_eq_true rfl) (w_X12_count_0 ⟨fun h2 => absurd h2 (by decide), fun e2 => absurd e2 (by decide), fun e2 => absurd e2 (by decide), fun e2 => absurd e2 (by decide), fun e2 => absurd e2 (by decide), fun _ => ⟨hR.2.1.e, hJ⟩, fun e2 => absurd e2 (by decide), fun e2 => absurd e2 (by decide), fun e2 => absurd e2 (by decide), fun e2 => absurd e2 (by decide), fun e2 => absurd e2 (by decide), fun e2 => absurd e2 (by decide)⟩)
  · subst e
    exact KI.of ok_224 (Nat.le_of_ble_eq_true rfl) (w_X12_count_0 ⟨fun h2 => absurd h2 (by decide), fun e2 => absurd e2 (by decide), fun e2 => absurd e2 (by decide), fun e2 => absurd e2 (by decide), fun e2 => absurd e2 (by decide), fun e2 => absurd e2 (by decide), fun _ => ⟨hI.S.1.e, hJ⟩, fun e2 => absurd e2 (by decide), fun e2 => absurd e2 (by decide), fun e2 => absurd e2 (by decide), fun e2 => absurd e2 (by decide), fun e2 => absurd e2 (by decide)⟩)
  · subst e
    exact KI.of ok_224 (Nat.le_of_ble_eq_true rfl) (w_X12_count_0 ⟨fun h2 => absurd h2 (by decide), fun e2 => absurd e2 (by decide), fun e2 => absurd e2 (by decide), fun e2 => absurd e2 (by decide), fun e2 => absurd e2 (by decide), fun e2 => absurd e2 (by decide), fun e2 => absurd e2 (by decide), fun _ => ⟨hI.P.1.e, hJ⟩, fun e2 => absurd e2 (by decide), fun e2 => absurd e2 (by decide), fun e2 => absurd e2 (by decide), fun e2 => absurd e2 (by decide)⟩)
  · subst e
    exact KI.of ok_224 (Nat.le_of_ble_eq_true rfl) (w_X12_count_0 ⟨fun h2 => absurd h2 (by decide), fun e2 => absurd e2 (by decide), fun e2 => absurd e2 (by decide), fun e2 => absurd e2 (by decide), fun e2 => absurd e2 (by decide), fun e2 => absurd e2 (by decide), fun e2 => absurd e2 (by decide), fun e2 => absurd e2 (by decide), fun _ => ⟨hI.G.1.e, hJ⟩, fun e2 => absurd e2 (by decide), fun e2 => absurd e2 (by decide), fun e2 => absurd e2 (by decide)⟩)
  · subst e
    exact KI.of ok_224 (Nat.le_of_ble_eq_true rfl) (w_X12_count_0 ⟨fun h2 => absurd h2 (by decide), fun e2 => absurd e2 (by decide), fun e2 => absurd e2 (by decide), fun e2 => absurd e2 (by decide), fun e2 => absurd e2 (by decide), fun e2 => absurd e2 (by decide), fun e2 => absurd e2 (by decide), fun e2 => absurd e2 (by decide), fun e2 => absurd e2 (by decide), fun _ => ⟨hK.1.e, hJ⟩, fun e2 => absurd e2 (by decide), fun e2 => absurd e2 (by decide)⟩)
  · subst e
    exact KI.of ok_224 (Nat.le_of_ble_eq_true rfl) (w_X12_count_0 ⟨fun h2 => absurd h2 (by decide), fun e2 => absurd e2 (by decide), fun e2 => absurd e2 (by decide), fun e2 => absurd e2 (by decide), fun e2 => absurd e2 (by decide), fun e2 => absurd e2 (by decide), fun e2 => absurd e2 (by decide), fun e2 => absurd e2 (by decide), fun e2 => absurd e2 (by decide), fun e2 => absurd e2 (by decide), fun _ => ⟨(show IvD 240 (gI v 1 1) (gI v 80 3) from hI.T.s).e, hJ⟩, fun e2 => absurd e2 (by decide)⟩)
  · subst e
    exact KI.of ok_224 (Nat.le_of_ble_eq_true rfl) (w_X12_count_0 ⟨fun h2 => absurd h2 (by decide), fun e2 => absurd e2 (by decide), fun e2 => absurd e2 (by decide), fun e2 => absurd e2 (by decide), fun e2 => absurd e2 (by decide), fun e2 => absurd e2 (by decide), fun e2 => absurd e2 (by decide), fun e2 => absurd e2 (by decide), fun e2 => absurd e2 (by decide), fun e2 => absurd e2 (by decide), fun e2 => absurd e2 (by decide), fun _ => ⟨hI.2.2.1.1.e, hJ⟩⟩)

/-! the reference: ways measured -/
def MT (ed : Nat → Nat → Nat → Prop) (D : Nat → Nat → Nat) (f : Nat → Int32) : Prop := ∀ i j, i < 12 → j < 12 → f (12 * i + j) = nI (D i j) ∧ D i j ≤ 100000000 ∧ (D i j < 100000000 → path ed i j (D i j))
def upd2 (D : Nat → Nat → Nat) (a b x : Nat) : Nat → Nat → Nat := fun i j => if i = a ∧ j = b then x else D i j
theorem upd2_s (D : Nat → Nat → Nat) (a b x : Nat) : upd2 D a b x a b = x := if_pos ⟨rfl, rfl⟩
theorem upd2_n (D : Nat → Nat → Nat) {a b i j : Nat} (x : Nat) (h : ¬ (i = a ∧ j = b)) : upd2 D a b x i j = D i j := if_neg h
theorem MT.put {ed : Nat → Nat → Nat → Prop} {D : Nat → Nat → Nat} {f : Nat → Int32} {a b x : Nat} (h : MT ed D f) (hb : b < 12) (hx : x ≤ 100000000) (hp : x < 100000000 → path ed a b x) : MT ed (upd2 D a b x) (upd f (12 * a + b) (nI x)) := by
  intro i j hi hj
  rw [upd_i]
  by_cases e : i = a ∧ j = b
  · obtain ⟨e1, e2⟩ := e
    subst e1 e2
    rw [upd2_s, if_pos rfl]
    exact ⟨rfl, hx, hp⟩
  · rw [upd2_n D x e, if_neg (by omega)]
    exact h i j hi hj
def Nw (D : Nat → Nat → Nat) (m i j : Nat) : Nat := if D i j ≤ D i m + D m j then D i j else D i m + D m j
theorem Nw_le (D : Nat → Nat → Nat) (m i j : Nat) : Nw D m i j ≤ D i j ∧ Nw D m i j ≤ D i m + D m j ∧ (Nw D m i j = D i j ∨ Nw D m i j = D i m + D m j) := by
  unfold Nw
  by_cases e : D i j ≤ D i m + D m j
  · rw [if_pos e]
    exact ⟨Nat.le_refl _, e, Or.inl rfl⟩
  · rw [if_neg e]
    exact ⟨by omega, Nat.le_refl _, Or.inr rfl⟩
theorem Nw_l (D : Nat → Nat → Nat) (m i : Nat) : Nw D m i m = D i m := if_pos (by omega)
theorem Nw_r (D : Nat → Nat → Nat) (m j : Nat) : Nw D m m j = D m j := if_pos (by omega)
def Tri (D : Nat → Nat → Nat) (m : Nat) : Prop := ∀ k, k < m → ∀ i j, i < 12 → j < 12 → D i j ≤ D i k + D k j
theorem Tri.more {D : Nat → Nat → Nat} {m : Nat} (h : Tri D m) (hm : m < 12) : Tri (Nw D m) (m + 1) := by
  intro k hk i j hi hj
  have a := Nw_le D m i j
  by_cases e : k = m
  · subst e
    rw [Nw_l, Nw_r]
    exact a.2.1
  · have hkm : k < m := by omega
    have b := Nw_le D m i k
    have c := Nw_le D m k j
    have h1 := h k hkm i j hi hj
    have h2 := h k hkm i m hi hm
    have h3 := h k hkm m j hm hj
    rcases b.2.2 with b | b <;> rcases c.2.2 with c | c <;> omega
theorem way_low {ed : Nat → Nat → Nat → Prop} {D : Nat → Nat → Nat} (he : ∀ i j e, ed i j e → j < 12) (ht : Tri D 12) (h0 : ∀ i, i < 12 → D i i = 0) (hE : ∀ i j e, i < 12 → ed i j e → D i j ≤ e) : ∀ n i j c, i < 12 → walkN ed n i j c → D i j ≤ c
  | 0, i, j, c, hi, h => by
    rw [← h.1, h0 i hi]
    exact Nat.zero_le _
  | n + 1, i, j, c, hi, h => by
    obtain ⟨m, e, c', h1, h2, h3⟩ := h
    have hm := he i m e h1
    have a := way_low he ht h0 hE n m j c' hm h2
    have b := hE i m e hi h1
    by_cases hj : j < 12
    · have := ht m hm i j hi hj
      omega
    · exfalso
      have : ∀ n i j c, i < 12 → walkN ed n i j c → j < 12 := by
        intro n
        induction n with
        | zero => intro i j c hi h; rw [← h.1]; exact hi
        | succ n ih =>
          intro i j c hi h
          obtain ⟨m, e, c', h1, h2, h3⟩ := h
          exact ih m j c' (he i m e h1) h2
      exact hj (this n m j c' hm h2)
theorem k_measure {E : Nat × (Nat → Int32)} {d : Nat} {v : xV} {n : Nat} {ed : Nat → Nat → Nat → Prop} {Q : xV → Prop} (hn : gI v 80 21 = nI n) (hn30 : n ≤ 30) (hed : ed = edge (gA v 88) (gA v 89) (gA v 90) n) (hst : ∀ k, k < n → isN 12 (gA v 88 k) ∧ isN 12 (gA v 89 k) ∧ ∃ e, (1 ≤ e ∧ e ≤ 99) ∧ gA v 90 k = nI e) (kk : ∀ (D : Nat → Nat → Nat) (f : Nat → Int32), (∀ i j, i < 12 → j < 12 → f (12 * i + j) = nI (D i j) ∧ Dok ed 100000000 i j (D i j)) → Q (v_A v 136 f)) : KV E d 222 [.ref 80] v Q := by
  have he := fun i j e h => (edge_e (gA v 88) (gA v 89) (gA v 90) n i j e h).1
  rw [← hed] at he
  -- the last part: by way of m
  have third : ∀ m, m ≤ 12 → ∀ (D : Nat → Nat → Nat) (f : Nat → Int32), MT ed D f → Tri D m → (∀ i, i < 12 → D i i = 0) → (∀ i j e, i < 12 → ed i j e → D i j ≤ e) → RV E d 222 140 [(0, .ref 80), (1, .int (nI m))] (v_A v 136 f) Q := by
    intro m hm
    refine lp_up (n := 12) (P := fun m => ∀ (D : Nat → Nat → Nat) (f : Nat → Int32), MT ed D f → Tri D m → (∀ i, i < 12 → D i i = 0) → (∀ i j e, i < 12 → ed i j e → D i j ≤ e) → RV E d 222 140 [(0, .ref 80), (1, .int (nI m))] (v_A v 136 f) Q) (fun D f h1 h2 h3 h4 => w_X12_measure_140 ⟨fun _ => kk D f (fun i j hi hj => ⟨(h1 i j hi hj).1, (h1 i j hi hj).2.1, (h1 i j hi hj).2.2, fun c ⟨k, hk⟩ => way_low he h2 h3 h4 k i j c hi hk⟩), fun z => absurd (by decide) z⟩) (fun m hm ih D f h1 h2 h3 h4 => w_X12_measure_140 ⟨fun z => ?_, fun _ => ?_⟩) hm
    · exfalso
      rw [nI_leI (by omega) (by omega)] at z
      omega
    · -- rows a, columns b done: Cu a b
      have rows : ∀ a, a ≤ 12 → ∀ (C : Nat → Nat → Nat) (f : Nat → Int32), MT ed C f → (∀ i j, i < 12 → j < 12 → C i j = if i < a then Nw D m i j else D i j) → RV E d 222 148 [(0, .ref 80), (1, .int (nI m)), (2, .int (nI a))] (v_A v 136 f) Q := by
        intro a ha
        refine lp_up (n := 12) (P := fun a => ∀ (C : Nat → Nat → Nat) (f : Nat → Int32), MT ed C f → (∀ i j, i < 12 → j < 12 → C i j = if i < a then Nw D m i j else D i j) → RV E d 222 148 [(0, .ref 80), (1, .int (nI m)), (2, .int (nI a))] (v_A v 136 f) Q) (fun C f g1 g2 => w_X12_measure_148 ⟨fun _ => ?_, fun z => absurd (by decide) z⟩) (fun a ha iha C f g1 g2 => w_X12_measure_148 ⟨fun z => ?_, fun _ => ?_⟩) ha
        · rw [nI_add]
          refine ih (Nw D m) f (fun i j hi hj => ?_) (h2.more hm) (fun i hi => ?_) (fun i j e hi h => ?_)
          · have := g1 i j hi hj
            rw [g2 i j hi hj, if_pos hi] at this
            exact this
          · have := (Nw_le D m i i).1
            have := h3 i hi
            omega
          · have := (Nw_le D m i j).1
            have := h4 i j e hi h
            omega
        · exfalso
          rw [nI_leI (by omega) (by omega)] at z
          omega
        · refine lp_up (n := 12) (P := fun b => ∀ (C : Nat → Nat → Nat) (f : Nat → Int32), MT ed C f → (∀ i j, i < 12 → j < 12 → C i j = if i < a ∨ (i = a ∧ j < b) then Nw D m i j else D i j) → RV E d 222 156 [(0, .ref 80), (1, .int (nI m)), (2, .int (nI a)), (3, .int (nI b))] (v_A v 136 f) Q) (fun C f g1 g2 => w_X12_measure_156 ⟨fun _ => ?_, fun z => absurd (by decide) z⟩) (fun b hb ihb C f g1 g2 => w_X12_measure_156 ⟨fun z => ?_, fun _ => ?_⟩) (Nat.zero_le _) C f g1 (fun i j hi hj => ?_)
          · rw [nI_add]
            refine iha C f g1 (fun i j hi hj => ?_)
            rw [g2 i j hi hj]
            by_cases e : i < a + 1
            · rw [if_pos e, if_pos (by omega)]
            · rw [if_neg e, if_neg (by omega)]
          · exfalso
            rw [nI_leI (by omega) (by omega)] at z
            omega
          · have c1 : C a m = D a m := by
              rw [g2 a m ha hm]
              by_cases e : a < a ∨ (a = a ∧ m < b)
              · rw [if_pos e, Nw_l]
              · rw [if_neg e]
            have c2 : C m b = D m b := by
              rw [g2 m b hm hb]
              by_cases e : m < a ∨ (m = a ∧ b < b)
              · rw [if_pos e, Nw_r]
              · rw [if_neg e]
            have c3 : C a b = D a b := by
              rw [g2 a b ha hb, if_neg (by omega)]
            have m1 := g1 a m ha hm
            have m2 := g1 m b hm hb
            have m3 := g1 a b ha hb
            have hv1 : vp_in (nI (12 * a + m)) 144 := vp_in_nI (by omega) (by decide)
            have hv2 : vp_in (nI (12 * m + b)) 144 := vp_in_nI (by omega) (by decide)
            have hv3 : vp_in (nI (12 * a + b)) 144 := vp_in_nI (by omega) (by decide)
            simp only [pk_mul, nI_add]
            rw [nI_clamp (by omega), nI_clamp (by omega), nI_clamp (by omega), show gA (v_A v 136 f) 136 = f from rfl, m1.1, m2.1, m3.1, nI_add, nI_leI (by omega) (by omega), vA_s, c1, c2, c3]
            rw [c1] at m1
            rw [c2] at m2
            rw [c3] at m3
            refine ⟨hv1, hv2, hv3, fun z => ihb C f g1 (fun i j hi hj => ?_), fun z => ⟨hv1, hv2, hv3, ihb (upd2 C a b (D a m + D m b)) _ (g1.put hb (by omega) (fun q => path_t (m1.2.2 (by omega)) (m2.2.2 (by omega)))) (fun i j hi hj => ?_)⟩⟩
            · rw [g2 i j hi hj]
              by_cases e : i = a ∧ j = b
              · obtain ⟨e1, e2⟩ := e
                subst e1 e2
                rw [if_neg (by omega), if_pos (by omega)]
                exact (if_pos z).symm
              · by_cases e2 : i < a ∨ (i = a ∧ j < b)
                · rw [if_pos e2, if_pos (by omega)]
                · rw [if_neg e2, if_neg (by omega)]
            · by_cases e : i = a ∧ j = b
              · obtain ⟨e1, e2⟩ := e
                subst e1 e2
                rw [upd2_s, if_pos (by omega)]
                exact (if_neg z).symm
              · rw [upd2_n C _ e, g2 i j hi hj]
                by_cases e2 : i < a ∨ (i = a ∧ j < b)
                · rw [if_pos e2, if_pos (by omega)]
                · rw [if_neg e2, if_neg (by omega)]
          · rw [g2 i j hi hj]
            by_cases e : i < a
            · rw [if_pos e, if_pos (by omega)]
            · rw [if_neg e, if_neg (by omega)]
      exact rows 0 (by decide) D f h1 (fun i j hi hj => by rw [if_neg (by omega)])
  -- streets
  have second : ∀ k, k ≤ n → ∀ (D : Nat → Nat → Nat) (f : Nat → Int32), MT ed D f → (∀ i, i < 12 → D i i = 0) → (∀ i j, D i j = D j i) → (∀ k' a b e, k' < k → gA v 88 k' = nI a → gA v 89 k' = nI b → gA v 90 k' = nI e → (a < 12 ∧ b < 12 ∧ e ≤ 99) → D a b ≤ e) → RV E d 222 53 [(0, .ref 80), (1, .int (nI k))] (v_A v 136 f) Q := by
    intro k hk
    refine lp_up (n := n) (P := fun k => ∀ (D : Nat → Nat → Nat) (f : Nat → Int32), MT ed D f → (∀ i, i < 12 → D i i = 0) → (∀ i j, D i j = D j i) → (∀ k' a b e, k' < k → gA v 88 k' = nI a → gA v 89 k' = nI b → gA v 90 k' = nI e → (a < 12 ∧ b < 12 ∧ e ≤ 99) → D a b ≤ e) → RV E d 222 53 [(0, .ref 80), (1, .int (nI k))] (v_A v 136 f) Q) (fun D f h1 h2 h3 h4 => w_X12_measure_53 ⟨fun _ => ?_, fun z => ?_⟩) (fun k hk ih D f h1 h2 h3 h4 => w_X12_measure_53 ⟨fun z => ?_, fun _ => ?_⟩) hk
    · refine third 0 (by decide) D f h1 (fun k hk => absurd hk (Nat.not_lt_zero _)) h2 (fun i j e hi h => ?_)
      rw [hed] at h
      obtain ⟨⟨e1, e2, e3⟩, k, hk, h5, h6⟩ := h
      rcases h5 with ⟨a1, a2⟩ | ⟨a1, a2⟩
      · exact h4 k i j e hk a1 a2 h6 ⟨e1, e2, e3⟩
      · rw [h3 i j]
        exact h4 k j i e hk a1 a2 h6 ⟨e2, e1, e3⟩
    · rw [show gI (v_A v 136 f) 80 21 = nI n from hn] at z
      exact absurd (nI_le (Nat.le_refl _) (by omega)) z
    · exfalso
      rw [show gI (v_A v 136 f) 80 21 = nI n from hn, nI_leI (by omega) (by omega)] at z
      omega
    · obtain ⟨⟨a, ha, ea⟩, ⟨b, hb, eb⟩, e, he1, ee⟩ := hst k hk
      have hv : vp_in (nI k) 30 := vp_in_nI (by omega) (by decide)
      have m1 := h1 a b ha hb
      rw [nI_clamp (by omega), show gA (v_A v 136 f) 88 = gA v 88 from rfl, show gA (v_A v 136 f) 89 = gA v 89 from rfl, show gA (v_A v 136 f) 90 = gA v 90 from rfl, show gA (v_A v 136 f) 136 = f from rfl, ea, eb, ee, nI_add]
      refine ⟨hv, fun y2 hy2 => ⟨hv, fun y4 hy4 => ⟨hv, ?_⟩⟩⟩
      subst hy2 hy4
      have hv1 : vp_in (nI (12 * a + b)) 144 := vp_in_nI (by omega) (by decide)
      have hv2 : vp_in (nI (12 * b + a)) 144 := vp_in_nI (by omega) (by decide)
      simp only [pk_mul, nI_add]
      rw [nI_clamp (by omega), nI_clamp (by omega), m1.1, nI_ltI (by omega) (by omega), vA_s, vA_s]
      have hed1 : ed a b e := by
        rw [hed]
        exact ⟨⟨ha, hb, he1.2⟩, k, hk, Or.inl ⟨ea, eb⟩, ee⟩
      have hed2 : ed b a e := by
        rw [hed]
        exact ⟨⟨hb, ha, he1.2⟩, k, hk, Or.inr ⟨ea, eb⟩, ee⟩
      have p1 : path ed a b e := path_e hed1 (path_0 ed b)
      have p2 : path ed b a e := path_e hed2 (path_0 ed a)
      refine ⟨hv1, fun z => ⟨hv, hv1, hv, hv2, ?_⟩, fun z => ih D f h1 h2 h3 (fun k' a' b' e' hk' q1 q2 q3 q4 => ?_)⟩
      · have hab : a ≠ b := by
          intro q
          subst q
          have := h2 a ha
          omega
        have hg : ∀ i j, upd2 (upd2 D a b e) b a e i j = if (i = a ∧ j = b) ∨ (i = b ∧ j = a) then e else D i j := by
          intro i j
          unfold upd2
          by_cases q1 : i = b ∧ j = a
          · rw [if_pos q1, if_pos (Or.inr q1)]
          · rw [if_neg q1]
            by_cases q2 : i = a ∧ j = b
            · rw [if_pos q2, if_pos (Or.inl q2)]
            · rw [if_neg q2, if_neg (fun q => by rcases q with q | q; exact q2 q; exact q1 q)]
        refine ih (upd2 (upd2 D a b e) b a e) _ ((h1.put hb (by omega) (fun _ => p1)).put ha (by omega) (fun _ => p2)) (fun i hi => ?_) (fun i j => ?_) (fun k' a' b' e' hk' q1 q2 q3 q4 => ?_)
        · rw [hg, if_neg (by omega)]
          exact h2 i hi
        · rw [hg, hg]
          by_cases q : (i = a ∧ j = b) ∨ (i = b ∧ j = a)
          · rw [if_pos q, if_pos (by omega)]
          · rw [if_neg q, if_neg (by omega)]
            exact h3 i j
        · rw [hg]
          by_cases q : (a' = a ∧ b' = b) ∨ (a' = b ∧ b' = a)
          · rw [if_pos q]
            by_cases ek : k' = k
            · subst ek
              rw [ee, nI_inj (by omega) (by omega)] at q3
              omega
            · have h := h4 k' a' b' e' (by omega) q1 q2 q3 q4
              rcases q with ⟨r1, r2⟩ | ⟨r1, r2⟩
              · subst r1 r2
                omega
              · subst r1 r2
                rw [h3] at h
                omega
          · rw [if_neg q]
            by_cases ek : k' = k
            · subst ek
              rw [ea, nI_inj (by omega) (by omega)] at q1
              rw [eb, nI_inj (by omega) (by omega)] at q2
              omega
            · exact h4 k' a' b' e' (by omega) q1 q2 q3 q4
      · by_cases ek : k' = k
        · subst ek
          rw [ea, nI_inj (by omega) (by omega)] at q1
          rw [eb, nI_inj (by omega) (by omega)] at q2
          rw [ee, nI_inj (by omega) (by omega)] at q3
          subst q1 q2 q3
          omega
        · exact h4 k' a' b' e' (by omega) q1 q2 q3 q4
  -- the first part
  refine KV.of ok_222 (Nat.le_of_ble_eq_true rfl) (w_X12_measure_0 ?_)
  have first : ∀ a, a ≤ 12 → ∀ f, (∀ i j, i < a → j < 12 → f (12 * i + j) = nI (if i = j then 0 else 100000000)) → RV E d 222 2 [(0, .ref 80), (1, .int (nI a))] (v_A v 136 f) Q := by
    intro a ha
    refine lp_up (n := 12) (P := fun a => ∀ f, (∀ i j, i < a → j < 12 → f (12 * i + j) = nI (if i = j then 0 else 100000000)) → RV E d 222 2 [(0, .ref 80), (1, .int (nI a))] (v_A v 136 f) Q) (fun f h => w_X12_measure_2 ⟨fun _ => ?_, fun z => absurd (by decide) z⟩) (fun a ha ih f h => w_X12_measure_2 ⟨fun z => ?_, fun _ => ?_⟩) ha
    · refine second 0 (Nat.zero_le _) (fun i j => if i = j then 0 else 100000000) f (fun i j hi hj => ⟨h i j hi hj, ?_, fun q => ?_⟩) (fun i hi => if_pos rfl) (fun i j => ?_) (fun k' a b e hk' => absurd hk' (Nat.not_lt_zero _))
      · show (if i = j then 0 else 100000000) ≤ _
        by_cases e : i = j
        · rw [if_pos e]
          exact Nat.zero_le _
        · rw [if_neg e]
          exact Nat.le_refl _
      · have q : (if i = j then 0 else 100000000) < 100000000 := q
        show path ed i j (if i = j then 0 else 100000000)
        by_cases e : i = j
        · rw [if_pos e, e]
          exact path_0 ed j
        · rw [if_neg e] at q
          exact absurd q (Nat.lt_irrefl _)
      · show (if i = j then 0 else 100000000) = if j = i then 0 else 100000000
        by_cases e : i = j
        · rw [if_pos e, if_pos e.symm]
        · rw [if_neg e, if_neg (fun q => e q.symm)]
    · exfalso
      rw [nI_leI (by omega) (by omega)] at z
      omega
    · refine lp_up (n := 12) (P := fun b => ∀ f, (∀ i j, i < a → j < 12 → f (12 * i + j) = nI (if i = j then 0 else 100000000)) → (∀ j, j < b → f (12 * a + j) = nI (if a = j then 0 else 100000000)) → RV E d 222 10 [(0, .ref 80), (1, .int (nI a)), (2, .int (nI b))] (v_A v 136 f) Q) (fun f h h2 => w_X12_measure_10 ⟨fun _ => ?_, fun z => absurd (by decide) z⟩) (fun b hb ihb f h h2 => w_X12_measure_10 ⟨fun z => ?_, fun _ => ?_⟩) (Nat.zero_le _) f h (fun j hj => absurd hj (Nat.not_lt_zero _))
      · rw [nI_add]
        refine ih f (fun i j hi hj => ?_)
        by_cases e : i = a
        · rw [e]
          exact h2 j hj
        · exact h i j (by omega) hj
      · exfalso
        rw [nI_leI (by omega) (by omega)] at z
        omega
      · have nx : ∀ x, x = (if a = b then 0 else 100000000) → RV E d 222 10 [(0, .ref 80), (1, .int (nI a)), (2, .int (nI (b + 1)))] (v_A v 136 (upd f (12 * a + b) (nI x))) Q := by
          intro x hx
          refine ihb _ (fun i j hi hj => ?_) (fun j hj => ?_)
          · rw [upd_n _ _ (by omega)]
            exact h i j hi hj
          · by_cases e : j = b
            · rw [e, upd_s, hx]
            · rw [upd_n _ _ (by omega)]
              exact h2 j (by omega)
        simp only [pk_mul, nI_add]
        rw [nI_clamp (by omega), nI_inj (by omega) (by omega), vA_s, vA_s, show gA (v_A v 136 f) 136 = f from rfl]
        have hv : vp_in (nI (12 * a + b)) 144 := vp_in_nI (by omega) (by decide)
        exact ⟨fun z => ⟨hv, nx _ (by rw [if_neg z])⟩, fun z => ⟨hv, nx _ (by rw [if_pos z])⟩⟩
  have := first 0 (by decide) (gA v 136) (fun i j hi => absurd hi (Nat.not_lt_zero _))
  rw [vAself] at this
  exact this

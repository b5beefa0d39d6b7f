/-- a layer of a wall that stands -/
def isLay (g : Nat → Int32) (W : Nat) (x y : Int32) : Prop := ∃ w l m, (w < W ∧ m ≤ 4 ∧ l < m) ∧ x = nI w ∧ g w = nI m ∧ y = nI l
theorem k_isLayer {E : Nat × (Nat → Int32)} {d : Nat} {v : xV} {x y : Int32} {W : Nat} {Q : Int32 → xV → Prop} (hW : gI v 11 7 = nI W) (hW2 : W ≤ 8) (hg : ∀ i, ∃ n, n ≤ 4 ∧ gA v 14 i = nI n) (k1 : isLay (gA v 14) W x y → Q (nI 1) v) (k2 : ¬ isLay (gA v 14) W x y → Q (nI 0) v) : KI E d 83 [.ref 11, .int x, .int y] v Q := by
  refine KI.of ok_83 (Nat.le_of_ble_eq_true rfl) (w_X9_isLayer_0 ⟨fun h => k2 (fun ⟨w, l, m, q1, q2, q3, q4⟩ => ?_), fun h => ?_⟩)
  · rw [q2] at h
    exact nz_lt (by omega) h
  · obtain ⟨w, hw, rfl⟩ := nI_of h
    rw [hW, nI_leI (by omega) hw, nI_clamp hw]
    obtain ⟨m, hm, em⟩ := hg w
    refine ⟨fun h3 => k2 (fun ⟨w', l, m, q1, q2, q3, q4⟩ => ?_), fun h3 => ⟨fun h4 => k2 (fun ⟨w', l, m, q1, q2, q3, q4⟩ => ?_), fun h4 => ⟨vp_in_nI (by omega) (by decide), ?_⟩⟩⟩
    · rw [nI_inj hw (by omega)] at q2
      omega
    · rw [q4] at h4
      exact nz_lt (by omega) h4
    · obtain ⟨l, hl, rfl⟩ := nI_of h4
      rw [em, nI_leI (by omega) hl]
      refine ⟨fun h5 => k2 (fun ⟨w', l', m', q1, q2, q3, q4⟩ => ?_), fun h5 => k1 ⟨w, l, m, by omega, rfl, em, rfl⟩⟩
      rw [nI_inj hw (by omega)] at q2
      subst q2
      rw [em, nI_inj (by omega) (by omega)] at q3
      rw [nI_inj hl (by omega)] at q4
      omega
def sGood (g : Nat → Int32) (W S : Nat) (x y z : Int32) : Prop := isLay g W x y ∧ S < 20 ∧ (nI 1 ≤ z ∧ z ≤ nI 24)
theorem k_scrawlX {E : Nat × (Nat → Int32)} {d : Nat} {v : xV} {x y z : Int32} {W S : Nat} {Q : Int32 → xV → Prop} (hW : gI v 11 7 = nI W) (hW2 : W ≤ 8) (hg : ∀ i, ∃ n, n ≤ 4 ∧ gA v 14 i = nI n) (hS : gI v 25 12 = nI S) (hS2 : S ≤ 20)
    (k1 : ¬ sGood (gA v 14) W S x y z → Q (-1) v) (k2 : sGood (gA v 14) W S x y z → Q (nI S) (v_I (v_A (v_A (v_A (v_A v 26 (upd (gA v 26) S x)) 27 (upd (gA v 27) S y)) 28 (upd (gA v 28) S z)) 29 (upd (gA v 29) S (gI v 0 13))) 25 12 (nI (S + 1)))) : KI E (d + 1) 123 [.ref 0, .int x, .int y, .int z] v Q := by
  refine KI.of ok_123 (Nat.le_of_ble_eq_true rfl) (w_X11_scrawl_0 (k_isLayer hW hW2 hg (fun hl => ⟨fun _ => KI.of ok_4 (Nat.le_of_ble_eq_true rfl) (w_X1_addScrawl_0 ?_), fun h0 => absurd h0 nI_01⟩) (fun hl => ⟨fun h0 => absurd rfl h0, fun _ => k1 (fun g => hl g.1)⟩)))
  rw [hS, nI_leI (by decide) (by omega)]
  refine ⟨fun h => k1 (fun g => by have := g.2.1; omega), fun h => ⟨fun h3 => k1 (fun g => absurd g.2.2.1 (i_nle.mpr h3)), fun h3 => ⟨fun h4 => ?_, fun h4 => k1 (fun g => h4 g.2.2.2)⟩⟩⟩
  rw [nI_add, nI_sub (by omega), Nat.add_sub_cancel, nI_clamp (by omega)]
  have hi : vp_in (nI S) 20 := vp_in_nI (by omega) (by decide)
  exact ⟨hi, hi, hi, hi, k2 ⟨hl, by omega, i_nlt.mp h3, h4⟩⟩
theorem i_btwm {x : Int32} {N : Nat} (hN : N < 2 ^ 31) : (nI 0 ≤ x ∧ x ≤ nI N - nI 1) ↔ ∃ n, n < N ∧ x = nI n := by
  cases N with
  | zero =>
    constructor
    · rintro ⟨h1, h2⟩
      exfalso
      rw [Int32.le_iff_toInt_le] at h1 h2
      rw [show (nI 0).toInt = 0 from by decide] at h1
      rw [show (nI 0 - nI 1).toInt = -1 from by decide] at h2
      omega
    · rintro ⟨n, h, _⟩
      omega
  | succ N =>
    rw [nI_sub (by omega), Nat.add_sub_cancel]
    constructor
    · rintro ⟨h1, h2⟩
      obtain ⟨n, _, h, e⟩ := i_btw (by omega) (by decide) h1 h2
      exact ⟨n, by omega, e⟩
    · rintro ⟨n, h, rfl⟩
      exact ⟨nz_le (by omega), (nI_leI (by omega) (by omega)).mpr (by omega)⟩
theorem k_scrawlM {E : Nat × (Nat → Int32)} {d : Nat} {v : xV} {x y z : Int32} {W S : Nat} {Q : Int32 → xV → Prop} (hW : gI v 80 22 = nI W) (hW2 : W ≤ 8) (hg : ∀ i, ∃ n, n ≤ 4 ∧ gA v 92 i = nI n) (hS : gI v 80 50 = nI S) (hS2 : S ≤ 20)
    (k1 : ¬ sGood (gA v 92) W S x y z → Q (-1) (v_I v 80 0 (nI 0))) (k2 : sGood (gA v 92) W S x y z → Q (nI S) (v_I (v_I (v_A (v_A (v_A (v_A (v_I v 80 0 (nI 0)) 100 (upd (gA v 100) S x)) 101 (upd (gA v 101) S y)) 102 (upd (gA v 102) S z)) 103 (upd (gA v 103) S (gI v 80 5))) 80 50 (nI (S + 1))) 80 6 (gI v 80 6 + nI 1))) : KI E (d + 1) 171 [.ref 80, .int x, .int y, .int z] v Q := by
  refine KI.of ok_171 (Nat.le_of_ble_eq_true rfl) (w_X12_scrawl_0 ?_)
  rw [hS, nI_inj (by omega) (by decide), hW]
  refine ⟨fun h => k1 (fun g => by have := g.2.1; omega), fun h => k_in (fun hx => ⟨fun h0 => absurd h0 nI_01, fun _ => ?_⟩) (fun hx => ⟨fun _ => k1 (fun g => ?_), fun h0 => absurd rfl h0⟩)⟩
  · obtain ⟨w, hw, rfl⟩ := (i_btwm (by omega)).mp hx
    obtain ⟨m, hm, em⟩ := hg w
    rw [nI_clamp (by omega), show gA (v_I v 80 0 (nI 0)) 92 w = nI m from em]
    refine ⟨vp_in_nI (by omega) (by decide), k_in (fun hy => ⟨fun h0 => absurd h0 nI_01, fun _ => k_in (fun hz => ⟨fun _ => ?_, fun h0 => absurd h0 nI_01⟩) (fun hz => ⟨fun h0 => absurd rfl h0, fun _ => k1 (fun g => hz g.2.2)⟩)⟩) (fun hy => ⟨fun _ => k1 (fun g => ?_), fun h0 => absurd rfl h0⟩)⟩
    · rw [show gI (v_I v 80 0 (nI 0)) 80 50 = nI S from hS, nI_add, nI_sub (by omega), Nat.add_sub_cancel, nI_clamp (by omega)]
      have hi : vp_in (nI S) 20 := vp_in_nI (by omega) (by decide)
      obtain ⟨l, hl, rfl⟩ := (i_btwm (by omega)).mp hy
      exact ⟨hi, hi, hi, hi, k2 ⟨⟨w, l, m, by omega, rfl, em, rfl⟩, by omega, hz⟩⟩
    · obtain ⟨w', l', m', q1, q2, q3, q4⟩ := g.1
      rw [nI_inj (by omega) (by omega)] at q2
      subst q2
      rw [em, nI_inj (by omega) (by omega)] at q3
      exact hy ((i_btwm (by omega)).mpr ⟨l', by omega, q4⟩)
  · obtain ⟨w', l', m', q1, q2, q3, q4⟩ := g.1
    exact hx ((i_btwm (by omega)).mpr ⟨w', q1.1, q2⟩)
theorem p_scrawl {E : Nat × (Nat → Int32)} {d c : Nat} {v : xV} {x y z : Int32} (hI : Inv c v) : P2 E (d + 1) 123 [.ref 0, .int x, .int y, .int z] 171 [.ref 80, .int x, .int y, .int z] v (Inv c) := by
  obtain ⟨⟨W, hW, w1, w2⟩, ⟨e1, e2⟩, hf, hg⟩ := hI.A
  obtain ⟨⟨S, hS, s1, s2⟩, ⟨f1, f2, f3, f4⟩, b1, b2, b3, b4⟩ := hI.S
  obtain ⟨t, ht, t1, t2⟩ := hI.D
  have hg' : ∀ i, ∃ n, n ≤ 4 ∧ gA v 92 i = nI n := by rw [← e2]; exact hg
  refine k_scrawlX w1 hW hg s1 hS (fun h => k_scrawlM (W := W) (S := S) w2 hW hg' s2 hS (fun _ => ⟨rfl, hI⟩) (fun q => ?_)) (fun h => k_scrawlM (W := W) (S := S) w2 hW hg' s2 hS (fun q => ?_) (fun _ => ⟨rfl, hI.1, hI.2.1, hI.2.2.1, hI.2.2.2.1, hI.2.2.2.2.1, hI.2.2.2.2.2.1, ⟨⟨S + 1, h.2.1, rfl, rfl⟩, ⟨?_, ?_, ?_, ?_⟩, ?_, ?_, ?_, ?_⟩, hI.2.2.2.2.2.2.2⟩))
  · rw [← e2] at q
    exact absurd q h
  · have q : ¬ sGood (gA v 92) W S x y z := q
    rw [← e2] at q
    exact absurd h q
  · show upd (gA v 26) S x = upd (gA v 100) S x
    rw [f1]
  · show upd (gA v 27) S y = upd (gA v 101) S y
    rw [f2]
  · show upd (gA v 28) S z = upd (gA v 102) S z
    rw [f3]
  · show upd (gA v 29) S (gI v 0 13) = upd (gA v 103) S (gI v 80 5)
    rw [f4, t1, t2]
  · obtain ⟨w, l, m, q1, rfl, q3, q4⟩ := h.1
    exact l_upd b1 S (by omega)
  · obtain ⟨w, l, m, q1, q2, q3, rfl⟩ := h.1
    exact l_upd b2 S (by omega)
  · obtain ⟨n, _, hn, rfl⟩ := i_btw (by decide) (by decide) h.2.2.1 h.2.2.2
    exact n_upd b3 S hn
  · show ∀ i, ∃ n, n ≤ 999 ∧ upd (gA v 29) S (gI v 0 13) i = nI n
    rw [t1]
    exact n_upd b4 S ht

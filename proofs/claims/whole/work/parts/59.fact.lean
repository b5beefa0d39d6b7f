/-! facts -/
def isN (N : Nat) (x : Int32) : Prop := ∃ n, n < N ∧ x = nI n
def isSo (So : Nat → Int32) (W k : Nat) (x : Int32) : Prop := ∃ n, n < W ∧ x = nI n ∧ So n = nI k
/-- what a fact may be about -/
def fAb (g So : Nat → Int32) (W S N : Nat) (x a b : Int32) : Prop := (x = nI 0 ∧ isLay g W a b) ∨ (x = nI 1 ∧ isN S a) ∨ (x = nI 2 ∧ isN S a ∧ isN S b ∧ ¬ a = b) ∨ (x = nI 3 ∧ isSo So N 0 a ∧ isSo So N 2 b) ∨ (x = nI 4 ∧ isSo So N 3 a)
def fYr (x y z : Int32) : Prop := x = nI 2 ∨ (x = nI 3 ∧ isN 200 y) ∨ (¬ x = nI 2 ∧ ¬ x = nI 3 ∧ nI 0 ≤ y ∧ y ≤ z ∧ z < nI 200)
theorem k_sortX {E : Nat × (Nat → Int32)} {d : Nat} {v : xV} {x : Int32} {N k : Nat} {Q : Int32 → xV → Prop} (hN : gI v 3 7 = nI N) (hN2 : N ≤ 80) (k1 : isSo (gA v 8) N k x → Q (nI 1) v) (k2 : ¬ isSo (gA v 8) N k x → Q (nI 0) v) : KI E d 31 [.ref 3, .int x, .int (nI k)] v Q := by
  refine KI.of ok_31 (Nat.le_of_ble_eq_true rfl) (w_X3_isOfSort_0 ⟨fun h => k2 (fun ⟨n, h1, h2, _⟩ => ?_), fun h => ?_⟩)
  · rw [h2] at h
    exact nz_lt (by omega) h
  · obtain ⟨n, hn, rfl⟩ := nI_of h
    rw [hN, nI_leI (by omega) hn, nI_clamp hn]
    refine ⟨fun h2 => k2 (fun ⟨n', h1, h3, _⟩ => ?_), fun h2 => ⟨vp_in_nI (by omega) (by decide), fun h3 => k2 (fun ⟨n', h1, h4, h5⟩ => h3 ?_), fun h3 => k1 ⟨n, by omega, rfl, h3⟩⟩⟩
    · rw [nI_eq hn (by omega)] at h3
      omega
    · rw [nI_eq hn (by omega)] at h4
      rw [h4]
      exact h5
theorem k_sortM {E : Nat × (Nat → Int32)} {d : Nat} {v : xV} {x : Int32} {N k : Nat} {Q : Int32 → xV → Prop} (hN : gI v 80 20 = nI N) (hN2 : N ≤ 80) (k1 : isSo (gA v 87) N k x → Q (nI 1) v) (k2 : ¬ isSo (gA v 87) N k x → Q (nI 0) v) : KI E d 196 [.ref 80, .int x, .int (nI k)] v Q := by
  refine KI.of ok_196 (Nat.le_of_ble_eq_true rfl) (w_X12_isWordOf_0 ⟨fun h => k2 (fun ⟨n, h1, h2, _⟩ => ?_), fun h => ?_⟩)
  · rw [h2] at h
    exact nz_lt (by omega) h
  · obtain ⟨n, hn, rfl⟩ := nI_of h
    rw [hN, nI_leI (by omega) hn, nI_clamp hn]
    refine ⟨fun h2 => k2 (fun ⟨n', h1, h3, _⟩ => ?_), fun h2 => ⟨vp_in_nI (by omega) (by decide), fun h3 => k2 (fun ⟨n', h1, h4, h5⟩ => h3 ?_), fun h3 => k1 ⟨n, by omega, rfl, h3⟩⟩⟩
    · rw [nI_eq hn (by omega)] at h3
      omega
    · rw [nI_eq hn (by omega)] at h4
      rw [h4]
      exact h5
theorem fAb.t0 {g So : Nat → Int32} {W S N : Nat} {a b : Int32} : fAb g So W S N (nI 0) a b ↔ isLay g W a b := by
  unfold fAb
  have e1 : ¬ nI 0 = nI 1 := by decide
  have e2 : ¬ nI 0 = nI 2 := by decide
  have e3 : ¬ nI 0 = nI 3 := by decide
  have e4 : ¬ nI 0 = nI 4 := by decide
  simp [e1, e2, e3, e4]
theorem fAb.t1 {g So : Nat → Int32} {W S N : Nat} {a b : Int32} : fAb g So W S N (nI 1) a b ↔ isN S a := by
  unfold fAb
  have e1 : ¬ nI 1 = nI 0 := by decide
  have e2 : ¬ nI 1 = nI 2 := by decide
  have e3 : ¬ nI 1 = nI 3 := by decide
  have e4 : ¬ nI 1 = nI 4 := by decide
  simp [e1, e2, e3, e4]
theorem fAb.t2 {g So : Nat → Int32} {W S N : Nat} {a b : Int32} : fAb g So W S N (nI 2) a b ↔ isN S a ∧ isN S b ∧ ¬ a = b := by
  unfold fAb
  have e1 : ¬ nI 2 = nI 0 := by decide
  have e2 : ¬ nI 2 = nI 1 := by decide
  have e3 : ¬ nI 2 = nI 3 := by decide
  have e4 : ¬ nI 2 = nI 4 := by decide
  simp [e1, e2, e3, e4]
theorem fAb.t3 {g So : Nat → Int32} {W S N : Nat} {a b : Int32} : fAb g So W S N (nI 3) a b ↔ isSo So N 0 a ∧ isSo So N 2 b := by
  unfold fAb
  have e1 : ¬ nI 3 = nI 0 := by decide
  have e2 : ¬ nI 3 = nI 1 := by decide
  have e3 : ¬ nI 3 = nI 2 := by decide
  have e4 : ¬ nI 3 = nI 4 := by decide
  simp [e1, e2, e3, e4]
theorem fAb.t4 {g So : Nat → Int32} {W S N : Nat} {a b : Int32} : fAb g So W S N (nI 4) a b ↔ isSo So N 3 a := by
  unfold fAb
  have e1 : ¬ nI 4 = nI 0 := by decide
  have e2 : ¬ nI 4 = nI 1 := by decide
  have e3 : ¬ nI 4 = nI 2 := by decide
  have e4 : ¬ nI 4 = nI 3 := by decide
  simp [e1, e2, e3, e4]
theorem fAb.k {g So : Nat → Int32} {W S N : Nat} {x a b : Int32} (h : fAb g So W S N x a b) : ∃ k, k ≤ 4 ∧ x = nI k := by
  rcases h with h | h | h | h | h
  · exact ⟨0, by omega, h.1⟩
  · exact ⟨1, by omega, h.1⟩
  · exact ⟨2, by omega, h.1⟩
  · exact ⟨3, by omega, h.1⟩
  · exact ⟨4, by omega, h.1⟩
theorem k_aboutX {E : Nat × (Nat → Int32)} {d : Nat} {v : xV} {x a b : Int32} {W S N : Nat} {Q : Int32 → xV → Prop} (hW : gI v 11 7 = nI W) (hW2 : W ≤ 8) (hg : ∀ i, ∃ n, n ≤ 4 ∧ gA v 14 i = nI n) (hS : gI v 25 12 = nI S) (hS2 : S ≤ 20) (hN : gI v 3 7 = nI N) (hN2 : N ≤ 80)
    (k1 : fAb (gA v 14) (gA v 8) W S N x a b → Q (nI 1) v) (k2 : ¬ fAb (gA v 14) (gA v 8) W S N x a b → Q (nI 0) v) : KI E (d + 1) 141 [.ref 0, .int x, .int a, .int b] v Q := by
  have i1 : vp_in (nI 1) 2 := vp_in_nI (by decide) (by decide)
  have i0 : vp_in (nI 0) 2 := vp_in_nI (by decide) (by decide)
  refine KI.of ok_141 (Nat.le_of_ble_eq_true rfl) (w_X11_isAbout_0 ⟨fun h => k2 (fun g => ?_), fun e => ?_, fun e => ?_, fun e => ?_, fun e => ?_, fun e => ?_⟩)
  · obtain ⟨k, hk, e⟩ := g.k
    rw [e, nI_toInt (by omega)] at h
    omega
  · subst e
    rw [fAb.t0] at k1 k2
    exact k_isLayer hW hW2 hg (fun h => ⟨i1, k1 h⟩) (fun h => ⟨i0, k2 h⟩)
  · subst e
    rw [fAb.t1] at k1 k2
    exact k_isScrX hS hS2 (fun w h e => ⟨i1, k1 ⟨w, h, e⟩⟩) (fun h => ⟨i0, k2 h⟩)
  · subst e
    rw [fAb.t2] at k1 k2
    exact k_isScrX hS hS2 (fun w h e => ⟨fun h => absurd h nI_01, fun _ => k_isScrX hS hS2 (fun w' h' e' => ⟨fun h => absurd h nI_01, fun _ => ⟨fun q => k2 (fun g => g.2.2 q), fun q => k1 ⟨⟨w, h, e⟩, ⟨w', h', e'⟩, q⟩⟩⟩) (fun h => ⟨fun _ => k2 (fun g => h g.2.1), fun h => absurd rfl h⟩)⟩) (fun h => ⟨fun _ => k2 (fun g => h g.1), fun h => absurd rfl h⟩)
  · subst e
    rw [fAb.t3] at k1 k2
    exact k_sortX hN hN2 (fun h1 => ⟨fun h => absurd h nI_01, fun _ => k_sortX hN hN2 (fun h2 => ⟨fun h => absurd h nI_01, fun _ => k1 ⟨h1, h2⟩⟩) (fun h => ⟨fun _ => k2 (fun g => h g.2), fun h => absurd rfl h⟩)⟩) (fun h => ⟨fun _ => k2 (fun g => h g.1), fun h => absurd rfl h⟩)
  · subst e
    rw [fAb.t4] at k1 k2
    exact k_sortX hN hN2 (fun h => ⟨i1, k1 h⟩) (fun h => ⟨i0, k2 h⟩)
theorem k_yearsX {E : Nat × (Nat → Int32)} {d : Nat} {v : xV} {x y z : Int32} {Q : Int32 → xV → Prop} (k1 : fYr x y z → Q (nI 1) v) (k2 : ¬ fYr x y z → Q (nI 0) v) : KI E d 142 [.int x, .int y, .int z] v Q := by
  have e32 : ¬ nI 3 = nI 2 := by decide
  refine KI.of ok_142 (Nat.le_of_ble_eq_true rfl) (w_X11_areYears_0 ⟨fun h2 => ⟨fun h3 => ⟨fun h => k2 ?_, fun h => ⟨fun h' => k2 ?_, fun h' => ⟨fun h'' => k2 ?_, fun h'' => k1 (Or.inr (Or.inr ⟨h2, h3, i_nlt.mp h, i_nlt.mp h', i_nle.mp h''⟩))⟩⟩⟩, fun h3 => ⟨fun h => k2 ?_, fun h => ⟨fun h' => k2 ?_, fun h' => k1 (Or.inr (Or.inl ⟨h3, (i_ln (by decide)).mp ⟨i_nlt.mp h, i_nle.mp h'⟩⟩))⟩⟩⟩, fun h2 => k1 (Or.inl h2)⟩)
  · rintro (g | g | g)
    · exact h2 g
    · exact h3 g.1
    · exact absurd g.2.2.1 (i_nle.mpr h)
  · rintro (g | g | g)
    · exact h2 g
    · exact h3 g.1
    · exact absurd g.2.2.2.1 (i_nle.mpr h')
  · rintro (g | g | g)
    · exact h2 g
    · exact h3 g.1
    · exact absurd g.2.2.2.2 (i_nlt.mpr h'')
  · rintro (g | g | g)
    · exact h2 g
    · exact absurd ((i_ln (by decide)).mpr g.2).1 (i_nle.mpr h)
    · exact g.2.1 h3
  · rintro (g | g | g)
    · exact h2 g
    · exact absurd ((i_ln (by decide)).mpr g.2).2 (i_nlt.mpr h')
    · exact g.2.1 h3
def fput (v : xV) (j F : Nat) (x a b y z t : Int32) : xV := v_A (v_A (v_A (v_A (v_A (v_A v j (upd (gA v j) F x)) (j + 1) (upd (gA v (j + 1)) F a)) (j + 2) (upd (gA v (j + 2)) F b)) (j + 3) (upd (gA v (j + 3)) F y)) (j + 4) (upd (gA v (j + 4)) F z)) (j + 5) (upd (gA v (j + 5)) F t)
theorem k_factX {E : Nat × (Nat → Int32)} {d : Nat} {v : xV} {x a b y z : Int32} {W S N F : Nat} {Q : Int32 → xV → Prop} (hW : gI v 11 7 = nI W) (hW2 : W ≤ 8) (hg : ∀ i, ∃ n, n ≤ 4 ∧ gA v 14 i = nI n) (hS : gI v 25 12 = nI S) (hS2 : S ≤ 20) (hN : gI v 3 7 = nI N) (hN2 : N ≤ 80) (hF : gI v 60 6 = nI F) (hF2 : F ≤ 80)
    (k1 : ¬ fAb (gA v 14) (gA v 8) W S N x a b → Q (-2) v) (k2 : fAb (gA v 14) (gA v 8) W S N x a b → ¬ fYr x y z → Q (-3) v) (k3 : fAb (gA v 14) (gA v 8) W S N x a b → fYr x y z → F = 80 → Q (-4) v)
    (k4 : fAb (gA v 14) (gA v 8) W S N x a b → fYr x y z → F < 80 → Q (nI F) (v_I (fput v 61 F x a b y z (gI v 0 13)) 60 6 (nI (F + 1)))) : KI E (d + 2) 133 [.ref 0, .int x, .int a, .int b, .int y, .int z] v Q := by
  refine KI.of ok_133 (Nat.le_of_ble_eq_true rfl) (w_X11_fact_0 (k_aboutX hW hW2 hg hS hS2 hN hN2 (fun h1 => ⟨fun _ => k_yearsX (fun h2 => ⟨fun _ => ?_, fun h => absurd h nI_01⟩) (fun h2 => ⟨fun h => absurd rfl h, fun _ => k2 h1 h2⟩), fun h => absurd h nI_01⟩) (fun h1 => ⟨fun h => absurd rfl h, fun _ => k1 h1⟩)))
  rw [hF, nI_ltI (by omega) (by decide)]
  refine ⟨fun h => KI.of ok_1 (Nat.le_of_ble_eq_true rfl) (w_X0_add_0 ?_), fun h => k3 h1 h2 (by omega)⟩
  rw [hF, nI_ltI (by omega) (by decide), nI_add, nI_sub (by omega), Nat.add_sub_cancel, nI_clamp (by omega)]
  have i := vp_in_nI h (by decide)
  exact ⟨fun _ => ⟨i, i, i, i, i, i, k4 h1 h2 h⟩, fun h' => absurd h h'⟩
theorem f_yt {E : Nat × (Nat → Int32)} {d : Nat} {x y z : Int32} {v : xV} {A B : xV → Prop} (k1 : fYr x y z → A v) (k2 : ¬ fYr x y z → B v) :
    ((¬ x = nI 3 → ((x = nI 2 → A v) ∧ (¬ x = nI 2 → ((y < nI 0 → B v) ∧ (¬ y < nI 0 → ((z < y → B v) ∧ (¬ z < y → ((z < nI 200 → A v) ∧ (¬ z < nI 200 → B v))))))))) ∧ (x = nI 3 → KI E d 152 [.int y, .int (nI 0), .int (nI 199)] v (fun y2 v1 => ((¬ y2 = nI 0 → A v1) ∧ (y2 = nI 0 → B v1))))) := by
  have e32 : ¬ nI 3 = nI 2 := by decide
  refine ⟨fun h3 => ⟨fun h2 => k1 (Or.inl h2), fun h2 => ⟨fun h => k2 ?_, fun h => ⟨fun h' => k2 ?_, fun h' => ⟨fun h'' => k1 (Or.inr (Or.inr ⟨h2, h3, i_nlt.mp h, i_nlt.mp h', h''⟩)), fun h'' => k2 ?_⟩⟩⟩⟩, fun h3 => k_inN (by decide) (fun n hn e => ⟨fun _ => k1 (Or.inr (Or.inl ⟨h3, n, by omega, e⟩)), fun h => absurd h nI_01⟩) (fun h => ⟨fun h => absurd rfl h, fun _ => k2 ?_⟩)⟩
  · rintro (g | g | g)
    · exact h2 g
    · exact h3 g.1
    · exact absurd g.2.2.1 (i_nle.mpr h)
  · rintro (g | g | g)
    · exact h2 g
    · exact h3 g.1
    · exact absurd g.2.2.2.1 (i_nle.mpr h')
  · rintro (g | g | g)
    · exact h2 g
    · exact h3 g.1
    · exact h'' g.2.2.2.2
  · rintro (g | g | g)
    · exact e32 (h3 ▸ g)
    · obtain ⟨n, hn, e⟩ := g.2
      exact h ⟨n, by omega, e⟩
    · exact g.2.1 h3
theorem k_factM {E : Nat × (Nat → Int32)} {d : Nat} {v : xV} {x a b y z : Int32} {W S N F : Nat} {Q : Int32 → xV → Prop} (hW : gI v 80 22 = nI W) (hW2 : W ≤ 8) (hg : ∀ i, ∃ n, n ≤ 4 ∧ gA v 92 i = nI n) (hS : gI v 80 50 = nI S) (hS2 : S ≤ 20) (hN : gI v 80 20 = nI N) (hN2 : N ≤ 80) (hF : gI v 80 70 = nI F) (hF2 : F ≤ 80)
    (k1 : ¬ fAb (gA v 92) (gA v 87) W S N x a b → Q (-2) (v_I v 80 0 (nI 0))) (k2 : fAb (gA v 92) (gA v 87) W S N x a b → ¬ fYr x y z → Q (-3) (v_I v 80 0 (nI 0))) (k3 : fAb (gA v 92) (gA v 87) W S N x a b → fYr x y z → F = 80 → Q (-4) (v_I v 80 0 (nI 0)))
    (k4 : fAb (gA v 92) (gA v 87) W S N x a b → fYr x y z → F < 80 → Q (nI F) (v_I (fput (v_I v 80 0 (nI 0)) 121 F x a b y z (gI v 80 5)) 80 70 (nI (F + 1)))) : KI E (d + 1) 197 [.ref 80, .int x, .int a, .int b, .int y, .int z] v Q := by
  have R : fAb (gA v 92) (gA v 87) W S N x a b → fYr x y z → RI E (d + 1) 197 202 [(0, .ref 80), (1, .int x), (2, .int a), (3, .int b), (4, .int y), (5, .int z)] (v_I v 80 0 (nI 0)) Q := by
    intro h1 h2
    refine w_X12_fact_202 ?_
    rw [show gI (v_I v 80 0 (nI 0)) 80 70 = nI F from hF, nI_eq (by omega) (by decide), nI_add, nI_sub (by omega), Nat.add_sub_cancel, nI_clamp (by omega)]
    refine ⟨fun h => ?_, fun h => k3 h1 h2 h⟩
    have i := vp_in_nI (show F < 80 by omega) (by decide)
    exact ⟨i, i, i, i, i, i, k4 h1 h2 (by omega)⟩
  have T : fAb (gA v 92) (gA v 87) W S N x a b → _ := fun h1 => f_yt (E := E) (d := d) (x := x) (y := y) (z := z) (v := v_I v 80 0 (nI 0)) (A := fun w => RI E (d + 1) 197 202 [(0, .ref 80), (1, .int x), (2, .int a), (3, .int b), (4, .int y), (5, .int z)] w Q) (B := fun w => Q (-3) w) (R h1) (k2 h1)
  refine KI.of ok_197 (Nat.le_of_ble_eq_true rfl) (w_X12_fact_0 ⟨fun n0 => ⟨fun n1 => ⟨fun n2 => ⟨fun n3 => ⟨fun n4 => w_X12_fact_143 ⟨fun h => absurd rfl h, fun _ => k1 ?_⟩, fun e => ?_⟩, fun e => ?_⟩, fun e => ?_⟩, fun e => ?_⟩, fun e => ?_⟩)
  · rintro (g | g | g | g | g)
    · exact n0 g.1
    · exact n1 g.1
    · exact n2 g.1
    · exact n3 g.1
    · exact n4 g.1
  · have q : fAb (gA v 92) (gA v 87) W S N x a b ↔ isSo (gA v 87) N 3 a := by rw [e]; exact fAb.t4
    exact k_sortM hN hN2 (fun h1 => ⟨fun h => absurd h nI_01, fun _ => ⟨fun _ => T (q.mpr h1), fun h => absurd h nI_01⟩⟩) (fun h1 => ⟨fun _ => w_X12_fact_143 ⟨fun h => absurd rfl h, fun _ => k1 (fun g => h1 (q.mp g))⟩, fun h => absurd rfl h⟩)
  · have q : fAb (gA v 92) (gA v 87) W S N x a b ↔ isSo (gA v 87) N 0 a ∧ isSo (gA v 87) N 2 b := by rw [e]; exact fAb.t3
    exact k_sortM hN hN2 (fun h1 => ⟨fun h => absurd h nI_01, fun _ => k_sortM hN hN2 (fun h2 => ⟨fun h => absurd h nI_01, fun _ => ⟨fun _ => T (q.mpr ⟨h1, h2⟩), fun h => absurd h nI_01⟩⟩) (fun h2 => ⟨fun _ => w_X12_fact_121 ⟨fun h => absurd rfl h, fun _ => k1 (fun g => h2 (q.mp g).2)⟩, fun h => absurd rfl h⟩)⟩) (fun h1 => ⟨fun _ => w_X12_fact_121 ⟨fun h => absurd rfl h, fun _ => k1 (fun g => h1 (q.mp g).1)⟩, fun h => absurd rfl h⟩)
  · have q : fAb (gA v 92) (gA v 87) W S N x a b ↔ isN S a ∧ isN S b ∧ ¬ a = b := by rw [e]; exact fAb.t2
    exact k_isScrM hS hS2 (fun w1 q1 r1 => ⟨fun h => absurd h nI_01, fun _ => k_isScrM hS hS2 (fun w2 q2 r2 => ⟨fun h => absurd h nI_01, fun _ => ⟨fun h => w_X12_fact_90 ⟨fun h => absurd rfl h, fun _ => k1 (fun g => (q.mp g).2.2 h)⟩, fun h => ⟨fun _ => T (q.mpr ⟨⟨w1, q1, r1⟩, ⟨w2, q2, r2⟩, h⟩), fun h => absurd h nI_01⟩⟩⟩) (fun h2 => ⟨fun _ => w_X12_fact_90 ⟨fun h => absurd rfl h, fun _ => k1 (fun g => h2 (q.mp g).2.1)⟩, fun h => absurd rfl h⟩)⟩) (fun h1 => ⟨fun _ => w_X12_fact_90 ⟨fun h => absurd rfl h, fun _ => k1 (fun g => h1 (q.mp g).1)⟩, fun h => absurd rfl h⟩)
  · have q : fAb (gA v 92) (gA v 87) W S N x a b ↔ isN S a := by rw [e]; exact fAb.t1
    exact k_isScrM hS hS2 (fun w1 q1 r1 => ⟨fun _ => T (q.mpr ⟨w1, q1, r1⟩), fun h => absurd h nI_01⟩) (fun h1 => ⟨fun h => absurd rfl h, fun _ => k1 (fun g => h1 (q.mp g))⟩)
  · have q : fAb (gA v 92) (gA v 87) W S N x a b ↔ isLay (gA v 92) W a b := by rw [e]; exact fAb.t0
    rw [hW]
    refine k_in (fun h1 => ⟨fun h => absurd h nI_01, fun _ => ?_⟩) (fun h1 => ⟨fun _ => w_X12_fact_43 ⟨fun h => absurd rfl h, fun _ => k1 (fun g => ?_)⟩, fun h => absurd rfl h⟩)
    · obtain ⟨w, hw, rfl⟩ := (i_btwm (by omega)).mp h1
      obtain ⟨m, hm, em⟩ := hg w
      rw [nI_clamp (by omega), show gA (v_I v 80 0 (nI 0)) 92 w = nI m from em]
      refine ⟨vp_in_nI (by omega) (by decide), k_in (fun h2 => ⟨fun h => absurd h nI_01, fun _ => ⟨fun _ => T (q.mpr ?_), fun h => absurd h nI_01⟩⟩) (fun h2 => ⟨fun _ => w_X12_fact_43 ⟨fun h => absurd rfl h, fun _ => k1 (fun g => ?_)⟩, fun h => absurd rfl h⟩)⟩
      · obtain ⟨l, hl, rfl⟩ := (i_btwm (by omega)).mp h2
        exact ⟨w, l, m, by omega, rfl, em, rfl⟩
      · obtain ⟨w', l, m', g1, g2, g3, g4⟩ := q.mp g
        rw [nI_eq (by omega) (by omega)] at g2
        subst g2
        rw [em, nI_eq (by omega) (by omega)] at g3
        subst g3
        exact h2 ((i_btwm (by omega)).mpr ⟨l, g1.2.2, g4⟩)
    · obtain ⟨w', l, m', g1, g2, g3, g4⟩ := q.mp g
      exact h1 ((i_btwm (by omega)).mpr ⟨w', g1.1, g2⟩)

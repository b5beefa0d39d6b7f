theorem nI_and255 (x : Int32) : ∃ b, b < 256 ∧ x &&& nI 255 = nI b := by
  refine ⟨(x.toBitVec &&& 255#32).toNat, ?_, ?_⟩
  · have : (x.toBitVec &&& 255#32).toNat ≤ 255 := by rw [BitVec.toNat_and]; exact Nat.and_le_right
    omega
  · apply Int32.toBitVec_inj.mp
    have : (nI 255).toBitVec = 255#32 := by decide
    rw [Int32.toBitVec_and, this]
    show _ = (Int32.ofNat _).toBitVec
    simp
def IvT (s1 s2 : Int32) (f g : Nat → Int32) : Prop := f = g ∧ (∃ s, s ≤ 240 ∧ s1 = nI s ∧ s2 = nI s) ∧ ∀ i, ∃ b, b < 256 ∧ f i = nI b
theorem IvT.e {s1 s2 : Int32} {f g : Nat → Int32} (h : IvT s1 s2 f g) : f = g := h.1
theorem IvT.s {s1 s2 : Int32} {f g : Nat → Int32} (h : IvT s1 s2 f g) : ∃ s, s ≤ 240 ∧ s1 = nI s ∧ s2 = nI s := h.2.1
theorem IvT.b {s1 s2 : Int32} {f g : Nat → Int32} (h : IvT s1 s2 f g) : ∀ i, ∃ b, b < 256 ∧ f i = nI b := h.2.2
/-- one small number, held by both -/
def IvD (N : Nat) (a b : Int32) : Prop := ∃ t, t ≤ N ∧ a = nI t ∧ b = nI t
/-- the forms: counts, strokes -/
def IvF (f g f' g' : Nat → Int32) : Prop := (f = f' ∧ g = g') ∧ (∀ i, ∃ n, n ≤ 3 ∧ f i = nI n) ∧ ∀ i, ∃ b, b < 256 ∧ g i = nI b
/-- the words: how many, letters, lengths, sorts -/
def IvW (a b : Int32) (L Ln So L' Ln' So' : Nat → Int32) : Prop := IvD 80 a b ∧ (L = L' ∧ Ln = Ln' ∧ So = So') ∧ (∀ i, ∃ n, n ≤ 10 ∧ Ln i = nI n) ∧ (∀ i, ∃ n, n < 26 ∧ L i = nI n) ∧ ∀ i, ∃ n, n < 5 ∧ So i = nI n
/-- the walls: how many, corners, layers -/
def IvA (a b : Int32) (f g f' g' : Nat → Int32) : Prop := IvD 8 a b ∧ (f = f' ∧ g = g') ∧ (∀ i, ∃ n, n < 12 ∧ f i = nI n) ∧ ∀ i, ∃ n, n ≤ 4 ∧ g i = nI n
/-- the scrawls: how many, walls, layers, places, days -/
def IvS (a b : Int32) (f g p t f' g' p' t' : Nat → Int32) : Prop := IvD 20 a b ∧ (f = f' ∧ g = g' ∧ p = p' ∧ t = t') ∧ (∀ i, ∃ n, n < 8 ∧ f i = nI n) ∧ (∀ i, ∃ n, n < 4 ∧ g i = nI n) ∧ (∀ i, ∃ n, n ≤ 24 ∧ p i = nI n) ∧ ∀ i, ∃ n, n ≤ 999 ∧ t i = nI n
/-- the photos: how many, scrawls, days, seen, gone -/
def IvP (a b : Int32) (f g p t f' g' p' t' : Nat → Int32) : Prop := IvD 60 a b ∧ (f = f' ∧ g = g' ∧ p = p' ∧ t = t') ∧ (∀ i, ∃ n, n < 20 ∧ f i = nI n) ∧ (∀ i, ∃ n, n ≤ 999 ∧ g i = nI n) ∧ (∀ i, ∃ n, n < 256 ∧ p i = nI n) ∧ ∀ i, ∃ n, n < 256 ∧ t i = nI n
/-- the drawings: how many, scrawls, drawers, days, drawn -/
def IvG (a b : Int32) (f g p t f' g' p' t' : Nat → Int32) : Prop := IvD 40 a b ∧ (f = f' ∧ g = g' ∧ p = p' ∧ t = t') ∧ (∀ i, ∃ n, n < 20 ∧ f i = nI n) ∧ (∀ i, ∃ n, n < 4 ∧ g i = nI n) ∧ (∀ i, ∃ n, n ≤ 999 ∧ p i = nI n) ∧ ∀ i, t i = -1 ∨ ∃ n, n < 26 ∧ t i = nI n
/-- what both sides hold; c: the calls so far -/
def Inv (c : Nat) (v : xV) : Prop :=
  IvT (gI v 1 1) (gI v 80 3) (gA v 2) (gA v 81) ∧
  IvD 999 (gI v 0 13) (gI v 80 5) ∧
  (IvD 6 (gI v 0 12) (gI v 80 4) ∧ gA v 79 = gA v 82) ∧
  IvF (gA v 5) (gA v 4) (gA v 83) (gA v 84) ∧
  IvW (gI v 3 7) (gI v 80 20) (gA v 6) (gA v 7) (gA v 8) (gA v 85) (gA v 86) (gA v 87) ∧
  IvA (gI v 11 7) (gI v 80 22) (gA v 13) (gA v 14) (gA v 91) (gA v 92) ∧
  IvS (gI v 25 12) (gI v 80 50) (gA v 26) (gA v 27) (gA v 28) (gA v 29) (gA v 100) (gA v 101) (gA v 102) (gA v 103) ∧
  IvP (gI v 25 13) (gI v 80 51) (gA v 30) (gA v 31) (gA v 32) (gA v 33) (gA v 104) (gA v 105) (gA v 106) (gA v 107) ∧
  IvG (gI v 25 14) (gI v 80 52) (gA v 34) (gA v 35) (gA v 36) (gA v 37) (gA v 108) (gA v 109) (gA v 110) (gA v 111)
theorem Inv.T {c : Nat} {v : xV} (h : Inv c v) : IvT (gI v 1 1) (gI v 80 3) (gA v 2) (gA v 81) := h.1
theorem Inv.D {c : Nat} {v : xV} (h : Inv c v) : IvD 999 (gI v 0 13) (gI v 80 5) := h.2.1
theorem Inv.F {c : Nat} {v : xV} (h : Inv c v) : IvF (gA v 5) (gA v 4) (gA v 83) (gA v 84) := h.2.2.2.1
theorem Inv.W {c : Nat} {v : xV} (h : Inv c v) : IvW (gI v 3 7) (gI v 80 20) (gA v 6) (gA v 7) (gA v 8) (gA v 85) (gA v 86) (gA v 87) := h.2.2.2.2.1
theorem Inv.A {c : Nat} {v : xV} (h : Inv c v) : IvA (gI v 11 7) (gI v 80 22) (gA v 13) (gA v 14) (gA v 91) (gA v 92) := h.2.2.2.2.2.1
theorem Inv.S {c : Nat} {v : xV} (h : Inv c v) : IvS (gI v 25 12) (gI v 80 50) (gA v 26) (gA v 27) (gA v 28) (gA v 29) (gA v 100) (gA v 101) (gA v 102) (gA v 103) := h.2.2.2.2.2.2.1
theorem Inv.P {c : Nat} {v : xV} (h : Inv c v) : IvP (gI v 25 13) (gI v 80 51) (gA v 30) (gA v 31) (gA v 32) (gA v 33) (gA v 104) (gA v 105) (gA v 106) (gA v 107) := h.2.2.2.2.2.2.2.1
theorem Inv.G {c : Nat} {v : xV} (h : Inv c v) : IvG (gI v 25 14) (gI v 80 52) (gA v 34) (gA v 35) (gA v 36) (gA v 37) (gA v 108) (gA v 109) (gA v 110) (gA v 111) := h.2.2.2.2.2.2.2.2
theorem b_upd {f : Nat → Int32} (h : ∀ i, ∃ b, b < 256 ∧ f i = nI b) (k : Nat) {x : Int32} (hx : ∃ b, b < 256 ∧ x = nI b) : ∀ i, ∃ b, b < 256 ∧ upd f k x i = nI b := by
  intro i
  rw [upd_i]
  split
  · exact hx
  · exact h i
theorem b_push4 {f : Nat → Int32} (h : ∀ i, ∃ b, b < 256 ∧ f i = nI b) (s : Nat) (x : Int32) : ∀ i, ∃ b, b < 256 ∧ push4 f s x i = nI b := b_upd (b_upd (b_upd (b_upd h _ (nI_and255 _)) _ (nI_and255 _)) _ (nI_and255 _)) _ (nI_and255 _)
theorem b_push20 {f : Nat → Int32} (h : ∀ i, ∃ b, b < 256 ∧ f i = nI b) (s : Nat) (x1 x2 x3 x4 x5 : Int32) : ∀ i, ∃ b, b < 256 ∧ push20 f s x1 x2 x3 x4 x5 i = nI b := b_push4 (b_push4 (b_push4 (b_push4 (b_push4 h _ _) _ _) _ _) _ _) _ _
theorem Inv.thr {c : Nat} {v : xV} (h : Inv c v) (x : Int32) : Inv c (v_I v 80 0 x) := h
def P2 (E : Nat × (Nat → Int32)) (d m1 : Nat) (a1 : List Value) (m2 : Nat) (a2 : List Value) (v : xV) (Q : xV → Prop) : Prop := KI E d m1 a1 v (fun y1 v1 => KI E d m2 a2 v1 (fun y2 v2 => y1 = y2 ∧ Q v2))
theorem p_feed {E : Nat × (Nat → Int32)} {d c : Nat} {v : xV} {x1 x2 x3 x4 x5 : Int32} (hI : Inv c v) : P2 E (d + 1) 113 [.ref 0, .int x1, .int x2, .int x3, .int x4, .int x5] 149 [.ref 80, .int x1, .int x2, .int x3, .int x4, .int x5] v (Inv c) := by
  obtain ⟨s, hs, e1, e2⟩ := hI.T.s
  refine k_feedX e1 hs (fun h => ?_) (fun h => ?_)
  · refine k_feedM (s := s) e2 hs (fun _ => ⟨rfl, ?_⟩) (fun h' => absurd h h')
    exact ⟨⟨by show push20 (gA v 2) s x1 x2 x3 x4 x5 = push20 (gA v 81) s x1 x2 x3 x4 x5; rw [hI.T.e], ⟨s + 20, h, rfl, rfl⟩, b_push20 hI.T.b s x1 x2 x3 x4 x5⟩, hI.2⟩
  · refine k_feedM (s := s) e2 hs (fun h' => absurd h' h) (fun _ => ⟨rfl, hI⟩)
theorem p_end {E : Nat × (Nat → Int32)} {d c : Nat} {v : xV} {x : Int32} (hI : Inv c v) : P2 E (d + 1) 114 [.ref 0, .int x] 150 [.ref 80, .int x] v (Inv c) := by
  obtain ⟨s, hs, e1, e2⟩ := hI.T.s
  refine KI.of ok_114 (Nat.le_of_ble_eq_true rfl) (w_X11_end_0 ⟨fun h => ?_, fun h => ⟨fun h2 => ?_, fun h2 => ?_⟩⟩)
  · exact KI.of ok_150 (Nat.le_of_ble_eq_true rfl) (w_X12_end_0 ⟨fun _ => ⟨rfl, hI⟩, fun h' => absurd h h'⟩)
  · refine KI.of ok_150 (Nat.le_of_ble_eq_true rfl) (w_X12_end_0 ⟨fun h' => absurd h' h, fun _ => ⟨fun _ => ⟨rfl, ?_⟩, fun h3 => absurd ?_ h3⟩⟩)
    · obtain ⟨n, hn, rfl⟩ := nI_of h
      rw [e1, nI_leI hn (by omega)] at h2
      exact ⟨⟨hI.T.e, ⟨n, by omega, rfl, rfl⟩, hI.T.b⟩, hI.2⟩
    · show x ≤ gI v 80 3
      rw [e2, ← e1]
      exact h2
  · refine KI.of ok_150 (Nat.le_of_ble_eq_true rfl) (w_X12_end_0 ⟨fun h' => absurd h' h, fun _ => ⟨fun h3 => absurd ?_ h2, fun _ => ⟨rfl, hI⟩⟩⟩)
    rw [e1, ← e2]
    exact h3
theorem p_next {E : Nat × (Nat → Int32)} {d c : Nat} {v : xV} {x : Int32} (hI : Inv c v) : P2 E (d + 1) 115 [.ref 0, .int x] 153 [.ref 80, .int x] v (Inv c) := by
  obtain ⟨s, hs, e1, e2⟩ := hI.D
  refine KI.of ok_115 (Nat.le_of_ble_eq_true rfl) (w_X11_next_0 ⟨fun h => ?_, fun h => ⟨fun h2 => ?_, fun h2 => ⟨fun h3 => ?_, fun h3 => ?_⟩⟩⟩)
  · refine KI.of ok_153 (Nat.le_of_ble_eq_true rfl) (w_X12_next_0 (k_isIn ⟨fun _ => ⟨rfl, hI⟩, fun h' => absurd ?_ h'⟩))
    rw [bB_0, decide_eq_false (i_nle.mpr h), Bool.false_and]
  · refine KI.of ok_153 (Nat.le_of_ble_eq_true rfl) (w_X12_next_0 (k_isIn ⟨fun _ => ⟨rfl, hI⟩, fun h' => absurd ?_ h'⟩))
    rw [bB_0, decide_eq_false (i_nle.mpr h2), Bool.and_false]
  · refine KI.of ok_153 (Nat.le_of_ble_eq_true rfl) (w_X12_next_0 (k_isIn ⟨fun h' => ?_, fun _ => ⟨fun _ => ?_, fun h4 => absurd ?_ h4⟩⟩))
    · rw [bB_0, decide_eq_true (i_nlt.mp h), decide_eq_true (i_nlt.mp h2)] at h'
      cases h'
    · obtain ⟨n, hn, rfl⟩ := nI_of h
      rw [i_nlt, nI_leI hn (by omega)] at h2
      rw [e1, nI_add, nI_leI (by omega) (by omega)] at h3
      refine ⟨by show gI v 0 13 + nI n = gI v 80 5 + nI n; rw [e1, e2], ⟨hI.1, ⟨s + n, h3, ?_, ?_⟩, hI.2.2⟩⟩
      · show gI v 0 13 + nI n = _
        rw [e1, nI_add]
      · show gI v 80 5 + nI n = _
        rw [e2, nI_add]
    · show gI v 80 5 + x ≤ nI 999
      rw [e2, ← e1]
      exact h3
  · refine KI.of ok_153 (Nat.le_of_ble_eq_true rfl) (w_X12_next_0 (k_isIn ⟨fun h' => ?_, fun _ => ⟨fun h4 => absurd ?_ h3, fun _ => ⟨rfl, hI⟩⟩⟩))
    · rw [bB_0, decide_eq_true (i_nlt.mp h), decide_eq_true (i_nlt.mp h2)] at h'
      cases h'
    · rw [e1, ← e2]
      exact h4

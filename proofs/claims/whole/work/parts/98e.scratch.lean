/-! scratch cells: what years, hands, persons and walks may change -/
def ScF (v w : xV) : Prop := w.2.2.2.2 = v.2.2.2.2 ∧ (∀ a b, ¬ (a = 67 ∨ a = 74 ∨ (a = 80 ∧ (b = 0 ∨ 71 ≤ b))) → gI w a b = gI v a b) ∧ (∀ j, j < 68 ∨ (78 < j ∧ j < 127) ∨ 139 ≤ j → gA w j = gA v j) ∧ ∀ j, j ≠ 71 → gB w j = gB v j
theorem ScF.refl (v : xV) : ScF v v := ⟨rfl, fun _ _ _ => rfl, fun _ _ => rfl, fun _ _ => rfl⟩
theorem ScF.trans {u v w : xV} (h : ScF u v) (h' : ScF v w) : ScF u w := ⟨h'.1.trans h.1, fun a b hn => (h'.2.1 a b hn).trans (h.2.1 a b hn), fun j hj => (h'.2.2.1 j hj).trans (h.2.2.1 j hj), fun j hj => (h'.2.2.2 j hj).trans (h.2.2.2 j hj)⟩
theorem ScF.thr (v : xV) (x : Int32) : ScF v (v_I v 80 0 x) := by
  refine ⟨rfl, fun a b h => ?_, fun _ _ => rfl, fun _ _ => rfl⟩
  rw [gI_I]
  by_cases e : a = 80
  · rw [if_pos e]
    by_cases e2 : b = 0
    · exact absurd (Or.inr (Or.inr ⟨e, Or.inl e2⟩)) h
    · rw [if_neg e2]
  · rw [if_neg e]
theorem YrF.sc {v w : xV} (h : YrF v w) : ScF v w := ⟨h.2.1, fun a b hn => h.2.2.1 a b (fun e => hn (Or.inl e)), fun j hj => h.2.2.2.1 j (by omega), fun j hj => h.2.2.2.2 j hj⟩
theorem ScF.n {v w : xV} (h : ScF v w) : nS w = nS v ∧ nP w = nP v ∧ nD w = nD v ∧ nW w = nW v ∧ nR w = nR v ∧ nA w = nA v ∧ nF w = nF v := by
  obtain ⟨-, h, -, -⟩ := h
  unfold nS nP nD nW nR nA nF
  rw [h 25 12 (by decide), h 25 13 (by decide), h 25 14 (by decide), h 3 7 (by decide), h 80 30 (by decide), h 11 7 (by decide), h 60 6 (by decide)]
  exact ⟨rfl, rfl, rfl, rfl, rfl, rfl, rfl⟩
theorem Inv.sc {c : Nat} {v v' : xV} (h : Inv c v) (hF : ScF v v') : Inv c v' := by
  obtain ⟨-, f1, f3, -⟩ := hF
  unfold Inv
  rw [f1 1 1 (by decide), f1 80 3 (by decide), f1 0 13 (by decide), f1 80 5 (by decide), f1 0 12 (by decide), f1 80 4 (by decide), f1 3 7 (by decide), f1 80 20 (by decide), f1 11 7 (by decide), f1 80 22 (by decide), f1 25 12 (by decide), f1 80 50 (by decide), f1 25 13 (by decide), f1 80 51 (by decide), f1 25 14 (by decide), f1 80 52 (by decide)]
  rw [f3 2 (by decide), f3 81 (by decide), f3 79 (by decide), f3 82 (by decide), f3 5 (by decide), f3 4 (by decide), f3 83 (by decide), f3 84 (by decide), f3 6 (by decide), f3 7 (by decide), f3 8 (by decide), f3 85 (by decide), f3 86 (by decide), f3 87 (by decide), f3 13 (by decide), f3 14 (by decide), f3 91 (by decide), f3 92 (by decide)]
  rw [f3 26 (by decide), f3 27 (by decide), f3 28 (by decide), f3 29 (by decide), f3 100 (by decide), f3 101 (by decide), f3 102 (by decide), f3 103 (by decide), f3 30 (by decide), f3 31 (by decide), f3 32 (by decide), f3 33 (by decide), f3 104 (by decide), f3 105 (by decide), f3 106 (by decide), f3 107 (by decide), f3 34 (by decide), f3 35 (by decide), f3 36 (by decide), f3 37 (by decide), f3 108 (by decide), f3 109 (by decide), f3 110 (by decide), f3 111 (by decide)]
  exact h
theorem Ext.sc4 {v v' : xV} (hH : ExH v) (hK : ExK v) (hO : ExO v) (hR : ExR v) (hF : ScF v v') : ExH v' ∧ ExK v' ∧ ExO v' ∧ ExR v' := by
  obtain ⟨n1, n2, n3, n4, n5, n6, n7⟩ := hF.n
  obtain ⟨-, f1, f3, -⟩ := hF
  refine ⟨?_, ?_, ?_, ?_⟩
  · unfold ExH
    rw [f3 9 (by decide), f3 10 (by decide), f3 93 (by decide), f3 94 (by decide), f3 95 (by decide)]
    exact hH
  · unfold ExK
    rw [n7, n6, n1, n4, f1 60 6 (by decide), f1 80 70 (by decide), f1 0 13 (by decide), f3 61 (by decide), f3 62 (by decide), f3 63 (by decide), f3 64 (by decide), f3 65 (by decide), f3 66 (by decide), f3 121 (by decide), f3 122 (by decide), f3 123 (by decide), f3 124 (by decide), f3 125 (by decide), f3 126 (by decide), f3 14 (by decide), f3 8 (by decide), f3 29 (by decide)]
    exact hK
  · unfold ExO
    rw [n1, n6, n4, f1 0 13 (by decide), f3 14 (by decide), f3 26 (by decide), f3 27 (by decide), f3 28 (by decide), f3 29 (by decide), f3 7 (by decide)]
    exact hO
  · unfold ExR ExX nT RowsM mrows rw1
    rw [n5, f1 11 6 (by decide), f1 80 21 (by decide), f3 12 (by decide), f3 88 (by decide), f3 89 (by decide), f3 90 (by decide), f1 21 4 (by decide), f1 80 37 (by decide), f1 17 5 (by decide), f1 80 27 (by decide), f1 80 30 (by decide), f1 21 3 (by decide), f3 23 (by decide), f3 24 (by decide), f3 96 (by decide), f3 97 (by decide)]
    exact hR
theorem ScF.dyn {v v' : xV} (h : ScF v v') {k0 z0 Z : Nat} (hD : DynX k0 z0 v Z) : DynX k0 z0 v' Z := by
  obtain ⟨h2, -⟩ := h
  have e1 : gn v' = gn v := by
    show v'.2.2.2.2.2.2.1 = v.2.2.2.2.2.2.1
    rw [h2]
  have e2 : gk v' = gk v := by
    show v'.2.2.2.2.2.2.2.1 = v.2.2.2.2.2.2.2.1
    rw [h2]
  have e3 : gz v' = gz v := by
    show v'.2.2.2.2.2.2.2.2 = v.2.2.2.2.2.2.2.2
    rw [h2]
  have e4 : gb v' = gb v := by
    show v'.2.2.2.2.2.1 = v.2.2.2.2.2.1
    rw [h2]
  have e5 : gN v' = gN v := by
    funext i
    unfold gN
    rw [h2]
  have e6 : gK v' = gK v := by
    funext i
    unfold gK
    rw [e1]
  unfold DynX
  rw [e1, e2, e3, e4, e5, e6]
  exact hD
theorem ScF.sl {v v' : xV} (h : ScF v v') : SameL v v' := by
  have w : ∀ j, j < 68 → gA v' j = gA v j := fun j hj => h.2.2.1 j (by omega)
  exact ⟨h.2.1 3 7 (by decide), w 4 (by decide), w 5 (by decide), w 6 (by decide), w 7 (by decide), w 8 (by decide), w 9 (by decide), w 32 (by decide), w 33 (by decide), w 37 (by decide)⟩
theorem ScF.se {v v' : xV} (h : ScF v v') (s : Nat) : SameE v v' s := by
  have w : ∀ j, j < 68 → gA v' j = gA v j := fun j hj => h.2.2.1 j (by omega)
  unfold SameE
  rw [w 39 (by decide), w 40 (by decide), w 41 (by decide), w 42 (by decide), w 43 (by decide), w 44 (by decide), w 45 (by decide), w 46 (by decide), w 47 (by decide), w 48 (by decide)]
  exact SameE.refl v s
theorem ScF.mr {v v' : xV} (h : ScF v v') : mrows v' (nR v') = mrows v (nR v) := by
  rw [h.n.2.2.2.2.1]
  unfold mrows rw1
  rw [h.2.2.1 96 (by decide), h.2.2.1 97 (by decide)]
theorem FX.sc {v v' : xV} {s : Nat} {t : Int32} (h : FX v s t) (hF : ScF v v') : FX v' s t := by
  have w : ∀ j, j < 68 → gA v' j = gA v j := fun j hj => hF.2.2.1 j (by omega)
  unfold FX
  rw [hF.mr, hF.n.2.1, hF.n.2.2.1]
  intro N hN hN'
  rw [w 28 (by decide)] at hN
  have := (h N hN hN').mv hF.sl (hF.se s)
  unfold evP evD
  rw [w 30 (by decide), w 31 (by decide), w 34 (by decide), w 35 (by decide), w 36 (by decide)]
  exact this
theorem FM.sc {v v' : xV} {s : Nat} {t : Int32} (h : FM v s t) (hF : ScF v v') : FM v' s t := by
  have w : ∀ j, 78 < j → j < 127 → gA v' j = gA v j := fun j hj hj2 => hF.2.2.1 j (by omega)
  have e1 : ∀ N, Gmt v' s t (nP v) (nD v) N = Gmt v s t (nP v) (nD v) N := by
    intro N
    unfold Gmt LCm Gm
    rw [hF.2.1 80 20 (by decide), w 83 (by decide) (by decide), w 84 (by decide) (by decide), w 85 (by decide) (by decide), w 86 (by decide) (by decide), w 87 (by decide) (by decide), hF.2.2.1 9 (by decide), w 104 (by decide) (by decide), w 105 (by decide) (by decide), w 106 (by decide) (by decide), w 107 (by decide) (by decide), w 108 (by decide) (by decide), w 109 (by decide) (by decide), w 110 (by decide) (by decide), w 111 (by decide) (by decide)]
  unfold FM FreshM
  rw [hF.mr, hF.n.2.1, hF.n.2.2.1]
  intro N hN hN'
  rw [w 102 (by decide) (by decide)] at hN
  rw [e1]
  unfold MOK
  rw [w 116 (by decide) (by decide), w 117 (by decide) (by decide), w 118 (by decide) (by decide), w 119 (by decide) (by decide)]
  exact h N hN hN'
theorem J.sc {c : Nat} {v v' : xV} (hJ : J c v) (hF : ScF v v') : J c v' := by
  obtain ⟨hI, hH, hK, hO, hR, ⟨c1, c2, c3, c4⟩, ⟨n, m, m1, m2, m3, m4⟩, ⟨k0, z0, Z, d1, d2, d3⟩⟩ := id hJ
  have hn := hF.n
  obtain ⟨g1, g2, g3, g4⟩ := Ext.sc4 hH hK hO hR hF
  have w : ∀ j, j < 68 → gA v' j = gA v j := fun j hj => hF.2.2.1 j (by omega)
  refine ⟨hI.sc hF, g1, g2, g3, g4, ⟨?_, ?_, ?_, ?_⟩, ⟨n, m, m1, ?_, ?_, ?_⟩, k0, z0, Z, hF.dyn d1, d2, d3⟩
  · rw [w 39 (by decide)]
    exact c1
  · rw [w 39 (by decide), hn.1]
    exact c2
  · rw [w 39 (by decide), w 40 (by decide), w 41 (by decide), hn.2.1, hn.2.2.1]
    exact c3
  · rw [hF.mr, hn.1]
    intro s N hs hN hN' hv
    rw [w 28 (by decide)] at hN
    rw [w 39 (by decide)] at hv
    have := (c4 s N hs hN hN' hv).mv hF.sl (hF.se s)
    rw [w 40 (by decide), w 41 (by decide)]
    exact this
  · rw [hF.2.1 80 6 (by decide)]
    exact m2
  · rw [hF.2.1 80 62 (by decide)]
    exact m3
  · intro e s hs hd
    rw [hn.1] at hs
    rw [hF.2.2.1 103 (by decide), hF.2.1 80 61 (by decide)] at hd
    rw [hF.2.1 80 61 (by decide)]
    have : FM v s (gI v 80 61) := m4 e s hs hd
    exact this.sc hF

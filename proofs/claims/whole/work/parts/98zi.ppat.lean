/-! patterns: both sides agree -/
def PaF (v z : xV) : Prop := z.2.2.2.2 = v.2.2.2.2 ∧ (∀ a b, ¬ (a = 17 ∨ a = 21 ∨ (a = 1 ∧ b = 1) ∨ (a = 80 ∧ (b = 0 ∨ b = 3 ∨ b = 6 ∨ (23 ≤ b ∧ b ≤ 31) ∨ b = 37))) → gI z a b = gI v a b) ∧ ∀ j, ¬ ((18 ≤ j ∧ j ≤ 20) ∨ j = 23 ∨ j = 24 ∨ j = 39 ∨ (96 ≤ j ∧ j ≤ 99)) → gA z j = gA v j
theorem PaF.trans {u v w : xV} (h : PaF u v) (h' : PaF v w) : PaF u w := ⟨h'.1.trans h.1, fun a b hn => (h'.2.1 a b hn).trans (h.2.1 a b hn), fun j hj => (h'.2.2 j hj).trans (h.2.2 j hj)⟩
theorem PxF.pa {v w : xV} (h : PxF v w) : PaF v w := ⟨by rw [h.2.1], fun a b hn => h.2.2.1 a b (by omega), fun j hj => h.2.2.2 j (by omega)⟩
theorem PtF.pa {v w : xV} (h : PtF v w) : PaF v w := ⟨by rw [h.1], fun a b hn => h.2.1 a b (by omega), fun j hj => h.2.2 j (by omega)⟩
theorem MaF.pa {v w : xV} (h : MaF v w) : PaF v w := ⟨h.2.1, fun a b hn => h.2.2.1 a b (by omega), fun j hj => h.2.2.2.1 j (by omega) (by omega)⟩
theorem PaF.t (v : xV) (x : Int32) : PaF v (v_I v 1 1 x) := by
  refine ⟨rfl, fun a b h => ?_, fun _ _ => rfl⟩
  rw [gI_I]
  by_cases e : a = 1
  · rw [if_pos e, if_neg (by omega)]
  · rw [if_neg e]
theorem PaF.z (v : xV) (f : Nat → Int32) : PaF v (v_A v 39 f) := ⟨rfl, fun _ _ _ => rfl, fun j h => by rw [gA_A, if_neg (by omega)]⟩
theorem PaF.n {v w : xV} (h : PaF v w) : nS w = nS v ∧ nP w = nP v ∧ nD w = nD v ∧ nW w = nW v ∧ nA w = nA v ∧ nF w = nF v := by
  obtain ⟨-, h, -⟩ := h
  unfold nS nP nD nW nA nF
  rw [h 25 12 (by decide), h 25 13 (by decide), h 25 14 (by decide), h 3 7 (by decide), h 11 7 (by decide), h 60 6 (by decide)]
  exact ⟨rfl, rfl, rfl, rfl, rfl, rfl⟩
theorem Inv.pa {c : Nat} {v v' : xV} (h : Inv c v) (hF : PaF v v') (h1 : gI v' 1 1 = nI 0) (h3 : gI v' 80 3 = nI 0) : Inv c v' := by
  have hT := h.T
  obtain ⟨-, f1, f3⟩ := hF
  refine ⟨⟨?_, ⟨0, by decide, h1, h3⟩, ?_⟩, ?_⟩
  · rw [f3 2 (by decide), f3 81 (by decide)]
    exact hT.e
  · rw [f3 2 (by decide)]
    exact hT.b
  rw [f1 0 13 (by decide), f1 80 5 (by decide), f1 0 12 (by decide), f1 80 4 (by decide), f1 3 7 (by decide), f1 80 20 (by decide), f1 11 7 (by decide), f1 80 22 (by decide), f1 25 12 (by decide), f1 80 50 (by decide), f1 25 13 (by decide), f1 80 51 (by decide), f1 25 14 (by decide), f1 80 52 (by decide)]
  rw [f3 79 (by decide), f3 82 (by decide), f3 5 (by decide), f3 4 (by decide), f3 83 (by decide), f3 84 (by decide), f3 6 (by decide), f3 7 (by decide), f3 8 (by decide), f3 85 (by decide), f3 86 (by decide), f3 87 (by decide), f3 13 (by decide), f3 14 (by decide), f3 91 (by decide), f3 92 (by decide)]
  rw [f3 26 (by decide), f3 27 (by decide), f3 28 (by decide), f3 29 (by decide), f3 100 (by decide), f3 101 (by decide), f3 102 (by decide), f3 103 (by decide), f3 30 (by decide), f3 31 (by decide), f3 32 (by decide), f3 33 (by decide), f3 104 (by decide), f3 105 (by decide), f3 106 (by decide), f3 107 (by decide), f3 34 (by decide), f3 35 (by decide), f3 36 (by decide), f3 37 (by decide), f3 108 (by decide), f3 109 (by decide), f3 110 (by decide), f3 111 (by decide)]
  exact h.2
theorem Ext.pa4 {v v' : xV} (hH : ExH v) (hK : ExK v) (hO : ExO v) (hX : ExX v) (hF : PaF v v') : ExH v' ∧ ExK v' ∧ ExO v' ∧ ExX v' := by
  obtain ⟨n1, n2, n3, n4, n6, n7⟩ := hF.n
  obtain ⟨-, f1, f3⟩ := hF
  refine ⟨?_, ?_, ?_, ?_⟩
  · unfold ExH
    rw [f3 9 (by decide), f3 10 (by decide), f3 93 (by decide), f3 94 (by decide), f3 95 (by decide)]
    exact hH
  · unfold ExK
    rw [n7, n6, n1, n4, f1 60 6 (by decide), f1 80 70 (by decide), f1 0 13 (by decide), f3 61 (by decide), f3 62 (by decide), f3 63 (by decide), f3 64 (by decide), f3 65 (by decide), f3 66 (by decide), f3 121 (by decide), f3 122 (by decide), f3 123 (by decide), f3 124 (by decide), f3 125 (by decide), f3 126 (by decide), f3 14 (by decide), f3 8 (by decide), f3 29 (by decide)]
    exact hK
  · unfold ExO
    rw [n1, n6, n4, f1 0 13 (by decide), f3 14 (by decide), f3 26 (by decide), f3 27 (by decide), f3 28 (by decide), f3 29 (by decide), f3 7 (by decide)]
    exact hO
  · unfold ExX nT
    rw [f1 11 6 (by decide), f1 80 21 (by decide), f3 12 (by decide), f3 88 (by decide), f3 89 (by decide), f3 90 (by decide)]
    exact hX
theorem PaF.dyn {v v' : xV} (h : PaF v v') {k0 z0 Z : Nat} (hD : DynX k0 z0 v Z) : DynX k0 z0 v' Z := by
  obtain ⟨h2, -⟩ := h
  have e1 : gn v' = gn v := by
    show v'.2.2.2.2.2.2.1 = v.2.2.2.2.2.2.1
    rw [h2]
  have e2 : gk v' = gk v := by
    show v'.2.2.2.2.2.2.2.1 = v.2.2.2.2.2.2.2.1
    rw [h2]
  have e3 : gz v' = gz v := by
    show v'.2.2.2.2.2.2.2.2 = v.2.2.2.2.2.2.2.2
    rw [h2]
  have e4 : gb v' = gb v := by
    show v'.2.2.2.2.2.1 = v.2.2.2.2.2.1
    rw [h2]
  have e5 : gN v' = gN v := by
    funext i
    unfold gN
    rw [h2]
  have e6 : gK v' = gK v := by
    funext i
    unfold gK
    rw [e1]
  unfold DynX
  rw [e1, e2, e3, e4, e5, e6]
  exact hD
theorem mrows_same {v v' : xV} {R : Nat} (h : RowsM v R) (h6 : ∀ r, r < 256 → gA v' 96 r = gA v 96 r) (h7 : ∀ k, k < 1536 → gA v' 97 k = gA v 97 k) : mrows v' R = mrows v R := by
  unfold mrows
  refine List.map_congr_left (fun r hr => ?_)
  have hr := List.mem_range.mp hr
  have hR := h.2.1
  obtain ⟨n, n1, n2, n3⟩ := h.2.2 r hr
  unfold rw1 rowL
  rw [h6 r (by omega), n2, nI_clamp (by omega)]
  refine List.map_congr_left (fun i hi => ?_)
  have hi := List.mem_range.mp hi
  rw [h7 _ (by omega)]
/-- nothing came of it -/
theorem J.paF {c : Nat} {v z : xV} {k : Nat} (hJ : J c v) (hF : PaF v z) (h1 : gI z 1 1 = nI 0) (h3 : gI z 80 3 = nI 0) (h39 : gA z 39 = gA v 39) (h23 : gA z 23 = gA v 23) (h24 : gA z 24 = gA v 24) (i3 : gI z 21 3 = gI v 21 3) (i4 : gI z 21 4 = gI v 21 4) (i30 : gI z 80 30 = gI v 80 30) (i37 : gI z 80 37 = gI v 80 37) (i6 : gI z 80 6 = gI v 80 6) (h96 : ∀ r, r < 256 → gA z 96 r = gA v 96 r) (h97 : ∀ k, k < 1536 → gA z 97 k = gA v 97 k) (hk : k ≤ 3) (i5 : gI z 17 5 = nI k) (i27 : gI z 80 27 = nI k) : J c z := by
  obtain ⟨hI, hH, hK, hO, ⟨hX, r1, r2, r3, Qn, Lf, r4, r5, r6⟩, ⟨c1, c2, c3, c4⟩, ⟨n, m, m1, m2, m3, m4⟩, ⟨k0, z0, Z, d1, d2, d3⟩⟩ := id hJ
  have hn := hF.n
  have nr : nR z = nR v := by
    unfold nR
    rw [i30]
  have mr : mrows z (nR z) = mrows v (nR v) := by
    rw [nr]
    exact mrows_same r3 h96 h97
  obtain ⟨g1, g2, g3, g4⟩ := Ext.pa4 hH hK hO hX hF
  have w : ∀ j, j < 68 → ¬ (18 ≤ j ∧ j ≤ 24) → gA z j = gA v j := by
    intro j hj hj2
    by_cases e : j = 39
    · rw [e]
      exact h39
    · exact hF.2.2 j (by omega)
  have sl : SameL v z := ⟨hF.2.1 3 7 (by decide), w 4 (by decide) (by decide), w 5 (by decide) (by decide), w 6 (by decide) (by decide), w 7 (by decide) (by decide), w 8 (by decide) (by decide), w 9 (by decide) (by decide), w 32 (by decide) (by decide), w 33 (by decide) (by decide), w 37 (by decide) (by decide)⟩
  have se : ∀ s, SameE v z s := by
    intro s
    unfold SameE
    rw [w 39 (by decide) (by decide), w 40 (by decide) (by decide), w 41 (by decide) (by decide), w 42 (by decide) (by decide), w 43 (by decide) (by decide), w 44 (by decide) (by decide), w 45 (by decide) (by decide), w 46 (by decide) (by decide), w 47 (by decide) (by decide), w 48 (by decide) (by decide)]
    exact SameE.refl v s
  refine ⟨hI.pa hF h1 h3, g1, g2, g3, ⟨g4, ?_, ⟨k, hk, i5, i27⟩, ?_, Qn, Lf, ?_, ?_, ?_⟩, ⟨?_, ?_, ?_, ?_⟩, ⟨n, m, m1, ?_, ?_, ?_⟩, k0, z0, Z, hF.dyn d1, d2, d3⟩
  · rw [i4, i37]
    exact r1
  · rw [nr]
    refine ⟨by rw [i30]; exact r3.1, r3.2.1, fun r hr => ?_⟩
    have := r3.2.1
    obtain ⟨n, n1, n2, n3⟩ := r3.2.2 r hr
    refine ⟨n, n1, by rw [h96 r (by omega)]; exact n2, fun i hi => ?_⟩
    rw [h97 _ (by omega)]
    exact n3 i hi
  · rw [i3]
    exact r4
  · rw [h23, h24]
    exact r5
  · rw [mr]
    exact r6
  · rw [h39]
    exact c1
  · rw [h39, hn.1]
    exact c2
  · rw [h39, w 40 (by decide) (by decide), w 41 (by decide) (by decide), hn.2.1, hn.2.2.1]
    exact c3
  · rw [mr, hn.1]
    intro s N hs hN hN' hv
    rw [w 28 (by decide) (by decide)] at hN
    rw [h39] at hv
    have := (c4 s N hs hN hN' hv).mv sl (se s)
    rw [w 40 (by decide) (by decide), w 41 (by decide) (by decide)]
    exact this
  · rw [i6]
    exact m2
  · rw [hF.2.1 80 62 (by decide)]
    exact m3
  · intro e s hs
    have f3 := hF.2.2
    rw [hn.1] at hs
    have f61 : gI z 80 61 = gI v 80 61 := hF.2.1 80 61 (by decide)
    rw [f3 103 (by decide), f61, hn.2.1, hn.2.2.1]
    intro h
    have hf := m4 e s hs h
    have e1 : ∀ N, Gmt z s (gI v 80 61) (nP v) (nD v) N = Gmt v s (gI v 80 61) (nP v) (nD v) N := by
      intro N
      unfold Gmt LCm Gm
      rw [hF.2.1 80 20 (by decide), f3 83 (by decide), f3 84 (by decide), f3 85 (by decide), f3 86 (by decide), f3 87 (by decide), f3 9 (by decide), f3 104 (by decide), f3 105 (by decide), f3 106 (by decide), f3 107 (by decide), f3 108 (by decide), f3 109 (by decide), f3 110 (by decide), f3 111 (by decide)]
    unfold FreshM
    rw [mr]
    intro N hN hN'
    rw [f3 102 (by decide)] at hN
    rw [e1]
    unfold MOK
    rw [f3 116 (by decide), f3 117 (by decide), f3 118 (by decide), f3 119 (by decide)]
    exact hf N hN hN'
theorem ders_nd (zs : List Nat) : ∀ {L : List (List Nat)}, L.Nodup → (ders zs L).Nodup := by
  induction zs with
  | nil => exact fun h => h
  | cons z zs ih => exact fun h => ih (der_nd h)
theorem MI.dfa {dn : Pats} {w : xV} {m : Nat} {pw : Nat → List Nat} {L : List (List Nat)} (hT : TxX w dn) (hM : MI dn w m pw) (hS : ∀ q s, q < m → s < 5 → SD dn (gA w 23) m pw q s) (hL : L.Nodup) (hm : ∀ t, t ∈ L ↔ ∃ l, l ∈ dn ∧ t ∈ lang l) : DFA (gA w 23) (gA w 24) m (fun q => ders (pw q).reverse L) := by
  obtain ⟨⟨m1, m2, m3⟩, m4, m5, m6, m7, m8⟩ := id hM
  have acc : ∀ u t, t ∈ ders u.reverse L ↔ ∃ (p j : Nat) (l : List (Nat × Bool)), dn[p]? = some l ∧ rnP l u j ∧ lx (l.drop j) t := by
    intro u t
    rw [ders_m, hm]
    constructor
    · rintro ⟨l, h1, h2⟩
      obtain ⟨p, hp, e⟩ := List.mem_iff_getElem.mp h1
      obtain ⟨j, h3, h4⟩ := (rn_acc u).mp h2
      exact ⟨p, j, l, by rw [List.getElem?_eq_getElem hp, e], h3, h4⟩
    · rintro ⟨p, j, l, h1, h2, h3⟩
      exact ⟨l, List.mem_of_getElem? h1, (rn_acc u).mpr ⟨j, h2, h3⟩⟩
  have ne : ∀ u, (∃ p j, rnS dn u p j) ↔ ders u.reverse L ≠ [] := by
    intro u
    constructor
    · rintro ⟨p, j, l, h1, h2⟩ e
      obtain ⟨t, ht⟩ := lx_ex (l.drop j)
      have := (acc u t).mpr ⟨p, j, l, h1, h2, ht⟩
      rw [e] at this
      exact absurd this List.not_mem_nil
    · intro h
      obtain ⟨t, ht⟩ := List.exists_mem_of_ne_nil _ h
      obtain ⟨p, j, l, h1, h2, _⟩ := (acc u t).mp ht
      exact ⟨p, j, l, h1, h2⟩
  have dr : ∀ q s, der s (ders (pw q).reverse L) = ders (s :: pw q).reverse L := by
    intro q s
    rw [List.reverse_cons, ders_s]
  refine ⟨⟨m2, m3⟩, fun q hq => ⟨ders_nd _ hL, ?_, fun s hs => ?_⟩⟩
  · obtain ⟨b, hb, hb2⟩ := (m6 q hq).2
    rw [hb]
    have : b = decide ([] ∈ ders (pw q).reverse L) := by
      rw [Bool.eq_iff_iff, decide_eq_true_iff, hb2, acc]
      constructor
      · rintro ⟨p, l, h1, h2⟩
        exact ⟨p, l.length, l, h1, h2, (lx_nil (Nat.le_refl _)).mpr rfl⟩
      · rintro ⟨p, j, l, h1, h2, h3⟩
        have := (lx_nil (rn_le _ _ h2).2).mp h3
        rw [this] at h2
        exact ⟨p, l, h1, h2⟩
    rw [this]
  · show (_ ∧ der s (ders (pw q).reverse L) = []) ∨ ∃ q', q' < m ∧ _ ∧ (ders (pw q').reverse L).Perm (der s (ders (pw q).reverse L)) ∧ der s (ders (pw q).reverse L) ≠ []
    rw [dr]
    rcases hS q s hq hs with ⟨h1, h2⟩ | ⟨q', h1, h2, h3, h4⟩
    · refine Or.inl ⟨h1, ?_⟩
      exact Classical.byContradiction (fun h => by
        obtain ⟨p, j, hp⟩ := (ne (s :: pw q)).mpr h
        exact h2 p j hp)
    · refine Or.inr ⟨q', h1, h2, ?_, (ne _).mp h4⟩
      rw [List.perm_ext_iff_of_nodup (ders_nd _ hL) (ders_nd _ hL)]
      intro t
      rw [acc, acc]
      constructor
      · rintro ⟨p, j, l, g1, g2, g3⟩
        obtain ⟨l', e, g4⟩ := (h3 p j).mp ⟨l, g1, g2⟩
        rw [g1] at e
        cases e
        exact ⟨p, j, l, g1, g4, g3⟩
      · rintro ⟨p, j, l, g1, g2, g3⟩
        obtain ⟨l', e, g4⟩ := (h3 p j).mpr ⟨l, g1, g2⟩
        rw [g1] at e
        cases e
        exact ⟨p, j, l, g1, g4, g3⟩
theorem RAt.rw {w : xV} {r : Nat} {t : List Nat} (h : RAt w r t) : rw1 w r = t := by
  obtain ⟨h1, h2, h3⟩ := h
  unfold rw1
  apply List.ext_getElem?
  intro k
  by_cases hk : k < t.length
  · have e : t[k]? = some t[k] := List.getElem?_eq_getElem hk
    have := h3 k _ e
    rw [e]
    unfold rowL
    rw [h1, nI_clamp (by omega), List.getElem?_map, List.getElem?_range hk]
    show some (gA w 97 (6 * r + k)).toNatClampNeg = _
    rw [this.2, nI_clamp (by omega)]
  · rw [List.getElem?_eq_none (by rw [rowL_len h1 h2]; omega), List.getElem?_eq_none (by omega)]
theorem mrows_is {w : xV} {L : List (List Nat)} (h : ∀ (r : Nat) (t : List Nat), L[r]? = some t → RAt w r t) : mrows w L.length = L := by
  apply List.ext_getElem?
  intro r
  unfold mrows
  by_cases hr : r < L.length
  · have e : L[r]? = some L[r] := List.getElem?_eq_getElem hr
    rw [List.getElem?_map, List.getElem?_range hr, e]
    show some (rw1 w r) = _
    rw [(h r _ e).rw]
  · rw [List.getElem?_eq_none (by rw [List.length_map, List.length_range]; omega), List.getElem?_eq_none (by omega)]
theorem pj_patterns {E : Nat × (Nat → Int32)} {d : Nat} {c : Nat} {v : xV} (hJ : J c v) : P2 E (d + 9) 121 [.ref 0] 169 [.ref 80] v (J (c + 1)) := by
  obtain ⟨hI, hH, hK, hO, ⟨hX, r1, r2, r3, r4⟩, hC, hM, hD⟩ := id hJ
  obtain ⟨n, hn2, hn, hn'⟩ := hI.T.s
  have hB : ∀ k, k < n → gA v 2 k = nI (gA v 2 k).toNatClampNeg ∧ (gA v 2 k).toNatClampNeg < 256 := by
    intro k _
    obtain ⟨b, hb, e⟩ := hI.T.b k
    rw [e, nI_clamp (by omega)]
    exact ⟨rfl, hb⟩
  refine KI.of ok_121 (Nat.le_of_ble_eq_true rfl) (w_X11_patterns_0 (k_parseX (d := d) hn hn2 hB (fun w k pl dn hF hP h5 hk3 hk6 hk0 => ?_)))
  have hF1 : PaF v (v_I w 1 1 (nI 0)) := hF.pa.trans (PaF.t w _)
  have gB : ∀ u, PaF v u → ∀ k, k < n → gA u 81 k = nI (gA v 2 k).toNatClampNeg ∧ (gA v 2 k).toNatClampNeg < 256 := by
    intro u hu k hk
    rw [hu.2.2 81 (by decide), ← hI.T.e]
    exact hB k hk
  have s39 : gA (v_I w 1 1 (nI 0)) 39 = gA v 39 := hF.2.2.2 39 (by decide)
  have s23 : gA (v_I w 1 1 (nI 0)) 23 = gA v 23 := hF.2.2.2 23 (by decide)
  have s24 : gA (v_I w 1 1 (nI 0)) 24 = gA v 24 := hF.2.2.2 24 (by decide)
  have s96 : gA (v_I w 1 1 (nI 0)) 96 = gA v 96 := hF.2.2.2 96 (by decide)
  have s97 : gA (v_I w 1 1 (nI 0)) 97 = gA v 97 := hF.2.2.2 97 (by decide)
  have s80 : ∀ b, gI (v_I w 1 1 (nI 0)) 80 b = gI v 80 b := fun b => hF.2.2.1 80 b (by decide)
  have s21 : ∀ b, gI (v_I w 1 1 (nI 0)) 21 b = gI v 21 b := fun b => hF.2.2.1 21 b (by decide)
  have g5 : gI (v_I w 1 1 (nI 0)) 17 5 = nI k := h5
  have g1 : gI (v_I w 1 1 (nI 0)) 1 1 = nI 0 := rfl
  rw [bB_0, decide_eq_false_iff_not]
  refine ⟨fun z => ?_, fun z => ?_⟩
  · obtain rfl : k = 0 := Decidable.not_not.mp z
    have hok := prs_ok _ n 241 0 [] [] false Wf.zero pl dn hP
    have hT : TxX (v_I w 1 1 (nI 0)) dn := ⟨hk0 rfl, hok.1⟩
    generalize v_I w 1 1 (nI 0) = w1 at *
    refine k_build (d := d + 5) hT (fun w2 m pw hMa hMI hSD => k_forget ?_)
    have hF2 : PaF v (v_A w2 39 (zto 20 (gA w2 39))) := (hF1.trans hMa.pa).trans (PaF.z w2 _)
    have hT2 := hT.ma hMa
    have h39 : ∀ s, zto 20 (gA w2 39) s = nI 0 := by
      rw [hMa.2.2.2.1 39 (by decide) (by decide), s39]
      exact zto_all hC hJ.num.1.2
    refine k_patM (d := d + 5) (B := fun k => (gA v 2 k).toNatClampNeg) (n := n) (((hMa.2.2.1 80 3 (by decide)).trans (s80 3)).trans hn') hn2 (gB _ hF2) (fun z k' pl' dn' q1 q2 q3 q4 q5 q6 q7 q8 q9 q10 q11 => ?_) (fun z dn' L q1 q2 q3 q4 q5 q6 q7 q8 q9 q10 q11 => ?_)
    · rw [q11] at hP
      have := (Prod.mk.inj hP).1
      omega
    · rw [q11] at hP
      have ed : dn' = dn := (Prod.mk.inj (Prod.mk.inj hP).2).2
      rw [ed] at q3 q10 ⊢
      refine ⟨hMI.2.1, ?_⟩
      have hZ : PaF v z := hF2.trans q1.pa
      obtain ⟨e1, e2, e3, e4⟩ := Ext.pa4 hH hK hO hX hZ
      have z1 : gI z 1 1 = nI 0 := (q1.2.1 1 1 (by decide)).trans ((hMa.2.2.1 1 1 (by decide)).trans g1)
      have nr : nR z = L.length := by
        unfold nR
        rw [q2, nI_clamp (by omega)]
      have z23 : gA z 23 = gA w2 23 := q1.2.2 23 (by decide)
      have z24 : gA z 24 = gA w2 24 := q1.2.2 24 (by decide)
      refine ⟨hI.pa hZ z1 q5, e1, e2, e3, ⟨e4, ⟨dn.length, hok.2, (q1.2.1 21 4 (by decide)).trans hMI.2.1, q3⟩, ⟨0, by decide, (q1.2.1 17 5 (by decide)).trans ((hMa.2.2.1 17 5 (by decide)).trans g5), q6⟩, ?_, m, (fun q => ders (pw q).reverse L), (q1.2.1 21 3 (by decide)).trans hMI.1.1, ?_, ?_⟩, ExC.zero (fun s => ?_), hM.bump ?_ (hZ.2.1 80 62 (by decide)), ?_⟩
      · rw [nr]
        refine ⟨q2, q9, fun r hr => ?_⟩
        obtain ⟨a1, a2, a3⟩ := q7 r L[r] (List.getElem?_eq_getElem hr)
        exact ⟨_, a2, a1, fun i hi => ⟨_, a3 i _ (List.getElem?_eq_getElem hi)⟩⟩
      · rw [z23, z24]
        exact hMI.dfa hT2 hSD q8 q10
      · rw [nr, mrows_is q7]
        show (ders (pw 0).reverse L).Perm L
        rw [hMI.2.2.1]
        exact List.Perm.refl _
      · rw [q1.2.2 39 (by decide)]
        exact h39 s
      · rw [q4]
        show gI w2 80 6 + nI 1 = _
        rw [hMa.2.2.1 80 6 (by decide), s80]
      · obtain ⟨k0, z0, Z, d1, d2, d3⟩ := hD
        exact ⟨k0, z0, Z, hZ.dyn d1, by omega, by omega⟩
  · obtain ⟨h6, hpl⟩ := hk6 z
    rw [h6]
    generalize v_I w 1 1 (nI 0) = w1 at *
    refine k_patM (d := d + 5) (B := fun k => (gA v 2 k).toNatClampNeg) (n := n) ((s80 3).trans hn') hn2 (gB _ hF1) (fun u k' pl' dn' q1 q2 q3 q4 q5 q6 q7 q8 q9 q10 q11 => ?_) (fun u dn' L q1 q2 q3 q4 q5 q6 q7 q8 q9 q10 q11 => ?_)
    · rw [q11] at hP
      have ek : k' = k := (Prod.mk.inj hP).1
      have ep : pl' = pl := (Prod.mk.inj (Prod.mk.inj hP).2).1
      rw [ep]
      refine ⟨rfl, J.up (hJ.paF (hF1.trans q1.pa) ((q1.2.1 1 1 (by decide)).trans g1) q7 ((q1.2.2 39 (by decide)).trans s39) ((q1.2.2 23 (by decide)).trans s23) ((q1.2.2 24 (by decide)).trans s24) ((q1.2.1 21 3 (by decide)).trans (s21 3)) ((q1.2.1 21 4 (by decide)).trans (s21 4)) (q4.trans (s80 30)) (q5.trans (s80 37)) (q6.trans (s80 6)) (fun r hr => by rw [q2 r hr, s96]) (fun r hr => by rw [q3 r hr, s97]) hk3 ((q1.2.1 17 5 (by decide)).trans g5) (by rw [q8, ek]))⟩
    · rw [q11] at hP
      exact absurd (Prod.mk.inj hP).1.symm z

/-! what both sides hold besides -/
def nS (v : xV) : Nat := (gI v 25 12).toNatClampNeg
def nP (v : xV) : Nat := (gI v 25 13).toNatClampNeg
def nD (v : xV) : Nat := (gI v 25 14).toNatClampNeg
def nW (v : xV) : Nat := (gI v 3 7).toNatClampNeg
def nR (v : xV) : Nat := (gI v 80 30).toNatClampNeg
def nA (v : xV) : Nat := (gI v 11 7).toNatClampNeg
def nF (v : xV) : Nat := (gI v 60 6).toNatClampNeg
def ExH (v : xV) : Prop := IvH (gA v 9) (gA v 10) (gA v 93) (gA v 94) (gA v 95)
/-- a fact about scrawls comes after them -/
def fDy (D : Nat → Int32) (x a b k : Int32) : Prop := (x = nI 1 ∨ x = nI 2 → D a.toNatClampNeg ≤ k) ∧ (x = nI 2 → D b.toNatClampNeg ≤ k)
def ExK (v : xV) : Prop := IvD 80 (gI v 60 6) (gI v 80 70) ∧ (gA v 61 = gA v 121 ∧ gA v 62 = gA v 122 ∧ gA v 63 = gA v 123 ∧ gA v 64 = gA v 124 ∧ gA v 65 = gA v 125 ∧ gA v 66 = gA v 126) ∧ (∀ i, i < nF v → fAb (gA v 14) (gA v 8) (nA v) (nS v) (nW v) (gA v 61 i) (gA v 62 i) (gA v 63 i) ∧ fYr (gA v 61 i) (gA v 64 i) (gA v 65 i) ∧ fDy (gA v 29) (gA v 61 i) (gA v 62 i) (gA v 63 i) (gA v 66 i)) ∧ (∀ i j, i ≤ j → j < nF v → gA v 66 i ≤ gA v 66 j) ∧ ∀ i, i < nF v → gA v 66 i ≤ gI v 0 13
def ExO (v : xV) : Prop := (∀ i, i < nS v → isLay (gA v 14) (nA v) (gA v 26 i) (gA v 27 i) ∧ nI 1 ≤ gA v 28 i) ∧ (∀ i j, i ≤ j → j < nS v → gA v 29 i ≤ gA v 29 j) ∧ (∀ i, i < nS v → gA v 29 i ≤ gI v 0 13) ∧ ∀ w, w < nW v → nI 1 ≤ gA v 7 w
/-- streets: from i to j of length e -/
def edge (A B L : Nat → Int32) (n i j e : Nat) : Prop := (i < 12 ∧ j < 12 ∧ e ≤ 99) ∧ ∃ k, k < n ∧ ((A k = nI i ∧ B k = nI j) ∨ (A k = nI j ∧ B k = nI i)) ∧ L k = nI e
def walkN (ed : Nat → Nat → Nat → Prop) : Nat → Nat → Nat → Nat → Prop
  | 0, i, j, c => i = j ∧ c = 0
  | n + 1, i, j, c => ∃ m e c', ed i m e ∧ walkN ed n m j c' ∧ c = e + c'
def path (ed : Nat → Nat → Nat → Prop) (i j c : Nat) : Prop := ∃ n, walkN ed n i j c
/-- least ways, or a million -/
def wayOK (ed : Nat → Nat → Nat → Prop) (f : Nat → Int32) : Prop := ∀ i j, i < 12 → j < 12 → ∃ x, x ≤ 1000000 ∧ f (12 * i + j) = nI x ∧ (x < 1000000 → path ed i j x) ∧ ∀ c, path ed i j c → x ≤ c
def nT (v : xV) : Nat := (gI v 11 6).toNatClampNeg
def ExX (v : xV) : Prop := IvD 30 (gI v 11 6) (gI v 80 21) ∧ (∀ k, k < nT v → isN 12 (gA v 88 k) ∧ isN 12 (gA v 89 k) ∧ ∃ e, (1 ≤ e ∧ e ≤ 99) ∧ gA v 90 k = nI e) ∧ wayOK (edge (gA v 88) (gA v 89) (gA v 90) (nT v)) (gA v 12)
def ExR (v : xV) : Prop := ExX v ∧ IvD 8 (gI v 21 4) (gI v 80 37) ∧ IvD 3 (gI v 17 5) (gI v 80 27) ∧ RowsM v (nR v) ∧ ∃ Qn Lf, gI v 21 3 = nI Qn ∧ DFA (gA v 23) (gA v 24) Qn Lf ∧ (Lf 0).Perm (mrows v (nR v))
def ExC (v : xV) : Prop := (∀ s, gA v 39 s = nI 0 ∨ gA v 39 s = nI 1) ∧ (∀ s, nS v ≤ s → gA v 39 s = nI 0) ∧ (∀ s, gA v 39 s = nI 1 → isO (nP v) (gA v 40 s) ∧ ∀ q, q < 4 → isO (nD v) (gA v 41 (4 * s + q))) ∧ CInv v (mrows v (nR v)) (nS v)
def ExM (c : Nat) (v : xV) : Prop := ∃ n m, (1 ≤ n ∧ n ≤ c + 1 ∧ m ≤ n) ∧ gI v 80 6 = nI n ∧ gI v 80 62 = nI m ∧ (m = n → ∀ s, s < nS v → gA v 103 s ≤ gI v 80 61 → FreshM v (gI v 80 61) (nP v) (nD v) (nR v) s)
def ExD (c : Nat) (v : xV) : Prop := ∃ k0 z0 Z, DynX k0 z0 v Z ∧ k0 ≤ 140 + 10 * c ∧ z0 ≤ 133535 + 1000 * c
def Ext (c : Nat) (v : xV) : Prop := ExH v ∧ ExK v ∧ ExO v ∧ ExR v ∧ ExC v ∧ ExM c v ∧ ExD c v
def J (c : Nat) (v : xV) : Prop := Inv c v ∧ Ext c v
theorem J.up {c : Nat} {v : xV} (h : J c v) : J (c + 1) v := by
  obtain ⟨hI, h1, h2, h3, h4, h5, ⟨n, m, h6, h7⟩, k0, z0, Z, h8, h9, h10⟩ := h
  exact ⟨hI, h1, h2, h3, h4, h5, ⟨n, m, by omega, h7⟩, k0, z0, Z, h8, by omega, by omega⟩
theorem Inv.rd {c : Nat} {v v' : xV} (h : Inv c v) (hF : RdF v v') : Inv c v' := by
  obtain ⟨f1, f2, f3, f4⟩ := hF
  unfold Inv
  rw [f1 1 1 (by decide), f1 80 3 (by decide), f1 0 13 (by decide), f1 80 5 (by decide), f1 0 12 (by decide), f1 80 4 (by decide), f1 3 7 (by decide), f1 80 20 (by decide), f1 11 7 (by decide), f1 80 22 (by decide), f1 25 12 (by decide), f1 80 50 (by decide), f1 25 13 (by decide), f1 80 51 (by decide), f1 25 14 (by decide), f1 80 52 (by decide)]
  rw [f3 2 (by decide), f3 81 (by decide), f3 79 (by decide), f3 82 (by decide), f3 5 (by decide), f3 4 (by decide), f3 83 (by decide), f3 84 (by decide), f3 6 (by decide), f3 7 (by decide), f3 8 (by decide), f3 85 (by decide), f3 86 (by decide), f3 87 (by decide), f3 13 (by decide), f3 14 (by decide), f3 91 (by decide), f3 92 (by decide)]
  rw [f3 26 (by decide), f3 27 (by decide), f3 28 (by decide), f3 29 (by decide), f3 100 (by decide), f3 101 (by decide), f3 102 (by decide), f3 103 (by decide), f3 30 (by decide), f3 31 (by decide), f3 32 (by decide), f3 33 (by decide), f3 104 (by decide), f3 105 (by decide), f3 106 (by decide), f3 107 (by decide), f3 34 (by decide), f3 35 (by decide), f3 36 (by decide), f3 37 (by decide), f3 108 (by decide), f3 109 (by decide), f3 110 (by decide), f3 111 (by decide)]
  exact h
theorem Inv.wk {c : Nat} {v v' : xV} (h : Inv c v) (hF : WkF v v') : Inv c v' := by
  obtain ⟨-, -, f1, f3⟩ := hF
  unfold Inv
  rw [f1 1 1 (by decide), f1 80 3 (by decide), f1 0 13 (by decide), f1 80 5 (by decide), f1 0 12 (by decide), f1 80 4 (by decide), f1 3 7 (by decide), f1 80 20 (by decide), f1 11 7 (by decide), f1 80 22 (by decide), f1 25 12 (by decide), f1 80 50 (by decide), f1 25 13 (by decide), f1 80 51 (by decide), f1 25 14 (by decide), f1 80 52 (by decide)]
  rw [f3 2 (by decide), f3 81 (by decide), f3 79 (by decide), f3 82 (by decide), f3 5 (by decide), f3 4 (by decide), f3 83 (by decide), f3 84 (by decide), f3 6 (by decide), f3 7 (by decide), f3 8 (by decide), f3 85 (by decide), f3 86 (by decide), f3 87 (by decide), f3 13 (by decide), f3 14 (by decide), f3 91 (by decide), f3 92 (by decide)]
  rw [f3 26 (by decide), f3 27 (by decide), f3 28 (by decide), f3 29 (by decide), f3 100 (by decide), f3 101 (by decide), f3 102 (by decide), f3 103 (by decide), f3 30 (by decide), f3 31 (by decide), f3 32 (by decide), f3 33 (by decide), f3 104 (by decide), f3 105 (by decide), f3 106 (by decide), f3 107 (by decide), f3 34 (by decide), f3 35 (by decide), f3 36 (by decide), f3 37 (by decide), f3 108 (by decide), f3 109 (by decide), f3 110 (by decide), f3 111 (by decide)]
  exact h
theorem RdF.n {v v' : xV} (h : RdF v v') : nS v' = nS v ∧ nP v' = nP v ∧ nD v' = nD v ∧ nW v' = nW v ∧ nR v' = nR v ∧ nA v' = nA v ∧ nF v' = nF v := by
  unfold nS nP nD nW nR nA nF
  rw [h.1 25 12 (by decide), h.1 25 13 (by decide), h.1 25 14 (by decide), h.1 3 7 (by decide), h.1 80 30 (by decide), h.1 11 7 (by decide), h.1 60 6 (by decide)]
  exact ⟨rfl, rfl, rfl, rfl, rfl, rfl, rfl⟩
theorem WkF.n {v v' : xV} (h : WkF v v') : nS v' = nS v ∧ nP v' = nP v ∧ nD v' = nD v ∧ nW v' = nW v ∧ nR v' = nR v ∧ nA v' = nA v ∧ nF v' = nF v := by
  obtain ⟨-, -, h, -⟩ := h
  unfold nS nP nD nW nR nA nF
  rw [h 25 12 (by decide), h 25 13 (by decide), h 25 14 (by decide), h 3 7 (by decide), h 80 30 (by decide), h 11 7 (by decide), h 60 6 (by decide)]
  exact ⟨rfl, rfl, rfl, rfl, rfl, rfl, rfl⟩
/-- the parts that neither the reader nor the reference's tables touch -/
theorem Ext.four {v v' : xV} (hH : ExH v) (hK : ExK v) (hO : ExO v) (hR : ExR v) (n : nS v' = nS v ∧ nP v' = nP v ∧ nD v' = nD v ∧ nW v' = nW v ∧ nR v' = nR v ∧ nA v' = nA v ∧ nF v' = nF v) (f1 : ∀ a b, a ≠ 49 → ¬ (a = 80 ∧ (b = 61 ∨ b = 62)) → gI v' a b = gI v a b) (f3 : ∀ j, j < 39 ∨ (60 ≤ j ∧ j < 112) ∨ (120 < j ∧ j < 140) → gA v' j = gA v j) : ExH v' ∧ ExK v' ∧ ExO v' ∧ ExR v' := by
  obtain ⟨n1, n2, n3, n4, n5, n6, n7⟩ := n
  refine ⟨?_, ?_, ?_, ?_⟩
  · unfold ExH
    rw [f3 9 (by decide), f3 10 (by decide), f3 93 (by decide), f3 94 (by decide), f3 95 (by decide)]
    exact hH
  · unfold ExK
    rw [n7, n6, n1, n4, f1 60 6 (by decide) (by decide), f1 80 70 (by decide) (by decide), f1 0 13 (by decide) (by decide), f3 61 (by decide), f3 62 (by decide), f3 63 (by decide), f3 64 (by decide), f3 65 (by decide), f3 66 (by decide), f3 121 (by decide), f3 122 (by decide), f3 123 (by decide), f3 124 (by decide), f3 125 (by decide), f3 126 (by decide), f3 14 (by decide), f3 8 (by decide), f3 29 (by decide)]
    exact hK
  · unfold ExO
    rw [n1, n6, n4, f1 0 13 (by decide) (by decide), f3 14 (by decide), f3 26 (by decide), f3 27 (by decide), f3 28 (by decide), f3 29 (by decide), f3 7 (by decide)]
    exact hO
  · unfold ExR ExX nT RowsM mrows rw1
    rw [n5, f1 11 6 (by decide) (by decide), f1 80 21 (by decide) (by decide), f3 12 (by decide), f3 88 (by decide), f3 89 (by decide), f3 90 (by decide), f1 21 4 (by decide) (by decide), f1 80 37 (by decide) (by decide), f1 17 5 (by decide) (by decide), f1 80 27 (by decide) (by decide), f1 80 30 (by decide) (by decide), f1 21 3 (by decide) (by decide), f3 23 (by decide), f3 24 (by decide), f3 96 (by decide), f3 97 (by decide)]
    exact hR
theorem FreshM.rd {v v' : xV} {t : Int32} {P D R s : Nat} (h : FreshM v t P D R s) (hF : RdF v v') : FreshM v' t P D R s := by
  obtain ⟨h1, h2, h4, h5⟩ := hF
  have e1 : ∀ N, Gmt v' s t P D N = Gmt v s t P D N := by
    intro N
    unfold Gmt LCm Gm
    rw [h1 80 20 (by decide), h4 83 (by decide), h4 84 (by decide), h4 85 (by decide), h4 86 (by decide), h4 87 (by decide), h4 9 (by decide), h4 104 (by decide), h4 105 (by decide), h4 106 (by decide), h4 107 (by decide), h4 108 (by decide), h4 109 (by decide), h4 110 (by decide), h4 111 (by decide)]
  have e2 : mrows v' R = mrows v R := by
    unfold mrows rw1
    rw [h4 96 (by decide), h4 97 (by decide)]
  intro N hN hN'
  rw [h4 102 (by decide)] at hN
  rw [e1, e2]
  unfold MOK
  rw [h4 116 (by decide), h4 117 (by decide), h4 118 (by decide), h4 119 (by decide)]
  exact h N hN hN'
theorem Cached.perm {v : xV} {L L' : List (List Nat)} {s N : Nat} {p : Int32} {dr : Nat → Int32} (h : Cached v L s N p dr) (hp : L.Perm L') : Cached v L' s N p dr := by
  unfold Cached RDv RDw at h ⊢
  rw [← UL_perm _ hp, ← rdl_perm _ _ _ hp]
  exact h
theorem CInv.perm {v : xV} {L L' : List (List Nat)} {S : Nat} (h : CInv v L S) (hp : L.Perm L') : CInv v L' S := fun s N a b c e => (h s N a b c e).perm hp
theorem J.num {c : Nat} {v : xV} (h : J c v) : (gI v 25 12 = nI (nS v) ∧ nS v ≤ 20) ∧ (gI v 25 13 = nI (nP v) ∧ nP v ≤ 60) ∧ (gI v 25 14 = nI (nD v) ∧ nD v ≤ 40) ∧ (gI v 3 7 = nI (nW v) ∧ nW v ≤ 80) ∧ (gI v 11 7 = nI (nA v) ∧ nA v ≤ 8) ∧ (gI v 60 6 = nI (nF v) ∧ nF v ≤ 80) := by
  have key : ∀ {N : Nat} {a b : Int32}, N < 2 ^ 31 → IvD N a b → a = nI a.toNatClampNeg ∧ a.toNatClampNeg ≤ N := by
    intro N a b hN ⟨t, ht, e1, _⟩
    subst e1
    rw [nI_clamp (by omega)]
    exact ⟨rfl, ht⟩
  exact ⟨key (by decide) h.1.S.1, key (by decide) h.1.P.1, key (by decide) h.1.G.1, key (by decide) h.1.W.1, key (by decide) h.1.A.1, key (by decide) h.2.2.1.1⟩
theorem J.numM {c : Nat} {v : xV} (h : J c v) : gI v 80 50 = nI (nS v) ∧ gI v 80 51 = nI (nP v) ∧ gI v 80 52 = nI (nD v) ∧ gI v 80 20 = nI (nW v) ∧ gI v 80 22 = nI (nA v) ∧ gI v 80 70 = nI (nF v) := by
  have key : ∀ {N : Nat} {a b : Int32}, N < 2 ^ 31 → IvD N a b → b = nI a.toNatClampNeg := by
    intro N a b hN ⟨t, ht, e1, e2⟩
    subst e1 e2
    rw [nI_clamp (by omega)]
  exact ⟨key (by decide) h.1.S.1, key (by decide) h.1.P.1, key (by decide) h.1.G.1, key (by decide) h.1.W.1, key (by decide) h.1.A.1, key (by decide) h.2.2.1.1⟩
theorem J.pl {c : Nat} {v : xV} (h : J c v) : ∀ s, s < nS v → ∃ n, (1 ≤ n ∧ n ≤ 24) ∧ gA v 28 s = nI n := by
  intro s hs
  obtain ⟨n, hn, e⟩ := h.1.S.2.2.2.2.1 s
  have h1 := (h.2.2.2.1.1 s hs).2
  rw [e, nI_leI (by decide) (by omega)] at h1
  exact ⟨n, ⟨h1, hn⟩, e⟩
theorem J.wl {c : Nat} {v : xV} (h : J c v) : WordX v (nW v) := by
  refine ⟨h.num.2.2.2.1.1, h.num.2.2.2.1.2, fun w hw => ?_, h.1.W.2.2.2.1, h.1.W.2.2.2.2⟩
  obtain ⟨n, hn, e⟩ := h.1.W.2.2.1 w
  have h1 := h.2.2.2.1.2.2.2 w hw
  rw [e, nI_leI (by decide) (by omega)] at h1
  exact ⟨n, ⟨h1, hn⟩, e⟩
theorem J.look {c : Nat} {v : xV} (h : J c v) : ∃ k0 z0 Z Qn Lf, LookX v k0 z0 Z Qn (nP v) (nD v) (nW v) (nS v) Lf ∧ CInv v (Lf 0) (nS v) ∧ (Lf 0).Perm (mrows v (nR v)) ∧ k0 ≤ 140 + 10 * c ∧ z0 ≤ 133535 + 1000 * c := by
  obtain ⟨n1, n2, n3, n4, n5, n6⟩ := h.num
  have hw := h.wl
  have hp := h.pl
  obtain ⟨hI, hH, hK, hO, ⟨-, r1, r2, r3, Qn, Lf, r4, r5, r6⟩, ⟨c1, c2, c3, c4⟩, hM, k0, z0, Z, d1, d2, d3⟩ := h
  refine ⟨k0, z0, Z, Qn, Lf, ⟨⟨hI.G.2.2.2.2.2, hH.2.2.1, hI.F.2.1, hI.F.2.2⟩, hw, d1, r4, r5, fun t ht => ?_, n2, n3, n1, hI.G.2.2.2.1, hp, c1⟩, c4.perm r6.symm, r6, d2, d3⟩
  obtain ⟨r, hr, e⟩ := mem_mrows.mp (r6.mem_iff.mp ht)
  obtain ⟨n, m1, m2, m3⟩ := r3.2.2 r hr
  rw [← e, show (rw1 v r).length = n from rowL_len m2 m1]
  exact m1
theorem J.work {c : Nat} {v : xV} (h : J c v) : WorkM v (nP v) (nD v) (nW v) (nS v) (nR v) := by
  obtain ⟨n1, n2, n3, n4, n5, n6⟩ := h.num
  obtain ⟨m1, m2, m3, m4, m5, m6⟩ := h.numM
  have hw := h.wl
  have hp := h.pl
  obtain ⟨hI, hH, hK, hO, hR, hC, hM, hD⟩ := h
  refine ⟨⟨⟨m2, n2.2⟩, ⟨m3, n3.2⟩, ?_, ?_, ?_, hH⟩, ⟨m4, n4.2, ?_, ?_, ?_⟩, hR.2.2.2.1, ⟨m1, n1.2⟩, ?_⟩
  · rw [← hI.G.2.1.2.2.2]
    exact hI.G.2.2.2.2.2
  · rw [← hI.F.1.1]
    exact hI.F.2.1
  · rw [← hI.F.1.2]
    exact hI.F.2.2
  · rw [← hI.W.2.1.2.1]
    exact hw.2.2.1
  · rw [← hI.W.2.1.1]
    exact hw.2.2.2.1
  · rw [← hI.W.2.1.2.2]
    exact hw.2.2.2.2
  · rw [← hI.S.2.1.2.2.1]
    exact hp
/-- one reading, both ways -/
theorem J.gx {c : Nat} {v : xV} (h : J c v) (s : Nat) (t : Int32) (N : Nat) : Gmt v s t (nP v) (nD v) N = Gx v (LCx v (evP v s t (nP v)) (evD v s t (nD v))) N := by
  obtain ⟨m1, m2, m3, m4, m5, m6⟩ := h.numM
  obtain ⟨n1, n2, n3, n4, n5, n6⟩ := h.num
  have hI := h.1
  unfold Gmt Gm Gx LCm LCx evP evD
  rw [m4, n4.1, ← hI.W.2.1.1, ← hI.W.2.1.2.1, ← hI.W.2.1.2.2, ← hI.F.1.1, ← hI.F.1.2, ← hI.P.2.1.1, ← hI.P.2.1.2.1, ← hI.P.2.1.2.2.1, ← hI.P.2.1.2.2.2, ← hI.G.2.1.1, ← hI.G.2.1.2.1, ← hI.G.2.1.2.2.1, ← hI.G.2.1.2.2.2]

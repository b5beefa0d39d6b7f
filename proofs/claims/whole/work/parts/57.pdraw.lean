theorem l_drw {L tp : Nat → Int32} {b s : Nat} (h : ∀ i, L i = -1 ∨ ∃ n, n < 26 ∧ L i = nI n) (ht : ∀ i, i < s → sml (tp i) ∨ tp i = nI 46) : ∀ i, putf L (fun i => drw (tp i)) b s i = -1 ∨ ∃ n, n < 26 ∧ putf L (fun i => drw (tp i)) b s i = nI n := by
  intro i
  unfold putf
  split
  · by_cases e : tp (i - b) = nI 46
    · exact Or.inl (drw_t e)
    · refine Or.inr ?_
      rcases ht (i - b) (by omega) with q | q
      · obtain ⟨n, h1, h2, e2⟩ := i_btw (by decide) (by decide) q.1 q.2
        refine ⟨n - 97, by omega, ?_⟩
        show drw (tp (i - b)) = _
        rw [drw_f e, e2, nI_sub h1]
      · exact absurd q e
  · exact h i
theorem p_drawing {E : Nat × (Nat → Int32)} {d c : Nat} {v : xV} {x y : Int32} (hI : Inv c v) : P2 E (d + 2) 125 [.ref 0, .int x, .int y] 175 [.ref 80, .int x, .int y] v (Inv c) := by
  obtain ⟨s, hs, s1, s2⟩ := hI.T.s
  have e4 := hI.T.e
  obtain ⟨⟨S, hS, S1, S2⟩, ⟨f1, f2, f3, f4⟩, b1, b2, b3, b4⟩ := hI.S
  obtain ⟨⟨H, hH, H1, H2⟩, ⟨g1, g2, g3, g4⟩, c1, c2, c3, c4⟩ := hI.G
  obtain ⟨t, ht, t1, t2⟩ := hI.D
  have b3' : ∀ i, ∃ n, n ≤ 24 ∧ gA v 102 i = nI n := by rw [← f3]; exact b3
  refine k_drawX s1 hs S1 hS b3 H1 hH (fun h => k_drawM (s := s) (S := S) (Dr := H) s2 hs S2 hS b3' H2 hH (fun _ => ⟨rfl, ⟨e4, ⟨0, by omega, rfl, rfl⟩, hI.T.b⟩, hI.2⟩) (fun q => ?_)) (fun h => k_drawM (s := s) (S := S) (Dr := H) s2 hs S2 hS b3' H2 hH (fun q => ?_) (fun _ => ?_))
  · have q : dGood (gA v 81) (gA v 102) S H s x y := q
    rw [← e4, ← f3] at q
    exact absurd q h
  · have q : ¬ dGood (gA v 81) (gA v 102) S H s x y := q
    rw [← e4, ← f3] at q
    exact absurd h q
  · obtain ⟨w, m, q1, rfl, q5, q3, q4⟩ := h
    obtain ⟨k, _, hk, rfl⟩ := i_btw' (by decide) (by decide) q5.1 q5.2
    refine ⟨rfl, ⟨e4, ⟨0, by omega, rfl, rfl⟩, hI.T.b⟩, hI.2.1, hI.2.2.1, hI.2.2.2.1, hI.2.2.2.2.1, hI.2.2.2.2.2.1, hI.2.2.2.2.2.2.1, hI.2.2.2.2.2.2.2.1, ⟨H + 1, q1.2.2.1, rfl, rfl⟩, ⟨?_, ?_, ?_, ?_⟩, l_upd c1 H (by omega), l_upd c2 H hk, ?_, l_drw (tp := gA v 2) (b := 24 * H) (s := s) c4 (fun i hi => q4 i (by omega))⟩
    · show upd (gA v 34) H (nI w) = upd (gA v 108) H (nI w)
      rw [g1]
    · show upd (gA v 35) H (nI k) = upd (gA v 109) H (nI k)
      rw [g2]
    · show upd (gA v 36) H (gI v 0 13) = upd (gA v 110) H (gI v 80 5)
      rw [g3, t1, t2]
    · show putf (gA v 37) (fun i => drw (gA v 2 i)) (24 * H) s = putf (gA v 111) (fun i => drw (gA v 81 i)) (24 * H) s
      rw [g4, e4]
    · show ∀ i, ∃ n, n ≤ 999 ∧ upd (gA v 36) H (gI v 0 13) i = nI n
      rw [t1]
      exact n_upd c3 H ht

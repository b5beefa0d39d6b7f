theorem l_putf {N : Nat} {L g : Nat → Int32} {b n : Nat} (h : ∀ i, ∃ n, n < N ∧ L i = nI n) (ht : ∀ i, ∃ n, n < N ∧ g i = nI n) : ∀ i, ∃ m, m < N ∧ putf L g b n i = nI m := by
  intro i
  unfold putf
  split
  · exact ht _
  · exact h i
theorem p_photo {E : Nat × (Nat → Int32)} {d c : Nat} {v : xV} {x : Int32} (hI : Inv c v) : P2 E (d + 2) 124 [.ref 0, .int x] 174 [.ref 80, .int x] v (Inv c) := by
  obtain ⟨s, hs, s1, s2⟩ := hI.T.s
  have e4 := hI.T.e
  obtain ⟨⟨S, hS, S1, S2⟩, ⟨f1, f2, f3, f4⟩, b1, b2, b3, b4⟩ := hI.S
  obtain ⟨⟨H, hH, H1, H2⟩, ⟨g1, g2, g3, g4⟩, c1, c2, c3, c4⟩ := hI.P
  obtain ⟨t, ht, t1, t2⟩ := hI.D
  have b3' : ∀ i, ∃ n, n ≤ 24 ∧ gA v 102 i = nI n := by rw [← f3]; exact b3
  refine k_photoX s1 hs S1 hS b3 H1 hH (fun h => k_photoM (s := s) (S := S) (Ph := H) s2 hs S2 hS b3' H2 hH (fun _ => ⟨rfl, ⟨e4, ⟨0, by omega, rfl, rfl⟩, hI.T.b⟩, hI.2⟩) (fun q => ?_)) (fun h n hn => k_photoM (s := s) (S := S) (Ph := H) s2 hs S2 hS b3' H2 hH (fun q => ?_) (fun _ n' hn' => ?_))
  · have q : pGood (gA v 81) (gA v 102) S H s x := q
    rw [← e4, ← f3] at q
    exact absurd q h
  · have q : ¬ pGood (gA v 81) (gA v 102) S H s x := q
    rw [← e4, ← f3] at q
    exact absurd h q
  · obtain rfl : n' = n := by omega
    obtain ⟨w, m, q1, rfl, q3, q4⟩ := h
    refine ⟨rfl, ⟨e4, ⟨0, by omega, rfl, rfl⟩, hI.T.b⟩, hI.2.1, hI.2.2.1, hI.2.2.2.1, hI.2.2.2.2.1, hI.2.2.2.2.2.1, hI.2.2.2.2.2.2.1, ⟨⟨H + 1, q1.2.2.1, rfl, rfl⟩, ⟨?_, ?_, ?_, ?_⟩, l_upd c1 H (by omega), ?_, l_putf (g := fun i => gA v 2 (2 * i)) (b := 24 * H) (n := n') c3 (fun i => hI.T.b (2 * i)), l_putf (g := fun i => gA v 2 (2 * i + 1)) (b := 24 * H) (n := n') c4 (fun i => hI.T.b (2 * i + 1))⟩, hI.2.2.2.2.2.2.2.2⟩
    · show upd (gA v 30) H (nI w) = upd (gA v 104) H (nI w)
      rw [g1]
    · show upd (gA v 31) H (gI v 0 13) = upd (gA v 105) H (gI v 80 5)
      rw [g2, t1, t2]
    · show putf (gA v 32) (fun i => gA v 2 (2 * i)) (24 * H) n' = putf (gA v 106) (fun i => gA v 81 (2 * i)) (24 * H) n'
      rw [g3, e4]
    · show putf (gA v 33) (fun i => gA v 2 (2 * i + 1)) (24 * H) n' = putf (gA v 107) (fun i => gA v 81 (2 * i + 1)) (24 * H) n'
      rw [g4, e4]
    · show ∀ i, ∃ n, n ≤ 999 ∧ upd (gA v 31) H (gI v 0 13) i = nI n
      rw [t1]
      exact n_upd c2 H ht

theorem n_upd {N : Nat} {f : Nat → Int32} (h : ∀ i, ∃ n, n ≤ N ∧ f i = nI n) (k : Nat) {n : Nat} (hn : n ≤ N) : ∀ i, ∃ m, m ≤ N ∧ upd f k (nI n) i = nI m := by
  intro i
  rw [upd_i]
  split
  · exact ⟨n, hn, rfl⟩
  · exact h i
theorem l_upd {N : Nat} {f : Nat → Int32} (h : ∀ i, ∃ n, n < N ∧ f i = nI n) (k : Nat) {n : Nat} (hn : n < N) : ∀ i, ∃ m, m < N ∧ upd f k (nI n) i = nI m := by
  intro i
  rw [upd_i]
  split
  · exact ⟨n, hn, rfl⟩
  · exact h i
theorem l_putw {L tp : Nat → Int32} {b s : Nat} (h : ∀ i, ∃ n, n < 26 ∧ L i = nI n) (ht : ∀ i, i < s → sml (tp i)) : ∀ i, ∃ n, n < 26 ∧ putw L tp b s i = nI n := by
  intro i
  unfold putw
  split
  · obtain ⟨q1, q2⟩ := ht (i - b) (by omega)
    have h0 : nI 0 ≤ tp (i - b) := by
      rw [Int32.le_iff_toInt_le] at q1 ⊢
      rw [nI_toInt (by decide)] at q1 ⊢
      omega
    obtain ⟨n, hn, e⟩ := nI_of (i_nlt.mpr h0)
    rw [e, nI_leI (by decide) hn] at q1
    rw [e, nI_leI hn (by decide)] at q2
    rw [e, nI_sub q1]
    exact ⟨n - 97, by omega, rfl⟩
  · exact h i
theorem p_form {E : Nat × (Nat → Int32)} {d c : Nat} {v : xV} {x y : Int32} (hI : Inv c v) : P2 E (d + 2) 116 [.ref 0, .int y, .int x] 155 [.ref 80, .int y, .int x] v (Inv c) := by
  by_cases hb : (nI 0 ≤ y ∧ y < nI 26) ∧ (nI 1 ≤ x ∧ x ≤ nI 255)
  · obtain ⟨⟨hy1, hy2⟩, hx1, hx2⟩ := hb
    obtain ⟨l, hl, rfl⟩ := nI_of (i_nlt.mpr hy1)
    rw [nI_ltI hl (by decide)] at hy2
    obtain ⟨⟨e1, e2⟩, hF, hG⟩ := hI.F
    obtain ⟨n, hn, hc⟩ := hF l
    have hc' : gA v 83 l = nI n := by rw [← e1]; exact hc
    have hxb : ∃ b, b < 256 ∧ x = nI b := by
      have h0 : nI 0 ≤ x := by
        rw [Int32.le_iff_toInt_le] at hx1 ⊢
        rw [nI_toInt (by decide)] at hx1 ⊢
        omega
      obtain ⟨b, hb, e⟩ := nI_of (i_nlt.mpr h0)
      rw [e, nI_leI hb (by decide)] at hx2
      exact ⟨b, by omega, e⟩
    refine k_formX hy2 hx1 hx2 hc hn (fun h => ?_) (fun h h' => ?_)
    · refine k_formM hy2 hx1 hx2 hc' hn (fun _ => ⟨rfl, hI⟩) (fun q1 q2 => ?_)
      rcases h with h | h
      · omega
      · rw [e2] at h
        exact absurd h q2
    · refine k_formM hy2 hx1 hx2 hc' hn (fun q => ?_) (fun _ _ => ⟨rfl, hI.1, hI.2.1, hI.2.2.1, ⟨⟨?_, ?_⟩, n_upd hF l (by omega), b_upd hG _ hxb⟩, hI.2.2.2.2⟩)
      · rcases q with q | q
        · omega
        · have q : frm (gA v 84) l n x := q
          rw [← e2] at q
          exact absurd q h'
      · show upd (gA v 5) l (nI (n + 1)) = upd (gA v 83) l (nI (n + 1))
        rw [e1]
      · show upd (gA v 4) (3 * l + n) x = upd (gA v 84) (3 * l + n) x
        rw [e2]
  · exact k_formXN hb (k_formMN hb ⟨rfl, hI⟩)
theorem p_word {E : Nat × (Nat → Int32)} {d c : Nat} {v : xV} {x : Int32} (hI : Inv c v) : P2 E (d + 3) 117 [.ref 0, .int x] 157 [.ref 80, .int x] v (Inv c) := by
  obtain ⟨s, hs, s1, s2⟩ := hI.T.s
  obtain ⟨⟨W, hW, w1, w2⟩, ⟨e1, e2, e3⟩, hLn, hL, hSo⟩ := hI.W
  have e4 := hI.T.e
  refine k_wordX s1 hs w1 hW hLn (fun h => ?_) (fun h => ?_)
  · refine k_wordM (s := s) (W := W) s2 hs w2 hW (fun _ => ⟨rfl, ⟨e4, ⟨0, by omega, rfl, rfl⟩, hI.T.b⟩, hI.2⟩) (fun q => ?_)
    have q : wGood (gA v 85) (gA v 86) (gA v 87) (gA v 81) W s x := q
    rw [← e1, ← e2, ← e3, ← e4] at q
    exact absurd q h
  · refine k_wordM (s := s) (W := W) s2 hs w2 hW (fun q => ?_) (fun _ => ⟨rfl, ⟨e4, ⟨0, by omega, rfl, rfl⟩, hI.T.b⟩, hI.2.1, hI.2.2.1, hI.2.2.2.1, ⟨⟨W + 1, h.1, rfl, rfl⟩, ⟨?_, ?_, ?_⟩, n_upd hLn W h.2.2.1.2.1, l_putw hL h.2.2.1.2.2, ?_⟩, hI.2.2.2.2.2⟩)
    · have q : ¬ wGood (gA v 85) (gA v 86) (gA v 87) (gA v 81) W s x := q
      rw [← e1, ← e2, ← e3, ← e4] at q
      exact absurd h q
    · show putw (gA v 6) (gA v 2) (10 * W) s = putw (gA v 85) (gA v 81) (10 * W) s
      rw [e1, e4]
    · show upd (gA v 7) W (nI s) = upd (gA v 86) W (nI s)
      rw [e2]
    · show upd (gA v 8) W x = upd (gA v 87) W x
      rw [e3]
    · obtain ⟨n, hn, rfl⟩ := nI_of (i_nlt.mpr h.2.1.1)
      have := h.2.1.2
      rw [nI_ltI hn (by decide)] at this
      exact l_upd hSo W this

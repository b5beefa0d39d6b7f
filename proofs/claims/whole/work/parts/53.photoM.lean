theorem k_photoM {E : Nat × (Nat → Int32)} {d : Nat} {v : xV} {x : Int32} {S Ph s : Nat} {Q : Int32 → xV → Prop} (hs : gI v 80 3 = nI s) (h2 : s ≤ 240) (hS : gI v 80 50 = nI S) (hS2 : S ≤ 20) (hP : ∀ i, ∃ n, n ≤ 24 ∧ gA v 102 i = nI n) (hH : gI v 80 51 = nI Ph) (hH2 : Ph ≤ 60)
    (k1 : ¬ pGood (gA v 81) (gA v 102) S Ph s x → Q (nI 0) (v_I (v_I v 80 0 (nI 0)) 80 3 (nI 0)))
    (k2 : pGood (gA v 81) (gA v 102) S Ph s x → ∀ n, s = 2 * n → Q (nI 1) (v_I (v_I (v_A (v_A (v_A (v_A (v_I (v_I v 80 0 (nI 0)) 80 3 (nI 0)) 106 (putf (gA v 106) (fun i => gA v 81 (2 * i)) (24 * Ph) n)) 107 (putf (gA v 107) (fun i => gA v 81 (2 * i + 1)) (24 * Ph) n)) 104 (upd (gA v 104) Ph x)) 105 (upd (gA v 105) Ph (gI v 80 5))) 80 51 (nI (Ph + 1))) 80 6 (gI v 80 6 + nI 1))) : KI E (d + 1) 174 [.ref 80, .int x] v Q := by
  generalize hu : v_I (v_I v 80 0 (nI 0)) 80 3 (nI 0) = u at k1 k2
  have uS : gI u 80 50 = nI S := by rw [← hu]; exact hS
  have uH : gI u 80 51 = nI Ph := by rw [← hu]; exact hH
  have u6 : gI u 80 6 = gI v 80 6 := by rw [← hu]; rfl
  have u5 : gI u 80 5 = gI v 80 5 := by rw [← hu]; rfl
  have uA : gA u = gA v := by rw [← hu]; rfl
  rw [← uA] at k1 k2 hP
  rw [← u6, ← u5] at k2
  refine KI.of ok_174 (Nat.le_of_ble_eq_true rfl) (w_X12_photo_0 (k_take ?_))
  rw [hu, show gI (v_I v 80 0 (nI 0)) 80 3 = nI s from hs]
  refine k_isScrM uS hS2 (fun w hw e => ⟨fun h0 => absurd h0 nI_01, fun _ => ?_⟩) (fun h => ⟨fun _ => k1 (fun ⟨w, n, g1, g2, _⟩ => h ⟨w, g1.1, g2⟩), fun h0 => absurd rfl h0⟩)
  subst e
  obtain ⟨n, hn, en⟩ := hP w
  have un : pGood (gA u 81) (gA u 102) S Ph s (nI w) → Ph < 60 ∧ s = 2 * n ∧ ∀ i, i < n → gA u 81 (2 * i) &&& gA u 81 (2 * i + 1) = nI 0 := by
    rintro ⟨w', n', g1, g2, g3, g4⟩
    rw [nI_inj (by omega) (by omega)] at g2
    subst g2
    rw [en, nI_inj (by omega) (by omega)] at g3
    subst g3
    exact ⟨g1.2.2.1, g1.2.2.2, g4⟩
  rw [nI_clamp (by omega), en, pk_mul, nI_inj (by omega) (by omega), uH, nI_inj (by omega) (by decide)]
  have hiw : vp_in (nI w) 20 := vp_in_nI (by omega) (by decide)
  refine ⟨hiw, fun h => k1 (fun g => h (un g).2.1), fun h3 => ⟨fun h => ?_, fun h => k1 (fun g => by have := (un g).1; omega)⟩⟩
  have step3 : pGood (gA u 81) (gA u 102) S Ph s (nI w) → ∀ (m i : Nat), i + m = n → RI E (d + 1) 174 76 [(0, .ref 80), (1, .int (nI w)), (3, .int (nI i))] (v_A (v_A u 106 (putf (gA u 106) (fun i => gA u 81 (2 * i)) (24 * Ph) i)) 107 (putf (gA u 107) (fun i => gA u 81 (2 * i + 1)) (24 * Ph) i)) Q := by
    intro hg m
    induction m with
    | zero =>
      intro i hi
      obtain rfl : i = n := by omega
      refine w_X12_photo_76 ?_
      rw [nI_clamp (by omega : w < 2 ^ 31), show gA (v_A (v_A u 106 (putf (gA u 106) (fun i => gA u 81 (2 * i)) (24 * Ph) i)) 107 (putf (gA u 107) (fun i => gA u 81 (2 * i + 1)) (24 * Ph) i)) 102 w = nI i from en, show gI (v_A (v_A u 106 (putf (gA u 106) (fun i => gA u 81 (2 * i)) (24 * Ph) i)) 107 (putf (gA u 107) (fun i => gA u 81 (2 * i + 1)) (24 * Ph) i)) 80 51 = nI Ph from uH, nI_add Ph 1, nI_clamp (by omega : Ph < 2 ^ 31), nI_leI (by omega) (by omega)]
      exact ⟨hiw, fun _ => ⟨vp_in_nI (by omega) (by decide), vp_in_nI (by omega) (by decide), k2 hg i h3⟩, fun hx => by omega⟩
    | succ m ih =>
      intro i hi
      refine w_X12_photo_76 ?_
      rw [nI_clamp (by omega : w < 2 ^ 31), show gA (v_A (v_A u 106 (putf (gA u 106) (fun i => gA u 81 (2 * i)) (24 * Ph) i)) 107 (putf (gA u 107) (fun i => gA u 81 (2 * i + 1)) (24 * Ph) i)) 102 w = nI n from en, show gI (v_A (v_A u 106 (putf (gA u 106) (fun i => gA u 81 (2 * i)) (24 * Ph) i)) 107 (putf (gA u 107) (fun i => gA u 81 (2 * i + 1)) (24 * Ph) i)) 80 51 = nI Ph from uH, nI_leI (by omega) (by omega), pk_mul 2 i, pk_mul 24 Ph, nI_add (24 * Ph) i, nI_add (2 * i) 1, nI_add i 1, nI_clamp (by omega : 24 * Ph + i < 2 ^ 31), nI_clamp (by omega : 2 * i < 2 ^ 31), nI_clamp (by omega : 2 * i + 1 < 2 ^ 31)]
      refine ⟨hiw, fun hx => by omega, fun _ => ⟨vp_in_nI (by omega) (by decide), vp_in_nI (by omega) (by decide), vp_in_nI (by omega) (by decide), vp_in_nI (by omega) (by decide), ?_⟩⟩
      have := ih (i + 1) (by omega)
      rw [← putf_s, ← putf_s] at this
      rw [vA2 _ (by decide)]
      exact this
  have step2 : Ph < 60 → ∀ (m i : Nat), i + m = n → (∀ j, j < i → gA u 81 (2 * j) &&& gA u 81 (2 * j + 1) = nI 0) → RI E (d + 1) 174 43 [(0, .ref 80), (1, .int (nI w)), (2, .int (nI s)), (3, .int (nI (2 * i)))] u Q := by
    intro hp m
    induction m with
    | zero =>
      intro i hi hf
      obtain rfl : i = n := by omega
      refine w_X12_photo_43 ?_
      rw [nI_leI (by omega) (by omega)]
      refine ⟨fun _ => ?_, fun hx => by omega⟩
      have := step3 ⟨w, i, by omega, rfl, en, hf⟩ i 0 (by omega)
      rw [putf_0, putf_0, vAself] at this
      rw [show v_A u 107 (gA u 107) = u from vAself u 107] at this
      exact this
    | succ m ih =>
      intro i hi hf
      refine w_X12_photo_43 ?_
      rw [nI_leI (by omega) (by omega), nI_add (2 * i) 1, nI_add (2 * i) 2, nI_clamp (by omega : 2 * i < 2 ^ 31), nI_clamp (by omega : 2 * i + 1 < 2 ^ 31)]
      refine ⟨fun hx => by omega, fun _ => ⟨vp_in_nI (by omega) (by decide), vp_in_nI (by omega) (by decide), fun hx => ih (i + 1) (by omega) (fun j hj => ?_), fun hx => k1 (fun g => hx ((un g).2.2 i (by omega)))⟩⟩
      by_cases e : j = i
      · subst e
        exact hx
      · exact hf j (by omega)
  exact step2 (by omega) n 0 (by omega) (fun j hj => by omega)

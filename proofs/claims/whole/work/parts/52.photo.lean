/-! photos -/
def putf (L g : Nat → Int32) (b n : Nat) : Nat → Int32 := fun i => if b ≤ i ∧ i < b + n then g (i - b) else L i
theorem putf_0 (L g : Nat → Int32) (b : Nat) : putf L g b 0 = L := by
  funext i
  unfold putf
  rw [if_neg (by omega)]
theorem putf_s (L g : Nat → Int32) (b n : Nat) : upd (putf L g b n) (b + n) (g n) = putf L g b (n + 1) := by
  funext i
  rw [upd_i]
  unfold putf
  by_cases h : i = b + n
  · subst h
    rw [if_pos rfl, if_pos (by omega), Nat.add_sub_cancel_left]
  · rw [if_neg h]
    by_cases h2 : b ≤ i ∧ i < b + n
    · rw [if_pos h2, if_pos (by omega)]
    · rw [if_neg h2, if_neg (by omega)]
theorem vA2 (v : xV) {i j : Nat} (h : i < j) (a b a' b' : Nat → Int32) : v_A (v_A (v_A (v_A v i a) j b) i a') j b' = v_A (v_A v i a') j b' := by rw [vA_c _ h, vA_s, vA_s]
theorem k_isScrX {E : Nat × (Nat → Int32)} {d : Nat} {v : xV} {x : Int32} {S : Nat} {Q : Int32 → xV → Prop} (hS : gI v 25 12 = nI S) (hS2 : S ≤ 20) (k1 : ∀ w, w < S → x = nI w → Q (nI 1) v) (k2 : (¬ ∃ w, w < S ∧ x = nI w) → Q (nI 0) v) : KI E d 7 [.ref 25, .int x] v Q := by
  refine KI.of ok_7 (Nat.le_of_ble_eq_true rfl) (w_X1_isScrawl_0 ⟨fun h => k2 (fun ⟨w, h1, h2⟩ => ?_), fun h => ?_⟩)
  · rw [h2] at h
    exact nz_lt (by omega) h
  · obtain ⟨w, hw, rfl⟩ := nI_of h
    rw [hS, nI_leI (by omega) hw]
    refine ⟨fun h => k2 (fun ⟨w', h1, h2⟩ => ?_), fun h => k1 w (by omega) rfl⟩
    rw [nI_inj hw (by omega)] at h2
    omega
theorem k_isScrM {E : Nat × (Nat → Int32)} {d : Nat} {v : xV} {x : Int32} {S : Nat} {Q : Int32 → xV → Prop} (hS : gI v 80 50 = nI S) (hS2 : S ≤ 20) (k1 : ∀ w, w < S → x = nI w → Q (nI 1) v) (k2 : (¬ ∃ w, w < S ∧ x = nI w) → Q (nI 0) v) : KI E d 172 [.ref 80, .int x] v Q := by
  refine KI.of ok_172 (Nat.le_of_ble_eq_true rfl) (w_X12_isScrawl_0 ⟨fun h => k2 (fun ⟨w, h1, h2⟩ => ?_), fun h => ?_⟩)
  · rw [h2] at h
    exact nz_lt (by omega) h
  · obtain ⟨w, hw, rfl⟩ := nI_of h
    rw [hS, nI_leI (by omega) hw]
    refine ⟨fun h => k2 (fun ⟨w', h1, h2⟩ => ?_), fun h => k1 w (by omega) rfl⟩
    rw [nI_inj hw (by omega)] at h2
    omega
def pGood (tp P : Nat → Int32) (S Ph s : Nat) (x : Int32) : Prop := ∃ w n, (w < S ∧ n ≤ 24 ∧ Ph < 60 ∧ s = 2 * n) ∧ x = nI w ∧ P w = nI n ∧ ∀ i, i < n → tp (2 * i) &&& tp (2 * i + 1) = nI 0
theorem k_photoX {E : Nat × (Nat → Int32)} {d : Nat} {v : xV} {x : Int32} {S Ph s : Nat} {Q : Int32 → xV → Prop} (hs : gI v 1 1 = nI s) (h2 : s ≤ 240) (hS : gI v 25 12 = nI S) (hS2 : S ≤ 20) (hP : ∀ i, ∃ n, n ≤ 24 ∧ gA v 28 i = nI n) (hH : gI v 25 13 = nI Ph) (hH2 : Ph ≤ 60)
    (k1 : ¬ pGood (gA v 2) (gA v 28) S Ph s x → Q (nI 0) (v_I v 1 1 (nI 0)))
    (k2 : pGood (gA v 2) (gA v 28) S Ph s x → ∀ n, s = 2 * n → Q (nI 1) (v_I (v_I (v_A (v_A (v_A (v_A v 32 (putf (gA v 32) (fun i => gA v 2 (2 * i)) (24 * Ph) n)) 33 (putf (gA v 33) (fun i => gA v 2 (2 * i + 1)) (24 * Ph) n)) 30 (upd (gA v 30) Ph x)) 31 (upd (gA v 31) Ph (gI v 0 13))) 25 13 (nI (Ph + 1))) 1 1 (nI 0))) : KI E (d + 2) 124 [.ref 0, .int x] v Q := by
  have kk1 : ¬ pGood (gA v 2) (gA v 28) S Ph s x → vp_in (nI 0) 2 ∧ Q (nI 0) (v_I v 1 1 (nI 0)) := fun h => ⟨vp_in_nI (by decide) (by decide), k1 h⟩
  refine KI.of ok_124 (Nat.le_of_ble_eq_true rfl) (w_X11_photo_0 (KI.of ok_5 (Nat.le_of_ble_eq_true rfl) (w_X1_addPhoto_0 (k_isScrX hS hS2 (fun w hw e => ⟨fun h0 => absurd h0 nI_01, fun _ => ?_⟩) (fun h => ⟨fun _ => kk1 (fun ⟨w, n, g1, g2, _⟩ => h ⟨w, g1.1, g2⟩), fun h0 => absurd rfl h0⟩)))))
  subst e
  obtain ⟨n, hn, en⟩ := hP w
  have un : pGood (gA v 2) (gA v 28) S Ph s (nI w) → Ph < 60 ∧ s = 2 * n ∧ ∀ i, i < n → gA v 2 (2 * i) &&& gA v 2 (2 * i + 1) = nI 0 := by
    rintro ⟨w', n', g1, g2, g3, g4⟩
    rw [nI_inj (by omega) (by omega)] at g2
    subst g2
    rw [en, nI_inj (by omega) (by omega)] at g3
    subst g3
    exact ⟨g1.2.2.1, g1.2.2.2, g4⟩
  rw [hH, nI_leI (by decide) (by omega), nI_clamp (by omega), en, pk_mul, hs, nI_inj (by omega) (by omega)]
  have hiw : vp_in (nI w) 20 := vp_in_nI (by omega) (by decide)
  refine ⟨fun h => kk1 (fun g => by have := (un g).1; omega), fun h => ⟨hiw, fun h3 => ?_, fun h3 => kk1 (fun g => h3 (un g).2.1)⟩⟩
  have step3 : pGood (gA v 2) (gA v 28) S Ph s (nI w) → ∀ (m i : Nat), i + m = n → RI E (d + 1) 5 81 [(0, .ref 25), (1, .int (nI w)), (2, .ref 1), (3, .int (gI v 0 13)), (4, .int (nI i))] (v_A (v_A v 32 (putf (gA v 32) (fun i => gA v 2 (2 * i)) (24 * Ph) i)) 33 (putf (gA v 33) (fun i => gA v 2 (2 * i + 1)) (24 * Ph) i)) (fun y2 v1 => vp_in y2 2 ∧ Q y2 (v_I v1 1 1 (nI 0))) := by
    intro hg m
    induction m with
    | zero =>
      intro i hi
      obtain rfl : i = n := by omega
      refine w_X1_addPhoto_81 ?_
      rw [nI_clamp (by omega : w < 2 ^ 31), show gA (v_A (v_A v 32 (putf (gA v 32) (fun i => gA v 2 (2 * i)) (24 * Ph) i)) 33 (putf (gA v 33) (fun i => gA v 2 (2 * i + 1)) (24 * Ph) i)) 28 w = nI i from en, show gI (v_A (v_A v 32 (putf (gA v 32) (fun i => gA v 2 (2 * i)) (24 * Ph) i)) 33 (putf (gA v 33) (fun i => gA v 2 (2 * i + 1)) (24 * Ph) i)) 25 13 = nI Ph from hH, nI_add, nI_clamp (by omega), nI_leI (by omega) (by omega)]
      exact ⟨hiw, fun _ => ⟨vp_in_nI (by omega) (by decide), vp_in_nI (by omega) (by decide), vp_in_nI (by decide) (by decide), k2 hg i h3⟩, fun hx => by omega⟩
    | succ m ih =>
      intro i hi
      refine w_X1_addPhoto_81 ?_
      rw [nI_clamp (by omega : w < 2 ^ 31), show gA (v_A (v_A v 32 (putf (gA v 32) (fun i => gA v 2 (2 * i)) (24 * Ph) i)) 33 (putf (gA v 33) (fun i => gA v 2 (2 * i + 1)) (24 * Ph) i)) 28 w = nI n from en, show gI (v_A (v_A v 32 (putf (gA v 32) (fun i => gA v 2 (2 * i)) (24 * Ph) i)) 33 (putf (gA v 33) (fun i => gA v 2 (2 * i + 1)) (24 * Ph) i)) 25 13 = nI Ph from hH, nI_leI (by omega) (by omega), pk_mul, pk_mul, nI_add, nI_add, nI_add, nI_clamp (by omega), Nat.mul_comm Ph 24]
      refine ⟨hiw, fun hx => by omega, fun _ => k_at (s := s) hs h2 (by omega) ⟨vp_in_nI (by omega) (by decide), k_at (s := s) hs h2 (by omega) ?_⟩⟩
      rw [show gI (v_A (v_A v 32 (putf (gA v 32) (fun i => gA v 2 (2 * i)) (24 * Ph) i)) 33 (putf (gA v 33) (fun i => gA v 2 (2 * i + 1)) (24 * Ph) i)) 25 13 = nI Ph from hH, pk_mul, nI_add, nI_clamp (by omega), Nat.mul_comm Ph 24]
      refine ⟨vp_in_nI (by omega) (by decide), ?_⟩
      have := ih (i + 1) (by omega)
      rw [← putf_s, ← putf_s] at this
      rw [vA2 _ (by decide), show nI i + nI 1 = nI (i + 1) from nI_add _ _, show (nI (24 * Ph + i)).toNatClampNeg = 24 * Ph + i from nI_clamp (by omega)]
      exact this
  have step2 : Ph < 60 → ∀ (m i : Nat), i + m = n → (∀ j, j < i → gA v 2 (2 * j) &&& gA v 2 (2 * j + 1) = nI 0) → RI E (d + 1) 5 37 [(0, .ref 25), (1, .int (nI w)), (2, .ref 1), (3, .int (gI v 0 13)), (4, .int (nI i))] v (fun y2 v1 => vp_in y2 2 ∧ Q y2 (v_I v1 1 1 (nI 0))) := by
    intro hp m
    induction m with
    | zero =>
      intro i hi hf
      obtain rfl : i = n := by omega
      refine w_X1_addPhoto_37 ?_
      rw [nI_clamp (by omega : w < 2 ^ 31), en, nI_leI (by omega) (by omega)]
      refine ⟨hiw, fun _ => ?_, fun hx => by omega⟩
      have := step3 ⟨w, i, by omega, rfl, en, hf⟩ i 0 (by omega)
      rw [putf_0, putf_0, vAself] at this
      rw [show v_A v 33 (gA v 33) = v from vAself v 33] at this
      exact this
    | succ m ih =>
      intro i hi hf
      refine w_X1_addPhoto_37 ?_
      rw [nI_clamp (by omega : w < 2 ^ 31), en, nI_leI (by omega) (by omega), pk_mul, nI_add, nI_add]
      refine ⟨hiw, fun hx => by omega, fun _ => k_at (s := s) hs h2 (by omega) (k_at (s := s) hs h2 (by omega) ⟨fun hx => ih (i + 1) (by omega) (fun j hj => ?_), fun hx => kk1 (fun g => hx ((un g).2.2 i (by omega)))⟩)⟩
      by_cases e : j = i
      · subst e
        exact hx
      · exact hf j (by omega)
  exact step2 (by omega) n 0 (by omega) (fun j hj => by omega)

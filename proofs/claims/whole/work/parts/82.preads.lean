/-! cost, used, agree, reading: both sides agree -/
theorem J.thr {c : Nat} {v : xV} (h : J c v) (x : Int32) : J c (v_I v 80 0 x) := h
theorem J.gath {c : Nat} {v : xV} (h : J c v) (s : Nat) (t : Int32) (P D : Nat) : J c (gath v s t P D) := h
theorem p_cost {E : Nat × (Nat → Int32)} {d : Nat} {c : Nat} {v : xV} {x y z t : Int32} (hJ : J c v) : P2 E (d + 3) 126 [.ref 0, .int x, .int y, .int z, .int t] 180 [.ref 80, .int x, .int y, .int z, .int t] v (J c) := by
  obtain ⟨n1, n2, n3, n4, n5, n6⟩ := hJ.num
  obtain ⟨u1, u2, u3, u4, u5, u6⟩ := hJ.numM
  have hI := hJ.1
  have hwk := hJ.work
  obtain ⟨⟨-, -, l3, l4, l5, l6⟩, -⟩ := id hwk
  have e29 : gA v 103 = gA v 29 := hI.S.2.1.2.2.2.symm
  have e28 : gA v 102 = gA v 28 := hI.S.2.1.2.2.1.symm
  -- the reference refuses
  have no : (¬ ∃ s k l, (s < nS v ∧ k < 24 ∧ l < 26) ∧ x = nI s ∧ gA v 29 s ≤ t ∧ y = nI k ∧ z = nI l ∧ ¬ gA v 28 s ≤ nI k) → ∀ w : xV, w = v → KI E (d + 3) 180 [.ref 80, .int x, .int y, .int z, .int t] w (fun y2 v2 => (-2 : Int32) = y2 ∧ J c v2) := by
    intro hno w hw
    subst hw
    refine KI.of ok_180 (Nat.le_of_ble_eq_true rfl) (w_X12_cost_0 (k_knownM u1 n1.2 (fun s hs ex hd => ⟨fun h => absurd h nI_01, fun _ => ?_⟩) (fun h => ⟨fun _ => ⟨rfl, hJ⟩, fun h => absurd rfl h⟩)))
    subst ex
    obtain ⟨n, hn, en⟩ := hJ.pl s hs
    rw [nI_clamp (by omega), show gA (v_I w 80 0 (nI 0)) 102 s = nI n from by rw [← en]; exact congrFun e28 s]
    refine ⟨vp_in_nI (by omega) (by decide), k_in (fun h1 => ⟨fun h => absurd h nI_01, fun _ => k_inN (by decide) (fun l hl el => ?_) (fun h => ⟨fun h => absurd rfl h, fun _ => ⟨rfl, hJ⟩⟩)⟩) (fun h1 => ⟨fun _ => ⟨rfl, hJ⟩, fun h => absurd rfl h⟩)⟩
    obtain ⟨k, hk, ek⟩ := (i_btwm (by omega)).mp h1
    exfalso
    refine hno ⟨s, k, l, ⟨hs, by omega, by omega⟩, rfl, ?_, ek, el, ?_⟩
    · rw [← e29]
      exact hd
    · rw [en, nI_leI (by omega) (by omega)]
      omega
  refine KI.of ok_126 (Nat.le_of_ble_eq_true rfl) (w_X11_cost_0 (k_knownX n1.1 n1.2 (fun s hs ex hd => ⟨fun h => absurd h nI_01, fun _ => ?_⟩) (fun h => ⟨fun _ => no (fun ⟨s, k, l, h1, h2, h3, _⟩ => h ⟨s, h1.1, h2, h3⟩) v rfl, fun h => absurd rfl h⟩)))
  subst ex
  obtain ⟨n, hn, en⟩ := hJ.pl s hs
  refine ⟨fun h => no (fun ⟨s', k, l, h1, h2, h3, h4, _⟩ => ?_) v rfl, fun hy => ?_⟩
  · rw [h4] at h
    exact nz_lt (by omega) h
  obtain ⟨k, hk, rfl⟩ := nI_of hy
  rw [nI_clamp (by omega), en, nI_leI (by omega) hk]
  refine ⟨vp_in_nI (by omega) (by decide), fun h => no (fun ⟨s', k', l, h1, h2, h3, h4, h5, h6⟩ => ?_) v rfl, fun hkn => ?_⟩
  · rw [nI_eq (by omega) (by omega)] at h2
    rw [nI_eq hk (by omega)] at h4
    subst h2 h4
    apply h6
    rw [en, nI_leI (by omega) hk]
    exact h
  refine k_let (fun l hl el => ⟨fun _ => ?_, fun h => absurd h nI_01⟩) (fun h => ⟨fun h => absurd rfl h, fun _ => no (fun ⟨s', k', l, h1, h2, h3, h4, h5, h6⟩ => h ⟨l, h1.2.2, h5⟩) v rfl⟩)
  subst el
  obtain ⟨nf, hnf, enf⟩ := hI.F.2.1 l
  refine k_gather (by omega) n2.1 n2.2 n3.1 n3.2 hI.G.2.2.2.1 (k_letterCost (v := gath v s t (nP v) (nD v)) (isO_last _ n2.2) (fun q hq => by rw [show gA (gath v s t (nP v) (nD v)) 50 q = lastI (drP (gA v 34) (gA v 35) (gA v 36) (nI s) t q) (nD v) from if_pos hq]; exact isO_last _ n3.2) hI.G.2.2.2.2.2 hJ.2.1.2.2.1 (by omega) hl enf hnf hI.F.2.2 ?_)
  have hJ' : J c (gath v s t (nP v) (nD v)) := hJ
  refine KI.of ok_180 (Nat.le_of_ble_eq_true rfl) (w_X12_cost_0 (k_knownM (S := nS v) u1 n1.2 (fun s' hs' ex hd' => ⟨fun h => absurd h nI_01, fun _ => ?_⟩) (fun h => absurd ⟨s, hs, rfl, by rw [show gA (v_I (gath v s t (nP v) (nD v)) 80 0 (nI 0)) 103 = gA v 29 from e29]; exact hd⟩ h)))
  rw [nI_clamp (by omega), show gA (v_I (gath v s t (nP v) (nD v)) 80 0 (nI 0)) 102 s = nI n from by rw [← en]; exact congrFun e28 s]
  refine ⟨vp_in_nI (by omega) (by decide), k_in (fun _ => ⟨fun h => absurd h nI_01, fun _ => k_inN (by decide) (fun _ _ _ => ⟨fun _ => ?_, fun h => absurd h nI_01⟩) (fun h => absurd ⟨l, by omega, rfl⟩ h)⟩) (fun h => absurd ((i_btwm (by omega)).mpr ⟨k, by omega, rfl⟩) h)⟩
  refine k_costOf (v := v_I (gath v s t (nP v) (nD v)) 80 0 (nI 0)) (P := nP v) (D := nD v) (n := nf) u2 n2.2 u3 n3.2 l3 (by omega) hl (by rw [show gA (v_I (gath v s t (nP v) (nD v)) 80 0 (nI 0)) 83 = gA v 5 from hI.F.1.1.symm]; exact enf) hnf l5 l6 ?_
  have eLC : LC (gA (v_I (gath v s t (nP v) (nD v)) 80 0 (nI 0)) 83) (gA (v_I (gath v s t (nP v) (nD v)) 80 0 (nI 0)) 84) (gA (v_I (gath v s t (nP v) (nD v)) 80 0 (nI 0)) 106) (gA (v_I (gath v s t (nP v) (nD v)) 80 0 (nI 0)) 107) (gA (v_I (gath v s t (nP v) (nD v)) 80 0 (nI 0)) 111) (gA (v_I (gath v s t (nP v) (nD v)) 80 0 (nI 0)) 9) (lastI (phP (gA (v_I (gath v s t (nP v) (nD v)) 80 0 (nI 0)) 104) (gA (v_I (gath v s t (nP v) (nD v)) 80 0 (nI 0)) 105) (nI s) t) (nP v)) (fun q => lastI (drP (gA (v_I (gath v s t (nP v) (nD v)) 80 0 (nI 0)) 108) (gA (v_I (gath v s t (nP v) (nD v)) 80 0 (nI 0)) 109) (gA (v_I (gath v s t (nP v) (nD v)) 80 0 (nI 0)) 110) (nI s) t q) (nD v)) k l = LC (gA (gath v s t (nP v) (nD v)) 5) (gA (gath v s t (nP v) (nD v)) 4) (gA (gath v s t (nP v) (nD v)) 32) (gA (gath v s t (nP v) (nD v)) 33) (gA (gath v s t (nP v) (nD v)) 37) (gA (gath v s t (nP v) (nD v)) 9) (gI (gath v s t (nP v) (nD v)) 49 14) (gA (gath v s t (nP v) (nD v)) 50) k l := by
    have h1 : LCm v (nI s) t (nP v) (nD v) = LCx v (evP v s t (nP v)) (evD v s t (nD v)) := by
      unfold LCm LCx evP evD
      rw [← hI.F.1.1, ← hI.F.1.2, ← hI.P.2.1.1, ← hI.P.2.1.2.1, ← hI.P.2.1.2.2.1, ← hI.P.2.1.2.2.2, ← hI.G.2.1.1, ← hI.G.2.1.2.1, ← hI.G.2.1.2.2.1, ← hI.G.2.1.2.2.2]
    have h2 : LCx v (evP v s t (nP v)) (evD v s t (nD v)) = LCx v (evP v s t (nP v)) (gA (gath v s t (nP v) (nD v)) 50) := LCx_congr (fun q hq => (if_pos hq).symm)
    rw [h2] at h1
    exact congrFun (congrFun h1 k) l
  rw [eLC]
  match eo : LC (gA (gath v s t (nP v) (nD v)) 5) (gA (gath v s t (nP v) (nD v)) 4) (gA (gath v s t (nP v) (nD v)) 32) (gA (gath v s t (nP v) (nD v)) 33) (gA (gath v s t (nP v) (nD v)) 37) (gA (gath v s t (nP v) (nD v)) 9) (gI (gath v s t (nP v) (nD v)) 49 14) (gA (gath v s t (nP v) (nD v)) 50) k l with
  | none => exact ⟨fun h => absurd h (by decide), fun _ => ⟨rfl, hJ⟩⟩
  | some a =>
    have := LC_le eo
    refine ⟨fun _ => ⟨rfl, hJ⟩, fun h => absurd ?_ h⟩
    show nI a < nI 100000000
    rw [nI_ltI (by omega) (by decide)]
    omega

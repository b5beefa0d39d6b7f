/-! feed, end, next, count, fault, form, word, habit, wall, fact over J -/
theorem ExC.zero {v : xV} (h : ∀ s, gA v 39 s = nI 0) : ExC v := ⟨fun s => Or.inl (h s), fun s _ => h s, fun s e => absurd ((h s).symm.trans e) (fun z => nI_01 z.symm), fun s N _ _ _ e => absurd ((h s).symm.trans e) (fun z => nI_01 z.symm)⟩
theorem zto_all {v : xV} (h : ExC v) (hS : nS v ≤ 20) (s : Nat) : zto 20 (gA v 39) s = nI 0 := by
  unfold zto
  split
  · rfl
  · exact h.2.1 s (by omega)
theorem ExM.bump {c : Nat} {v z : xV} (h : ExM c v) (h6 : gI z 80 6 = gI v 80 6 + nI 1) (h62 : gI z 80 62 = gI v 80 62) : ExM (c + 1) z := by
  obtain ⟨n, m, m1, m2, m3, m4⟩ := h
  exact ⟨n + 1, m, by omega, by rw [h6, m2, nI_add], by rw [h62, m3], fun e => by omega⟩
theorem ExD.up {c : Nat} {v : xV} (h : ExD c v) : ExD (c + 1) v := by
  obtain ⟨k0, z0, Z, h1, h2, h3⟩ := h
  exact ⟨k0, z0, Z, h1, by omega, by omega⟩
theorem pj_feed {E : Nat × (Nat → Int32)} {d : Nat} {c : Nat} {v : xV} {x1 x2 x3 x4 x5 : Int32} (hJ : J c v) : P2 E (d + 1) 113 [.ref 0, .int x1, .int x2, .int x3, .int x4, .int x5] 149 [.ref 80, .int x1, .int x2, .int x3, .int x4, .int x5] v (J c) := by
  obtain ⟨hI, hE⟩ := hJ
  obtain ⟨s, hs, e1, e2⟩ := hI.T.s
  refine k_feedX e1 hs (fun h => ?_) (fun h => ?_)
  · refine k_feedM (s := s) e2 hs (fun _ => ⟨rfl, ⟨⟨?_, ⟨s + 20, h, rfl, rfl⟩, b_push20 hI.T.b s x1 x2 x3 x4 x5⟩, hI.2⟩, hE⟩) (fun h' => absurd h h')
    show push20 (gA v 2) s x1 x2 x3 x4 x5 = push20 (gA v 81) s x1 x2 x3 x4 x5
    rw [hI.T.e]
  · refine k_feedM (s := s) e2 hs (fun h' => absurd h' h) (fun _ => ⟨rfl, hI, hE⟩)
theorem pj_end {E : Nat × (Nat → Int32)} {d : Nat} {c : Nat} {v : xV} {x : Int32} (hJ : J c v) : P2 E (d + 1) 114 [.ref 0, .int x] 150 [.ref 80, .int x] v (J c) := by
  obtain ⟨hI, hE⟩ := hJ
  obtain ⟨s, hs, e1, e2⟩ := hI.T.s
  refine KI.of ok_114 (Nat.le_of_ble_eq_true rfl) (w_X11_end_0 ⟨fun h => ?_, fun h => ⟨fun h2 => ?_, fun h2 => ?_⟩⟩)
  · exact KI.of ok_150 (Nat.le_of_ble_eq_true rfl) (w_X12_end_0 ⟨fun _ => ⟨rfl, hI, hE⟩, fun h' => absurd h h'⟩)
  · refine KI.of ok_150 (Nat.le_of_ble_eq_true rfl) (w_X12_end_0 ⟨fun h' => absurd h' h, fun _ => ⟨fun _ => ⟨rfl, ?_⟩, fun h3 => absurd ?_ h3⟩⟩)
    · obtain ⟨n, hn, rfl⟩ := nI_of h
      rw [e1, nI_leI hn (by omega)] at h2
      exact ⟨⟨⟨hI.T.e, ⟨n, by omega, rfl, rfl⟩, hI.T.b⟩, hI.2⟩, hE⟩
    · show x ≤ gI v 80 3
      rw [e2, ← e1]
      exact h2
  · refine KI.of ok_150 (Nat.le_of_ble_eq_true rfl) (w_X12_end_0 ⟨fun h' => absurd h' h, fun _ => ⟨fun h3 => absurd ?_ h2, fun _ => ⟨rfl, hI, hE⟩⟩⟩)
    rw [e1, ← e2]
    exact h3
theorem pj_next {E : Nat × (Nat → Int32)} {d : Nat} {c : Nat} {v : xV} {x : Int32} (hJ : J c v) : P2 E (d + 1) 115 [.ref 0, .int x] 153 [.ref 80, .int x] v (J c) := by
  obtain ⟨hI, hE⟩ := id hJ
  obtain ⟨s, hs, e1, e2⟩ := hI.D
  refine KI.of ok_115 (Nat.le_of_ble_eq_true rfl) (w_X11_next_0 ⟨fun h => ?_, fun h => ⟨fun h2 => ?_, fun h2 => ⟨fun h3 => ?_, fun h3 => ?_⟩⟩⟩)
  · refine KI.of ok_153 (Nat.le_of_ble_eq_true rfl) (w_X12_next_0 (k_isIn ⟨fun _ => ⟨rfl, hI, hE⟩, fun h' => absurd ?_ h'⟩))
    rw [bB_0, decide_eq_false (i_nle.mpr h), Bool.false_and]
  · refine KI.of ok_153 (Nat.le_of_ble_eq_true rfl) (w_X12_next_0 (k_isIn ⟨fun _ => ⟨rfl, hI, hE⟩, fun h' => absurd ?_ h'⟩))
    rw [bB_0, decide_eq_false (i_nle.mpr h2), Bool.and_false]
  · refine KI.of ok_153 (Nat.le_of_ble_eq_true rfl) (w_X12_next_0 (k_isIn ⟨fun h' => ?_, fun _ => ⟨fun _ => ?_, fun h4 => absurd ?_ h4⟩⟩))
    · rw [bB_0, decide_eq_true (i_nlt.mp h), decide_eq_true (i_nlt.mp h2)] at h'
      cases h'
    · obtain ⟨n, hn, rfl⟩ := nI_of h
      rw [i_nlt, nI_leI hn (by omega)] at h2
      rw [e1, nI_add, nI_leI (by omega) (by omega)] at h3
      have up : ∀ y : Int32, y ≤ gI v 0 13 → y ≤ gI v 0 13 + nI n := by
        intro y hy
        rw [e1] at hy ⊢
        rw [nI_add]
        rw [Int32.le_iff_toInt_le, nI_toInt (by omega)] at hy ⊢
        omega
      obtain ⟨hH, ⟨q1, q2, q3, q4, q5⟩, ⟨o1, o2, o3, o4⟩, hR⟩ := hE
      refine ⟨by show gI v 0 13 + nI n = gI v 80 5 + nI n; rw [e1, e2], ⟨hI.1, ⟨s + n, h3, ?_, ?_⟩, hI.2.2⟩, hH, ⟨q1, q2, q3, q4, fun i hi => up _ (q5 i hi)⟩, ⟨o1, o2, fun i hi => up _ (o3 i hi), o4⟩, hR⟩
      · show gI v 0 13 + nI n = _
        rw [e1, nI_add]
      · show gI v 80 5 + nI n = _
        rw [e2, nI_add]
    · show gI v 80 5 + x ≤ nI 999
      rw [e2, ← e1]
      exact h3
  · refine KI.of ok_153 (Nat.le_of_ble_eq_true rfl) (w_X12_next_0 (k_isIn ⟨fun h' => ?_, fun _ => ⟨fun h4 => absurd ?_ h3, fun _ => ⟨rfl, hI, hE⟩⟩⟩))
    · rw [bB_0, decide_eq_true (i_nlt.mp h), decide_eq_true (i_nlt.mp h2)] at h'
      cases h'
    · rw [e1, ← e2]
      exact h4
theorem IvD.e {N : Nat} {a b : Int32} (h : IvD N a b) : a = b := by
  obtain ⟨t, _, e1, e2⟩ := h
  rw [e1, e2]
theorem pj_fault {E : Nat × (Nat → Int32)} {d : Nat} {c : Nat} {v : xV} (hJ : J c v) : P2 E d 122 [.ref 0] 170 [.ref 80] v (J c) :=
  KI.of ok_122 (Nat.le_of_ble_eq_true rfl) (w_X11_fault_0 (KI.of ok_170 (Nat.le_of_ble_eq_true rfl) (w_X12_fault_0 ⟨hJ.2.2.2.2.1.2.2.1.e, hJ⟩)))
theorem pj_form {E : Nat × (Nat → Int32)} {d : Nat} {c : Nat} {v : xV} {x y : Int32} (hJ : J c v) : P2 E (d + 2) 116 [.ref 0, .int y, .int x] 155 [.ref 80, .int y, .int x] v (J (c + 1)) := by
  obtain ⟨hI, hH, hK, hO, hR, hC, hM, hD⟩ := id hJ
  by_cases hb : (nI 0 ≤ y ∧ y < nI 26) ∧ (nI 1 ≤ x ∧ x ≤ nI 255)
  · obtain ⟨⟨hy1, hy2⟩, hx1, hx2⟩ := hb
    obtain ⟨l, hl, rfl⟩ := nI_of (i_nlt.mpr hy1)
    rw [nI_ltI hl (by decide)] at hy2
    obtain ⟨⟨e1, e2⟩, hF, hG⟩ := hI.F
    obtain ⟨n, hn, hc⟩ := hF l
    have hc' : gA v 83 l = nI n := by rw [← e1]; exact hc
    obtain ⟨b, _, hb2, eb⟩ := i_btw (by decide) (by decide) hx1 hx2
    have hxb : ∃ b, b < 256 ∧ x = nI b := ⟨b, by omega, eb⟩
    refine k_formX hy2 hx1 hx2 hc hn (fun h => ?_) (fun h h' => ?_)
    · refine k_formM hy2 hx1 hx2 hc' hn (fun _ => ⟨rfl, hJ.up⟩) (fun q1 q2 => ?_)
      rcases h with h | h
      · omega
      · rw [e2] at h
        exact absurd h q2
    · refine k_formM hy2 hx1 hx2 hc' hn (fun q => ?_) (fun _ _ => ⟨rfl, ⟨hI.1, hI.2.1, hI.2.2.1, ⟨⟨?_, ?_⟩, n_upd hF l (by omega), b_upd hG _ hxb⟩, hI.2.2.2.2⟩, hH, hK, hO, hR, ExC.zero (fun s => zto_all hC hJ.num.1.2 s), hM.bump rfl rfl, hD.up⟩)
      · rcases q with q | q
        · omega
        · have q : frm (gA v 84) l n x := q
          rw [← e2] at q
          exact absurd q h'
      · show upd (gA v 5) l (nI (n + 1)) = upd (gA v 83) l (nI (n + 1))
        rw [e1]
      · show upd (gA v 4) (3 * l + n) x = upd (gA v 84) (3 * l + n) x
        rw [e2]
  · exact k_formXN hb (k_formMN hb ⟨rfl, hJ.up⟩)
theorem isSo.up {So : Nat → Int32} {N k : Nat} {a x : Int32} (h : isSo So N k a) : isSo (upd So N x) (N + 1) k a := by
  obtain ⟨n, h1, h2, h3⟩ := h
  exact ⟨n, by omega, h2, by rw [upd_n _ _ (by omega)]; exact h3⟩
theorem isLay.up {g : Nat → Int32} {W : Nat} {a b y : Int32} (h : isLay g W a b) : isLay (upd g W y) (W + 1) a b := by
  obtain ⟨w, l, m, h1, h2, h3, h4⟩ := h
  exact ⟨w, l, m, by omega, h2, by rw [upd_n _ _ (by omega)]; exact h3, h4⟩
theorem isN.up {N : Nat} {a : Int32} (h : isN N a) : isN (N + 1) a := by
  obtain ⟨n, h1, h2⟩ := h
  exact ⟨n, by omega, h2⟩
theorem fAb.mono {g g' So So' : Nat → Int32} {W W' S S' N N' : Nat} {x a b : Int32} (h : fAb g So W S N x a b) (h1 : ∀ a b, isLay g W a b → isLay g' W' a b) (h2 : ∀ a, isN S a → isN S' a) (h3 : ∀ k a, isSo So N k a → isSo So' N' k a) : fAb g' So' W' S' N' x a b := by
  rcases h with h | h | h | h | h
  · exact Or.inl ⟨h.1, h1 _ _ h.2⟩
  · exact Or.inr (Or.inl ⟨h.1, h2 _ h.2⟩)
  · exact Or.inr (Or.inr (Or.inl ⟨h.1, h2 _ h.2.1, h2 _ h.2.2.1, h.2.2.2⟩))
  · exact Or.inr (Or.inr (Or.inr (Or.inl ⟨h.1, h3 _ _ h.2.1, h3 _ _ h.2.2⟩)))
  · exact Or.inr (Or.inr (Or.inr (Or.inr ⟨h.1, h3 _ _ h.2⟩)))
theorem pj_word {E : Nat × (Nat → Int32)} {d : Nat} {c : Nat} {v : xV} {x : Int32} (hJ : J c v) : P2 E (d + 3) 117 [.ref 0, .int x] 157 [.ref 80, .int x] v (J (c + 1)) := by
  obtain ⟨hI, hH, hK, hO, hR, hC, hM, hD⟩ := id hJ
  obtain ⟨s, hs, s1, s2⟩ := hI.T.s
  obtain ⟨-, ⟨e1, e2, e3⟩, hLn, hL, hSo⟩ := hI.W
  obtain ⟨w1, hW⟩ := hJ.num.2.2.2.1
  have w2 := hJ.numM.2.2.2.1
  obtain ⟨W, hWe⟩ : ∃ W, W = nW v := ⟨_, rfl⟩
  rw [← hWe] at w1 hW w2
  have e4 := hI.T.e
  refine k_wordX s1 hs w1 hW hLn (fun h => ?_) (fun h => ?_)
  · refine k_wordM (s := s) (W := W) s2 hs w2 hW (fun _ => ⟨rfl, J.up ⟨⟨⟨e4, ⟨0, by omega, rfl, rfl⟩, hI.T.b⟩, hI.2⟩, hJ.2⟩⟩) (fun q => ?_)
    have q : wGood (gA v 85) (gA v 86) (gA v 87) (gA v 81) W s x := q
    rw [← e1, ← e2, ← e3, ← e4] at q
    exact absurd q h
  · have nWz : ∀ z : xV, gI z 3 7 = nI (W + 1) → nW z = W + 1 := by
      intro z hz
      unfold nW
      rw [hz, nI_clamp (by omega)]
    refine k_wordM (s := s) (W := W) s2 hs w2 hW (fun q => ?_) (fun _ => ⟨rfl, ⟨⟨e4, ⟨0, by omega, rfl, rfl⟩, hI.T.b⟩, hI.2.1, hI.2.2.1, hI.2.2.2.1, ⟨⟨W + 1, h.1, rfl, rfl⟩, ⟨?_, ?_, ?_⟩, n_upd hLn W h.2.2.1.2.1, l_putw hL h.2.2.1.2.2, ?_⟩, hI.2.2.2.2.2⟩, hH, ⟨hK.1, hK.2.1, fun i hi => ?_, hK.2.2.2⟩, ⟨hO.1, hO.2.1, hO.2.2.1, fun w hw => ?_⟩, hR, ExC.zero (fun s => zto_all hC hJ.num.1.2 s), hM.bump rfl rfl, hD.up⟩)
    · have q : ¬ wGood (gA v 85) (gA v 86) (gA v 87) (gA v 81) W s x := q
      rw [← e1, ← e2, ← e3, ← e4] at q
      exact absurd h q
    · show putw (gA v 6) (gA v 2) (10 * W) s = putw (gA v 85) (gA v 81) (10 * W) s
      rw [e1, e4]
    · show upd (gA v 7) W (nI s) = upd (gA v 86) W (nI s)
      rw [e2]
    · show upd (gA v 8) W x = upd (gA v 87) W x
      rw [e3]
    · obtain ⟨n, hn, rfl⟩ := nI_of (i_nlt.mpr h.2.1.1)
      have := h.2.1.2
      rw [nI_ltI hn (by decide)] at this
      exact l_upd hSo W this
    · refine ⟨(hK.2.2.1 i hi).1.mono (fun _ _ z => z) (fun _ z => z) (fun k a z => ?_), (hK.2.2.1 i hi).2⟩
      rw [nWz _ rfl]
      rw [← hWe] at z
      exact z.up
    · rw [nWz _ rfl] at hw
      show nI 1 ≤ upd (gA v 7) W (nI s) w
      by_cases e : w = W
      · rw [e, upd_s, nI_leI (by decide) (by omega)]
        exact h.2.2.1.1
      · rw [upd_n _ _ e]
        exact hO.2.2.2 w (by omega)
theorem pj_habit {E : Nat × (Nat → Int32)} {d : Nat} {c : Nat} {v : xV} {x y z : Int32} (hJ : J c v) : P2 E (d + 2) 120 [.ref 0, .int x, .int y, .int z] 161 [.ref 80, .int x, .int y, .int z] v (J (c + 1)) := by
  obtain ⟨hI, hH, hK, hO, hR, hC, hM, hD⟩ := id hJ
  by_cases hb : (∃ n, n < 4 ∧ x = nI n) ∧ (∃ n, n < 26 ∧ y = nI n) ∧ ∃ n, n < 26 ∧ z = nI n
  · obtain ⟨⟨dd, hd, rfl⟩, ⟨a, ha, rfl⟩, b, hb2, rfl⟩ := hb
    obtain ⟨k, hk, ek⟩ := hH.2.2.1 (26 * dd + a)
    obtain ⟨n, hn, en⟩ := hH.2.1 dd
    have en' : gA v 93 dd = nI n := by rw [← hH.1]; exact en
    have hab' := hH.2.2.2 dd a b hd ha hb2
    rw [ek, nI_clamp (by omega), hH.1] at hab'
    refine k_habitX hd ha hb2 ek hk en hn (fun h => k_habitM hd ha hb2 en' hn (fun _ => ⟨rfl, hJ.up⟩) (fun q1 q2 q3 => ?_)) (fun h1 h2 h3 => k_habitM hd ha hb2 en' hn (fun q => ?_) (fun _ _ _ => ⟨rfl, hI, hH.up hd ha hb2 ek hk en h3, hK, hO, hR, ExC.zero (fun s => zto_all hC hJ.num.1.2 s), hM.bump rfl rfl, hD.up⟩))
    · exfalso
      rcases h with h | h | h
      · exact q1 h
      · exact q2 (hab'.mp h)
      · omega
    · exfalso
      rcases q with q | q | q
      · exact h1 q
      · have q : hab (gA v 93) (gA v 94) (gA v 95) dd a b := q
        rw [← hab', h2] at q
        cases q
      · omega
  · exact k_habitXN hb (k_habitMN hb ⟨rfl, hJ.up⟩)
theorem pj_wall {E : Nat × (Nat → Int32)} {d : Nat} {c : Nat} {v : xV} {x y : Int32} (hJ : J c v) : P2 E (d + 2) 119 [.ref 0, .int x, .int y] 160 [.ref 80, .int x, .int y] v (J c) := by
  obtain ⟨hI, hH, hK, hO, hR⟩ := id hJ
  obtain ⟨-, ⟨e1, e2⟩, hf, hg⟩ := hI.A
  obtain ⟨w1, hW⟩ := hJ.num.2.2.2.2.1
  have w2 := hJ.numM.2.2.2.2.1
  obtain ⟨W, hWe⟩ : ∃ W, W = nA v := ⟨_, rfl⟩
  rw [← hWe] at w1 hW w2
  have nAz : ∀ z : xV, gI z 11 7 = nI (W + 1) → W < 8 → nA z = W + 1 := by
    intro z hz _
    unfold nA
    rw [hz, nI_clamp (by omega)]
  refine k_wallX w1 hW (fun h => k_wallM (W := W) w2 hW (fun _ => ⟨rfl, hJ⟩) (fun q => absurd q h)) (fun h => k_wallM (W := W) w2 hW (fun q => absurd h q) (fun _ => ⟨rfl, ⟨hI.1, hI.2.1, hI.2.2.1, hI.2.2.2.1, hI.2.2.2.2.1, ⟨⟨W + 1, h.1, rfl, rfl⟩, ⟨?_, ?_⟩, ?_, ?_⟩, hI.2.2.2.2.2.2⟩, hH, ⟨hK.1, hK.2.1, fun i hi => ?_, hK.2.2.2⟩, ⟨fun i hi => ?_, hO.2⟩, hR⟩))
  · show upd (gA v 13) W x = upd (gA v 91) W x
    rw [e1]
  · show upd (gA v 14) W y = upd (gA v 92) W y
    rw [e2]
  · obtain ⟨n, _, hn, rfl⟩ := i_btw' (by decide) (by decide) h.2.1.1 h.2.1.2
    exact l_upd hf W hn
  · obtain ⟨n, _, hn, rfl⟩ := i_btw (by decide) (by decide) h.2.2.1 h.2.2.2
    exact n_upd hg W hn
  · refine ⟨(hK.2.2.1 i hi).1.mono (fun a b z => ?_) (fun _ z => z) (fun _ _ z => z), (hK.2.2.1 i hi).2⟩
    rw [nAz _ rfl h.1]
    rw [← hWe] at z
    exact z.up
  · refine ⟨?_, (hO.1 i hi).2⟩
    rw [nAz _ rfl h.1]
    have := (hO.1 i hi).1
    rw [← hWe] at this
    exact this.up
theorem fput_l (v : xV) (j F : Nat) (x a b y z t : Int32) {i : Nat} (h : i < j ∨ j + 5 < i) : gA (fput v j F x a b y z t) i = gA v i := by
  unfold fput
  rw [gA_A, if_neg (by omega), gA_A, if_neg (by omega), gA_A, if_neg (by omega), gA_A, if_neg (by omega), gA_A, if_neg (by omega), gA_A, if_neg (by omega)]
theorem pj_fact {E : Nat × (Nat → Int32)} {d : Nat} {c : Nat} {v : xV} {x a b y z : Int32} (hJ : J c v) : P2 E (d + 2) 133 [.ref 0, .int x, .int a, .int b, .int y, .int z] 197 [.ref 80, .int x, .int a, .int b, .int y, .int z] v (J c) := by
  obtain ⟨hI, hH, ⟨q1, ⟨r1, r2, r3, r4, r5, r6⟩, q3, q4, q5⟩, hO, hR⟩ := id hJ
  obtain ⟨n1, n2, n3, n4, n5, n6⟩ := hJ.num
  obtain ⟨u1, u2, u3, u4, u5, u6⟩ := hJ.numM
  have hA := hI.A
  have hg' : ∀ i, ∃ n, n ≤ 4 ∧ gA v 92 i = nI n := by rw [← hA.2.1.2]; exact hA.2.2.2
  have e92 : gA v 92 = gA v 14 := hA.2.1.2.symm
  have e87 : gA v 87 = gA v 8 := hI.W.2.1.2.2.symm
  obtain ⟨F, hF⟩ : ∃ F, F = nF v := ⟨_, rfl⟩
  have hab : fAb (gA v 92) (gA v 87) (nA v) (nS v) (nW v) x a b ↔ fAb (gA v 14) (gA v 8) (nA v) (nS v) (nW v) x a b := by rw [e92, e87]
  refine k_factX n5.1 n5.2 hA.2.2.2 n1.1 n1.2 n4.1 n4.2 n6.1 n6.2 (fun h => ?_) (fun h h2 => ?_) (fun h h2 h3 => ?_) (fun h h2 h3 => ?_)
  · exact k_factM u5 n5.2 hg' u1 n1.2 u4 n4.2 u6 n6.2 (fun _ => ⟨rfl, hJ⟩) (fun g => absurd (hab.mp g) h) (fun g => absurd (hab.mp g) h) (fun g => absurd (hab.mp g) h)
  · exact k_factM u5 n5.2 hg' u1 n1.2 u4 n4.2 u6 n6.2 (fun g => absurd (hab.mpr h) g) (fun _ _ => ⟨rfl, hJ⟩) (fun _ g => absurd g h2) (fun _ g => absurd g h2)
  · exact k_factM u5 n5.2 hg' u1 n1.2 u4 n4.2 u6 n6.2 (fun g => absurd (hab.mpr h) g) (fun _ g => absurd h2 g) (fun _ _ _ => ⟨rfl, hJ⟩) (fun _ _ g => absurd h3 (by omega))
  · have nFz : ∀ z : xV, gI z 60 6 = nI (nF v + 1) → nF z = nF v + 1 := by
      intro z hz
      show (gI z 60 6).toNatClampNeg = _
      rw [hz, nI_clamp (by omega)]
    have hD := hI.D.e
    refine k_factM (v := v_I (fput v 61 (nF v) x a b y z (gI v 0 13)) 60 6 (nI (nF v + 1))) (W := nA v) (S := nS v) (N := nW v) (F := nF v) u5 n5.2 hg' u1 n1.2 u4 n4.2 u6 n6.2 (fun g => absurd (hab.mpr h) g) (fun _ g => absurd h2 g) (fun _ _ g => absurd g (by omega)) (fun _ _ _ => ⟨rfl, hI, hH, ⟨⟨nF v + 1, by omega, rfl, rfl⟩, ⟨?_, ?_, ?_, ?_, ?_, ?_⟩, fun i hi => ?_, fun i j hij hj => ?_, fun i hi => ?_⟩, hO, hR⟩)
    · show upd (gA v 61) (nF v) x = upd (gA v 121) (nF v) x
      rw [r1]
    · show upd (gA v 62) (nF v) a = upd (gA v 122) (nF v) a
      rw [r2]
    · show upd (gA v 63) (nF v) b = upd (gA v 123) (nF v) b
      rw [r3]
    · show upd (gA v 64) (nF v) y = upd (gA v 124) (nF v) y
      rw [r4]
    · show upd (gA v 65) (nF v) z = upd (gA v 125) (nF v) z
      rw [r5]
    · show upd (gA v 66) (nF v) (gI v 0 13) = upd (gA v 126) (nF v) (gI v 80 5)
      rw [r6, hD]
    · rw [nFz _ rfl] at hi
      show fAb (gA v 14) (gA v 8) (nA v) (nS v) (nW v) (upd (gA v 61) (nF v) x i) (upd (gA v 62) (nF v) a i) (upd (gA v 63) (nF v) b i) ∧ fYr (upd (gA v 61) (nF v) x i) (upd (gA v 64) (nF v) y i) (upd (gA v 65) (nF v) z i) ∧ fDy (gA v 29) (upd (gA v 61) (nF v) x i) (upd (gA v 62) (nF v) a i) (upd (gA v 63) (nF v) b i) (upd (gA v 66) (nF v) (gI v 0 13) i)
      by_cases e : i = nF v
      · rw [e, upd_s, upd_s, upd_s, upd_s, upd_s, upd_s]
        have hn : ∀ g, isN (nS v) g → gA v 29 g.toNatClampNeg ≤ gI v 0 13 := by
          rintro g ⟨m, hm, rfl⟩
          rw [nI_clamp (by omega)]
          exact hO.2.2.1 m hm
        refine ⟨h, h2, fun e1 => ?_, fun e1 => ?_⟩
        · rcases e1 with rfl | rfl
          · rcases h with ⟨g, _⟩ | ⟨_, g⟩ | ⟨g, _⟩ | ⟨g, _⟩ | ⟨g, _⟩
            · exact absurd g (by decide)
            · exact hn a g
            · exact absurd g (by decide)
            · exact absurd g (by decide)
            · exact absurd g (by decide)
          · rcases h with ⟨g, _⟩ | ⟨g, _⟩ | ⟨_, g, _⟩ | ⟨g, _⟩ | ⟨g, _⟩
            · exact absurd g (by decide)
            · exact absurd g (by decide)
            · exact hn a g
            · exact absurd g (by decide)
            · exact absurd g (by decide)
        · subst e1
          rcases h with ⟨g, _⟩ | ⟨g, _⟩ | ⟨_, _, g, _⟩ | ⟨g, _⟩ | ⟨g, _⟩
          · exact absurd g (by decide)
          · exact absurd g (by decide)
          · exact hn b g
          · exact absurd g (by decide)
          · exact absurd g (by decide)
      · rw [upd_n _ _ e, upd_n _ _ e, upd_n _ _ e, upd_n _ _ e, upd_n _ _ e, upd_n _ _ e]
        exact q3 i (by omega)
    · rw [nFz _ rfl] at hj
      show upd (gA v 66) (nF v) (gI v 0 13) i ≤ upd (gA v 66) (nF v) (gI v 0 13) j
      by_cases e : j = nF v
      · rw [e, upd_s]
        by_cases e2 : i = nF v
        · rw [e2, upd_s]
          rw [Int32.le_iff_toInt_le]
          exact Int.le_refl _
        · rw [upd_n _ _ e2]
          exact q5 i (by omega)
      · rw [upd_n _ _ e, upd_n _ _ (by omega)]
        exact q4 i j hij (by omega)
    · rw [nFz _ rfl] at hi
      show upd (gA v 66) (nF v) (gI v 0 13) i ≤ gI v 0 13
      by_cases e : i = nF v
      · rw [e, upd_s, Int32.le_iff_toInt_le]
        exact Int.le_refl _
      · rw [upd_n _ _ e]
        exact q5 i (by omega)

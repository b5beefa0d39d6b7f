/-! span, laid: both sides agree -/
theorem k_leastE {E : Nat × (Nat → Int32)} {d : Nat} {v : xV} {Y : Nat → Nat → Bool} {L G : Nat → Nat} {k : Nat} {Q : Int32 → xV → Prop} (hk : k < 52) (hY : YS (gA v 127) Y) (hE : EndY Y L G) (hL : L k < 200) (kk : Q (nI (L k)) v) : KI E d 200 [.ref 80, .int (nI k)] v Q := by
  have := k_leastM (E := E) (d := d) (v := v) (f := gA v 127) (Q := Q) hk hY (fun r h1 h2 h3 => by
    rw [vAself]
    have : r = L k := by
      rcases Nat.lt_trichotomy r (L k) with q | q | q
      · have := (hE k hk).1.2 r q
        rw [h2 (by omega)] at this
        exact absurd this (by decide)
      · exact q
      · have := h3 (L k) q
        rw [(hE k hk).1.1] at this
        exact absurd this (by decide)
    rw [this]
    exact kk)
  rw [vAself] at this
  exact this
theorem k_greatE {E : Nat × (Nat → Int32)} {d : Nat} {v : xV} {Y : Nat → Nat → Bool} {L G : Nat → Nat} {k : Nat} {Q : Int32 → xV → Prop} (hk : k < 52) (hY : YS (gA v 127) Y) (hE : EndY Y L G) (hG : G k < 200) (kk : Q (nI (G k)) v) : KI E d 201 [.ref 80, .int (nI k)] v Q := by
  have := k_greatM (E := E) (d := d) (v := v) (f := gA v 127) (Q := Q) hk hY (fun r h1 h2 h3 => by
    rw [vAself]
    have : r = G k + 1 := by
      rcases Nat.lt_trichotomy r (G k + 1) with q | q | q
      · have := h3 (G k) (by omega) hG
        rw [(hE k hk).2.1] at this
        exact absurd this (by decide)
      · exact q
      · have := (hE k hk).2.2 (r - 1) (by omega) (by omega)
        rw [h2 (by omega)] at this
        exact absurd this (by decide)
    rw [this, nI_sub (by omega), Nat.add_sub_cancel]
    exact kk)
  rw [vAself] at this
  exact this
theorem k_lookAllF {E : Nat × (Nat → Int32)} {d : Nat} {v : xV} {c : Nat} {t : Int32} {Q : xV → Prop} (hJ : J c v) (kk : ∀ v' K, isKn (gA v' 29) t (nS v') K → RdF v v' → J c v' → (∀ s, s < K → FX v' s t) → Q v') : KV E (d + 12) 52 [.ref 49, .int t] v Q :=
  k_lookAllJ hJ (fun v' K hK f1 f2 f3 => kk v' K (by rw [f1.n.1, f1.2.2.1 29 (by decide)]; exact hK) f1 f2 (fun s hs => by
    unfold FX
    rw [f1.mr, f1.n.2.1, f1.n.2.2.1]
    exact f3 s hs))
theorem k_setM2 {E : Nat × (Nat → Int32)} {d : Nat} {v w : xV} {c K n : Nat} {t : Int32} {Q : xV → Prop} (hF : BdF v w) (hw : J c w) (hc : c < 2 ^ 30) (hK : isKn (gA v 29) t (nS v) K) (hn : isKn (gA v 66) t (nF v) n) (hX : ∀ s, s < K → FX v s t)
    (k1 : ∀ u Y L G, BdF v u → J c u → (∀ s, s < K → FX u s t ∧ FM u s t) → gI u 80 72 = nI 1 → YS (gA u 127) Y → LGd v K n L G → EndY Y L G → Q u)
    (k0 : ∀ u, BdF v u → J c u → (∀ s, s < K → FX u s t ∧ FM u s t) → gI u 80 72 = nI 0 → (¬ ∃ y, SolD v K n y) → Q u) : KV E (d + 6) 204 [.ref 80, .int t, .int (gI w 80 70)] w Q := by
  obtain ⟨n1, -, -, -, -, n6, n7⟩ := hF.n
  have a29 : gA w 29 = gA v 29 := hF.2.2.1 29 (by decide)
  have a66 : gA w 66 = gA v 66 := hF.2.2.1 66 (by decide)
  have h80 := hw.num.2.2.2.2.2.2
  have hn' : isKn (gA w 66) t (nF w) n := by
    rw [a66, n7]
    exact hn
  refine k_setM (n := n) hw hc (by rw [a29, n1]; exact hK) (by rw [n7]; exact hn.1) (fun f hf => ?_) (fun s hs => (hX s hs).bd hF) (fun u Y L G b1 b2 b3 b4 b5 b6 b7 => ?_) (fun u b1 b2 b3 b4 b5 => ?_)
  · rw [hw.numM.2.2.2.2.2, nI_leI (by omega) (by omega)]
    have := hw.knF hn' f hf
    exact ⟨fun h => this.mp h.2, fun h => ⟨by omega, this.mpr h⟩⟩
  · have b6' : LGd v K n L G := ⟨⟨(SolD.bd hF K n L).mp b6.1.1, fun y hy => b6.1.2 y ((SolD.bd hF K n y).mpr hy)⟩, (SolD.bd hF K n G).mp b6.2.1, fun y hy => b6.2.2 y ((SolD.bd hF K n y).mpr hy)⟩
    exact k1 u Y L G (hF.trans b1) b2 b3 b4 b5 b6' b7
  · exact k0 u (hF.trans b1) b2 b3 b4 (fun ⟨y, hy⟩ => b5 ⟨y, (SolD.bd hF K n y).mpr hy⟩)
/-- the class's end of a span -/
theorem k_endX {E : Nat × (Nat → Int32)} {d : Nat} {v : xV} {k : Nat} {y : Int32} {L G : Nat → Nat} {Q : Int32 → xV → Prop} (hk : k < 52) (h1 : gI v 67 12 = nI 1) (h2 : ∀ k, k < 52 → gA v 72 k = nI (L k) ∧ gA v 73 k = nI (G k)) (kk : Q (if y = nI 0 then nI (L k) else nI (G k)) v) : KI E d 92 [.ref 67, .int (nI k), .int y] v Q := by
  refine KI.of ok_92 (Nat.le_of_ble_eq_true rfl) (w_X10_endOf_0 ⟨fun _ => ⟨fun e => ?_, fun e => ?_⟩, fun h => absurd (h1.symm.trans h) nI_01⟩)
  · simp (disch := omega) only [nI_add, pk_mul, nI_clamp, nI_leI, nI_ltI, nI_eq, vp_t, true_and]
    rw [if_pos e] at kk
    rw [(h2 k hk).1]
    exact kk
  · simp (disch := omega) only [nI_add, pk_mul, nI_clamp, nI_leI, nI_ltI, nI_eq, vp_t, true_and]
    rw [if_neg e] at kk
    rw [(h2 k hk).2]
    exact kk
theorem p_span {E : Nat × (Nat → Int32)} {d : Nat} {c : Nat} {v : xV} {x t y : Int32} (hJ : J c v) (hc : c < 2 ^ 30) : P2 E (d + 13) 134 [.ref 0, .int x, .int t, .int y] 208 [.ref 80, .int x, .int t, .int y] v (J c) := by
  have no : (¬ ∃ s, s < nS v ∧ x = nI s ∧ gA v 29 s ≤ t) → KI E (d + 13) 208 [.ref 80, .int x, .int t, .int y] v (fun y2 v2 => (-1 : Int32) = y2 ∧ J c v2) := by
    intro hno
    refine KI.of ok_208 (Nat.le_of_ble_eq_true rfl) (w_X12_span_0 (k_knM (hJ.thr _) (fun s hs ex hd => absurd ⟨s, hs, ex, hd⟩ hno) (fun h => ⟨fun h => absurd rfl h, fun _ => ⟨rfl, hJ⟩⟩)))
  refine KI.of ok_134 (Nat.le_of_ble_eq_true rfl) (w_X11_span_0 (k_knX hJ (fun s hs ex hd => ⟨fun _ => ?_, fun h => absurd h nI_01⟩) (fun h => ⟨fun h => absurd rfl h, fun _ => no h⟩)))
  subst ex
  have hS20 := hJ.num.1.2
  refine k_lookAllF hJ (fun v1 K hK f1 f2 f3 => ?_)
  have hs1 : s < nS v1 := by rw [f1.n.1]; exact hs
  have hd1 : gA v1 29 s ≤ t := by rw [f1.2.2.1 29 (by decide)]; exact hd
  refine k_setX f2 hK f3 (fun n w L G hn hy h1 h2 h3 => ?_) (fun n w hn hy h1 h2 => ?_)
  · have hw : J c w := f2.sc hy.sc
    have bd := hy.sc.bd
    refine k_endX (by omega) h1 h2 ?_
    refine KI.of ok_208 (Nat.le_of_ble_eq_true rfl) (w_X12_span_0 (k_knM (hw.thr _) (fun s' _ _ _ => ⟨fun _ => ?_, fun h => absurd h nI_01⟩) (fun h => absurd ⟨s, (bd.n.1 ▸ hs1), rfl, by rw [show gA (v_I w 80 0 (nI 0)) 29 = gA v1 29 from bd.2.2.1 29 (by decide)]; exact hd1⟩ h)))
    refine k_setM2 (v := v1) (w := v_I w 80 0 (nI 0)) (bd.trans (ScF.thr w _).bd) (hw.thr _) hc hK hn f3 (fun u Y L' G' b1 b2 b3 b4 b5 b6 b7 => ?_) (fun u b1 b2 b3 b4 b5 => absurd ⟨L, h3.1.1⟩ b5)
    have hu := h3.uniq b6 s (by omega)
    refine ⟨fun _ => ⟨fun e => k_leastE (by omega) b5 b7 (b6.1.1.1 s (by omega)).1 ⟨?_, b2⟩, fun e => k_greatE (by omega) b5 b7 (b6.2.1.1 s (by omega)).1 ⟨?_, b2⟩⟩, fun h => absurd (b4.symm.trans h) nI_01⟩
    · rw [if_pos e, hu.1]
    · rw [if_neg e, hu.2]
  · have hw : J c w := f2.sc hy.sc
    have bd := hy.sc.bd
    refine KI.of ok_92 (Nat.le_of_ble_eq_true rfl) (w_X10_endOf_0 ⟨fun h => absurd h1 h, fun _ => ?_⟩)
    refine KI.of ok_208 (Nat.le_of_ble_eq_true rfl) (w_X12_span_0 (k_knM (hw.thr _) (fun s' _ _ _ => ⟨fun _ => ?_, fun h => absurd h nI_01⟩) (fun h => absurd ⟨s, (bd.n.1 ▸ hs1), rfl, by rw [show gA (v_I w 80 0 (nI 0)) 29 = gA v1 29 from bd.2.2.1 29 (by decide)]; exact hd1⟩ h)))
    refine k_setM2 (v := v1) (w := v_I w 80 0 (nI 0)) (bd.trans (ScF.thr w _).bd) (hw.thr _) hc hK hn f3 (fun u Y L' G' b1 b2 b3 b4 b5 b6 b7 => absurd ⟨L', b6.1.1⟩ h2) (fun u b1 b2 b3 b4 b5 => ?_)
    exact ⟨fun h => absurd b4 h, fun _ => ⟨rfl, b2⟩⟩
theorem k_laidM {E : Nat × (Nat → Int32)} {d : Nat} {v : xV} {c : Nat} {x y t z : Int32} {Q : Int32 → xV → Prop} (hJ : J c v) (k1 : ∀ w l m, (w < nA v ∧ m ≤ 4 ∧ l < m) → x = nI w → gA v 14 w = nI m → y = nI l → KV E d 204 [.ref 80, .int t, .int (gI (v_I v 80 0 (nI 0)) 80 70)] (v_I v 80 0 (nI 0)) (fun v6 => KI E d 198 [.int (nI w), .int (nI l)] v6 (fun y8 v7 => ((¬ (gI v7 80 72) = (nI 0) → ((z = (nI 0) → KI E d 200 [.ref 80, .int y8] v7 (fun y10 v9 => Q y10 v9)) ∧ (¬ z = (nI 0) → KI E d 201 [.ref 80, .int y8] v7 (fun y12 v11 => Q y12 v11)))) ∧ ((gI v7 80 72) = (nI 0) → Q (-1 : Int32) v7))))) (k0 : ¬ isLay (gA v 14) (nA v) x y → Q (-1) (v_I v 80 0 (nI 0))) : KI E (d + 1) 209 [.ref 80, .int x, .int y, .int t, .int z] v Q := by
  obtain ⟨hn, hn8⟩ := hJ.num.2.2.2.2.1
  refine KI.of ok_209 (Nat.le_of_ble_eq_true rfl) (w_X12_laid_0 ?_)
  rw [hJ.numM.2.2.2.2.1]
  refine k_in (fun hx => ⟨fun h0 => absurd h0 nI_01, fun _ => ?_⟩) (fun hx => ⟨fun _ => k0 (fun ⟨w', l', m', q1, q2, q3, q4⟩ => hx ((i_btwm (by omega)).mpr ⟨w', q1.1, q2⟩)), fun h0 => absurd rfl h0⟩)
  obtain ⟨w, hw, rfl⟩ := (i_btwm (by omega)).mp hx
  obtain ⟨m, hm, em⟩ := hJ.1.A.2.2.2 w
  have e92 : gA (v_I v 80 0 (nI 0)) 92 = gA v 14 := hJ.1.A.2.1.2.symm
  rw [nI_clamp (by omega), e92, em]
  refine ⟨vp_in_nI (by omega) (by decide), k_in (fun hy => ⟨fun _ => ?_, fun h => absurd h nI_01⟩) (fun hy => ⟨fun h => absurd rfl h, fun _ => k0 (fun ⟨w', l', m', q1, q2, q3, q4⟩ => hy ((i_btwm (by omega)).mpr ⟨l', ?_, q4⟩))⟩)⟩
  · obtain ⟨l, hl, rfl⟩ := (i_btwm (by omega)).mp hy
    exact k1 w l m ⟨hw, hm, hl⟩ rfl em rfl
  · rw [nI_inj (by omega) (by omega)] at q2
    subst q2
    rw [em, nI_inj (by omega) (by omega)] at q3
    omega
theorem p_laid {E : Nat × (Nat → Int32)} {d : Nat} {c : Nat} {v : xV} {x z t y : Int32} (hJ : J c v) (hc : c < 2 ^ 30) : P2 E (d + 13) 135 [.ref 0, .int x, .int z, .int t, .int y] 209 [.ref 80, .int x, .int z, .int t, .int y] v (J c) := by
  obtain ⟨hn, hn8⟩ := hJ.num.2.2.2.2.1
  refine KI.of ok_135 (Nat.le_of_ble_eq_true rfl) (w_X11_laid_0 (k_isLayer hn hn8 hJ.1.A.2.2.2 (fun hl => ⟨fun _ => ?_, fun h => absurd h nI_01⟩) (fun hl => ⟨fun h => absurd rfl h, fun _ => ?_⟩)))
  · obtain ⟨a, l, m, ⟨q1, q2, q3⟩, rfl, q4, rfl⟩ := hl
    refine k_lookAllF hJ (fun v1 K hK f1 f2 f3 => ?_)
    have hk : 20 + 4 * a + l < 52 := by omega
    refine k_setX f2 hK f3 (fun n w L G hn hy h1 h2 h3 => ?_) (fun n w hn hy h1 h2 => ?_)
    · have hw : J c w := f2.sc hy.sc
      have bd := hy.sc.bd
      refine k_dated (k_endX hk h1 h2 ?_)
      have w8 := hw.num.2.2.2.2.1.2
      refine k_laidM hw (fun w' l' m' r1 r2 r3 r4 => ?_) (fun h => absurd ⟨a, l, m, ⟨by rw [bd.n.2.2.2.2.2.1, f1.n.2.2.2.2.2.1]; exact q1, q2, q3⟩, rfl, by rw [bd.2.2.1 14 (by decide), f1.2.2.1 14 (by decide)]; exact q4, rfl⟩ h)
      rw [nI_inj (by omega) (by omega)] at r2 r4
      subst r2 r4
      refine k_setM2 (v := v1) (w := v_I w 80 0 (nI 0)) (bd.trans (ScF.thr w _).bd) (hw.thr _) hc hK hn f3 (fun u Y L' G' b1 b2 b3 b4 b5 b6 b7 => ?_) (fun u b1 b2 b3 b4 b5 => absurd ⟨L, h3.1.1⟩ b5)
      have hu := h3.uniq b6 _ hk
      refine k_layerVar ⟨fun _ => ⟨fun e => k_leastE hk b5 b7 (b6.1.1.1 _ hk).1 ⟨?_, b2⟩, fun e => k_greatE hk b5 b7 (b6.2.1.1 _ hk).1 ⟨?_, b2⟩⟩, fun h => absurd (b4.symm.trans h) nI_01⟩
      · rw [if_pos e, hu.1]
      · rw [if_neg e, hu.2]
    · have hw : J c w := f2.sc hy.sc
      have bd := hy.sc.bd
      refine k_dated (KI.of ok_92 (Nat.le_of_ble_eq_true rfl) (w_X10_endOf_0 ⟨fun h => absurd h1 h, fun _ => ?_⟩))
      refine k_laidM hw (fun w' l' m' r1 r2 r3 r4 => ?_) (fun h => ⟨rfl, hw⟩)
      refine k_setM2 (v := v1) (w := v_I w 80 0 (nI 0)) (bd.trans (ScF.thr w _).bd) (hw.thr _) hc hK hn f3 (fun u Y L' G' b1 b2 b3 b4 b5 b6 b7 => absurd ⟨L', b6.1.1⟩ h2) (fun u b1 b2 b3 b4 b5 => ?_)
      exact k_layerVar ⟨fun h => absurd b4 h, fun _ => ⟨rfl, b2⟩⟩
  · exact k_laidM hJ (fun w' l' m' r1 r2 r3 r4 => absurd ⟨w', l', m', r1, r2, r3, r4⟩ hl) (fun h => ⟨rfl, hJ⟩)

/-! looks and works keep what both sides hold -/
theorem isO_lastn (Pd : Nat → Bool) (n : Nat) : isO n (lastI Pd n) := isO_last Pd (Nat.le_refl n)
theorem WkF.dyn {v v' : xV} (h : WkF v v') {k0 z0 Z : Nat} (hD : DynX k0 z0 v Z) : DynX k0 z0 v' Z := by
  obtain ⟨-, h2, -, -⟩ := h
  have e1 : gn v' = gn v := by
    show v'.2.2.2.2.2.2.1 = v.2.2.2.2.2.2.1
    rw [h2]
  have e2 : gk v' = gk v := by
    show v'.2.2.2.2.2.2.2.1 = v.2.2.2.2.2.2.2.1
    rw [h2]
  have e3 : gz v' = gz v := by
    show v'.2.2.2.2.2.2.2.2 = v.2.2.2.2.2.2.2.2
    rw [h2]
  have e4 : gb v' = gb v := by
    show v'.2.2.2.2.2.1 = v.2.2.2.2.2.1
    rw [h2]
  have e5 : gN v' = gN v := by
    funext i
    unfold gN
    rw [h2]
  have e6 : gK v' = gK v := by
    funext i
    unfold gK
    rw [e1]
  unfold DynX
  rw [e1, e2, e3, e4, e5, e6]
  exact hD
theorem k_lookJ {E : Nat × (Nat → Int32)} {d : Nat} {v : xV} {c s : Nat} {t : Int32} {Q : xV → Prop} (hJ : J c v) (hs : s < nS v) (kk : ∀ v', RdF v v' → J c v' → Fresh v' (mrows v (nR v)) t (nP v) (nD v) s → (∀ s', s' ≠ s → SameE v v' s') → Q v') : KV E (d + 11) 53 [.ref 49, .int (nI s), .int t] v Q := by
  obtain ⟨k0, z0, Z, Qn, Lf, hX, hc, hperm, hk0, hz0⟩ := hJ.look
  obtain ⟨N, hN', hN⟩ := hJ.pl s hs
  obtain ⟨hI, hH, hK, hO, hR, ⟨c1, c2, c3, c4⟩, ⟨n, m, m1, m2, m3, m4⟩, hD⟩ := id hJ
  refine k_look hX hs hN hN' (hc s N hs hN hN') (fun v' Z' f1 f2 f3 f4 f5 f6 f7 => ?_)
  have hn := f1.n
  obtain ⟨g1, g2, g3, g4⟩ := Ext.four hH hK hO hR hn (fun a b h1 _ => f1.1 a b h1) (fun j hj => f1.2.2.1 j (by omega))
  have hmr : mrows v' (nR v') = mrows v (nR v) := by
    rw [hn.2.2.2.2.1]
    unfold mrows rw1
    rw [f1.2.2.1 96 (by decide), f1.2.2.1 97 (by decide)]
  refine kk v' f1 ⟨hI.rd f1, g1, g2, g3, g4, ⟨fun s' => ?_, fun s' hs' => ?_, fun s' hv => ?_, ?_⟩, ⟨n, m, m1, ?_, ?_, fun e s' hs' hd => ?_⟩, k0, z0, Z', f2, hk0, hz0⟩ ?_ f3
  · by_cases e : s' = s
    · rw [e]
      exact Or.inr f4
    · rw [(f3 s' e).1]
      exact c1 s'
  · rw [hn.1] at hs'
    rw [(f3 s' (by omega)).1]
    exact c2 s' hs'
  · rw [hn.2.1, hn.2.2.1]
    by_cases e : s' = s
    · subst e
      rw [f5]
      refine ⟨isO_lastn _ _, fun q hq => ?_⟩
      rw [f6 q hq]
      exact isO_lastn _ _
    · have hE := f3 s' e
      rw [hE.1] at hv
      rw [hE.2.1]
      refine ⟨(c3 s' hv).1, fun q hq => ?_⟩
      rw [hE.2.2.1 q hq]
      exact (c3 s' hv).2 q hq
  · rw [hmr, hn.1]
    intro s' N2 hs' hN2 hN2' hv
    by_cases e : s' = s
    · subst e
      rw [f1.2.2.1 28 (by decide), hN, nI_eq (by omega) (by omega)] at hN2
      subst hN2
      exact (f7.ev f5.symm (fun q hq => (f6 q hq).symm)).perm hperm
    · have hE := f3 s' e
      rw [f1.2.2.1 28 (by decide)] at hN2
      rw [hE.1] at hv
      have := (c4 s' N2 hs' hN2 hN2' hv).mv f1.L hE
      exact this.ev hE.2.1.symm (fun q hq => (hE.2.2.1 q hq).symm)
  · rw [f1.1 80 6 (by decide)]
    exact m2
  · rw [f1.1 80 62 (by decide)]
    exact m3
  · rw [hn.1] at hs'
    rw [f1.2.2.1 103 (by decide), f1.1 80 61 (by decide)] at hd
    rw [hn.2.1, hn.2.2.1, hn.2.2.2.2.1, f1.1 80 61 (by decide)]
    exact (m4 e s' hs' hd).rd f1
  · intro N2 hN2 hN2'
    rw [f1.2.2.1 28 (by decide), hN, nI_eq (by omega) (by omega)] at hN2
    subst hN2
    rw [(f1.ev s t (nP v) (nD v)).1, (f1.ev s t (nP v) (nD v)).2]
    exact f7.perm hperm
theorem k_lookAllJ {E : Nat × (Nat → Int32)} {d : Nat} {v : xV} {c : Nat} {t : Int32} {Q : xV → Prop} (hJ : J c v) (kk : ∀ v' K, isKn (gA v 29) t (nS v) K → RdF v v' → J c v' → (∀ s, s < K → Fresh v' (mrows v (nR v)) t (nP v) (nD v) s) → Q v') : KV E (d + 12) 52 [.ref 49, .int t] v Q := by
  obtain ⟨hS, hS2⟩ := hJ.num.1
  refine KV.of ok_52 (Nat.le_of_ble_eq_true rfl) (w_X6_lookAll_0 (k_knownX2 hS hS2 (fun K hK => ?_)))
  have hK1 := hK.1
  have step : ∀ i, i ≤ K → ∀ v', RdF v v' → J c v' → (∀ s, s < i → Fresh v' (mrows v (nR v)) t (nP v) (nD v) s) → RV E (d + 12) 52 11 [(0, .ref 49), (1, .int t), (2, .int (nI K)), (3, .int (nI i))] v' Q := by
    intro i hi
    refine lp_up (n := K) (P := fun i => ∀ v', RdF v v' → J c v' → (∀ s, s < i → Fresh v' (mrows v (nR v)) t (nP v) (nD v) s) → RV E (d + 12) 52 11 [(0, .ref 49), (1, .int t), (2, .int (nI K)), (3, .int (nI i))] v' Q) (fun v' f1 f2 f3 => w_X6_lookAll_11 ⟨fun _ => kk v' K hK f1 f2 f3, fun z => absurd (nI_le (Nat.le_refl _) (by omega)) z⟩) (fun i hi ih v' f1 f2 f3 => w_X6_lookAll_11 ⟨fun z => ?_, fun _ => ?_⟩) hi
    · exfalso
      rw [nI_leI (by omega) (by omega)] at z
      omega
    · have hn := f1.n
      have hmr : mrows v' (nR v') = mrows v (nR v) := by
        rw [hn.2.2.2.2.1]
        unfold mrows rw1
        rw [f1.2.2.1 96 (by decide), f1.2.2.1 97 (by decide)]
      refine k_lookJ f2 (by rw [hn.1]; omega) (fun v2 g1 g2 g3 g4 => ?_)
      rw [nI_add]
      refine ih v2 (f1.trans g1) g2 (fun s hs => ?_)
      by_cases e : s = i
      · subst e
        rw [hmr, hn.2.1, hn.2.2.1] at g3
        exact g3
      · exact (f3 s (by omega)).mv g1 (g4 s e)
  exact step 0 (by omega) v (RdF.refl v) hJ (fun s hs => by omega)
theorem J.wk {v v' : xV} {c : Nat} {t : Int32} (hJ : J c v) (f1 : WkF v v') (f2 : ∀ s, s < nS v → gA v 103 s ≤ t → FreshM v' t (nP v) (nD v) (nR v) s) (f3 : gI v' 80 62 = gI v 80 6) (f4 : gI v' 80 61 = t) : J c v' := by
  obtain ⟨hI, hH, hK, hO, hR, ⟨c1, c2, c3, c4⟩, ⟨n, m, m1, m2, m3, m4⟩, ⟨k0, z0, Z, d1, d2, d3⟩⟩ := id hJ
  have hn := f1.n
  obtain ⟨g1, g2, g3, g4⟩ := Ext.four hH hK hO hR hn (fun a b _ h2 => f1.2.2.1 a b h2) (fun j hj => f1.2.2.2 j (by omega))
  have hmr : mrows v' (nR v') = mrows v (nR v) := by
    rw [hn.2.2.2.2.1]
    exact (f1.g 0 t 0 0 0 _).2
  have w : ∀ j, j < 112 → gA v' j = gA v j := fun j hj => f1.2.2.2 j (by omega)
  have hSL : SameL v v' := ⟨f1.2.2.1 3 7 (by decide), w 4 (by decide), w 5 (by decide), w 6 (by decide), w 7 (by decide), w 8 (by decide), w 9 (by decide), w 32 (by decide), w 33 (by decide), w 37 (by decide)⟩
  have hSE : ∀ s, SameE v v' s := by
    intro s
    unfold SameE
    rw [w 39 (by decide), w 40 (by decide), w 41 (by decide), w 42 (by decide), w 43 (by decide), w 44 (by decide), w 45 (by decide), w 46 (by decide), w 47 (by decide), w 48 (by decide)]
    exact SameE.refl v s
  refine ⟨hI.wk f1, g1, g2, g3, g4, ⟨?_, ?_, ?_, ?_⟩, ⟨n, n, by omega, ?_, by rw [f3]; exact m2, fun _ s hs hd => ?_⟩, k0, z0, Z, f1.dyn d1, d2, d3⟩
  · rw [w 39 (by decide)]
    exact c1
  · rw [w 39 (by decide), hn.1]
    exact c2
  · rw [w 39 (by decide), w 40 (by decide), w 41 (by decide), hn.2.1, hn.2.2.1]
    exact c3
  · rw [hmr, hn.1]
    intro s N hs hN hN' hv
    rw [w 28 (by decide)] at hN
    rw [w 39 (by decide)] at hv
    have := (c4 s N hs hN hN' hv).mv hSL (hSE s)
    rw [w 40 (by decide), w 41 (by decide)]
    exact this
  · rw [f1.2.2.1 80 6 (by decide)]
    exact m2
  · rw [hn.1] at hs
    rw [f4] at hd ⊢
    rw [w 103 (by decide)] at hd
    rw [hn.2.1, hn.2.2.1, hn.2.2.2.2.1]
    exact f2 s hs hd
theorem J.hc {v : xV} {c : Nat} {t : Int32} (hJ : J c v) (hc : c < 2 ^ 30) : gI v 80 62 = gI v 80 6 → gI v 80 61 = t → ∀ s, s < nS v → gA v 103 s ≤ t → FreshM v t (nP v) (nD v) (nR v) s := by
  obtain ⟨n, m, m1, m2, m3, m4⟩ := hJ.2.2.2.2.2.2.1
  intro e1 e2 s hs hd
  rw [m2, m3, nI_eq (by omega) (by omega)] at e1
  have := m4 e1 s hs (by rw [e2]; exact hd)
  rw [e2] at this
  exact this
theorem k_workJ {E : Nat × (Nat → Int32)} {d : Nat} {v : xV} {c : Nat} {t : Int32} {Q : xV → Prop} (hJ : J c v) (hc : c < 2 ^ 30) (kk : ∀ v', WkF v v' → J c v' → (∀ s, s < nS v → gA v 103 s ≤ t → FreshM v' t (nP v) (nD v) (nR v) s) → Q v') : KV E (d + 5) 182 [.ref 80, .int t] v Q :=
  k_workAll hJ.work (hJ.hc hc) (fun v' f1 f2 f3 f4 => kk v' f1 (hJ.wk f1 f2 f3 f4) f2)
/-- forms that were used, as the reference finds them -/
theorem k_usedJ {E : Nat × (Nat → Int32)} {d : Nat} {v : xV} {c s l N : Nat} {t : Int32} {Q : Int32 → xV → Prop} (hJ : J c v) (hs : s < nS v) (hl : l < 26) (hN : gA v 28 s = nI N) (hN24 : N ≤ 24) (hF : FreshM v t (nP v) (nD v) (nR v) s) (kk : Q (UsedX v (evP v s t (nP v)) (RDw v (mrows v (nR v)) N (evP v s t (nP v)) (evD v s t (nD v))) l) v) : KI E (d + 1) 191 [.ref 80, .int (nI s), .int (nI l), .int t] v Q := by
  obtain ⟨N', hN', eN⟩ := hJ.pl s hs
  obtain ⟨n1, n2, n3, n4, n5, n6⟩ := hJ.num
  obtain ⟨u1, u2, u3, u4, u5, u6⟩ := hJ.numM
  have hI := hJ.1
  have hW := hJ.wl
  obtain ⟨nf, hnf, enf⟩ := hI.F.2.1 l
  have hwk := hJ.work
  -- the places
  have hNN : N' = N := by
    rw [hN, nI_eq (by omega) (by omega)] at eN
    exact eN.symm
  have hM := hF N' (by rw [← hI.S.2.1.2.2.1]; exact eN) hN'
  rw [hJ.gx] at hM
  obtain ⟨ws, hws⟩ : ∃ ws, ws = rdl (Gx v (LCx v (evP v s t (nP v)) (evD v s t (nD v))) N') 6 (mrows v (nR v)) 0 := ⟨_, rfl⟩
  rw [← hws] at hM
  obtain ⟨h117, h116, _⟩ := hM
  have hok : Gok (Gx v (LCx v (evP v s t (nP v)) (evD v s t (nD v))) N') := by
    rw [← hJ.gx]
    exact Gm_ok hwk.2.1 (fun k l x hx => LC_le hx)
  have hlen : ws.length ≤ 6 := by rw [hws]; exact rdl_len _ _ _ _
  have hltW : ∀ w, w ∈ ws → w < nW v := by
    intro w hw
    rw [hws] at hw
    have := rdl_lt _ _ _ _ w hw
    rw [Gx_W hW] at this
    exact this
  have hfit : (lts (fun w => (gA v 7 w).toNatClampNeg) (ltX v) ws).length ≤ 24 := by
    rw [hws]
    have := rdl_fit hok (ltX v) 6 (mrows v (nR v)) 0 (Nat.zero_le _)
    have : (lts (fun w => (gA v 7 w).toNatClampNeg) (ltX v) (rdl (Gx v (LCx v (evP v s t (nP v)) (evD v s t (nD v))) N') 6 (mrows v (nR v)) 0)).length + 0 ≤ N' := this
    omega
  have kk : Q (UsedX v (evP v s t (nP v)) ws l) v := by
    subst hNN
    rw [hws]
    exact kk
  have e104 : lastI (phP (gA v 104) (gA v 105) (nI s) t) (nP v) = evP v s t (nP v) := by
    unfold evP
    rw [hI.P.2.1.1, hI.P.2.1.2.1]
  refine k_usedForm (P := nP v) (n := nf) (ws := ws) (clw := fun w => (gA v 7 w).toNatClampNeg) (lw := ltX v) (by omega) hl u2 n2.2 h117 hlen h116 (fun w hw => ?_) (fun w j => ?_) hfit (by rw [← hI.F.1.1]; exact enf) hnf (fun h => ?_) (fun p hp e => ?_)
  · have hw' := hltW w hw
    obtain ⟨z, hz, ez⟩ := hW.2.2.1 w hw'
    refine ⟨by omega, ?_, ?_⟩
    · rw [← hI.W.2.1.2.1, ez, nI_clamp (by omega)]
    · rw [ez, nI_clamp (by omega)]
      exact hz.2
  · obtain ⟨z, hz, ez⟩ := hW.2.2.2.1 (10 * w + j)
    rw [← hI.W.2.1.1]
    unfold ltX
    rw [ez, nI_clamp (by omega)]
    exact ⟨rfl, hz⟩
  · rcases h with h | h
    · rw [e104] at h
      unfold UsedX at kk
      rw [if_pos h] at kk
      exact kk
    · rw [h, UsedX_nil] at kk
      exact kk
  · rw [e104] at e
    unfold UsedX at kk
    rw [e, if_neg (m1_ne (by omega)), nI_clamp (by omega)] at kk
    rw [← hI.F.1.2, ← hI.P.2.1.2.2.1, ← hI.P.2.1.2.2.2]
    have hfm : ∀ k f, (fmX v p k l).testBit f = (decide (f < nf) && mayF (gA v 4 (3 * l + f)) (gA v 32 (24 * p + k)) (gA v 33 (24 * p + k))) := by
      intro k f
      unfold fmX
      rw [fmb_b, enf, nI_clamp (by omega)]
    cases eb : fbk (fmX v p) (fun k => (lts (fun w => (gA v 7 w).toNatClampNeg) (ltX v) ws)[k]?.getD 0) l (lts (fun w => (gA v 7 w).toNatClampNeg) (ltX v) ws).length with
    | none =>
      rw [(fbk_o _ _ _ _).mp eb, if_neg Bool.false_ne_true]
      rw [eb] at kk
      exact onlyI_m1 ▸ kk
    | some b =>
      have ho : occB (fun k => (lts (fun w => (gA v 7 w).toNatClampNeg) (ltX v) ws)[k]?.getD 0) l (lts (fun w => (gA v 7 w).toNatClampNeg) (ltX v) ws).length = true := by
        cases hh : occB (fun k => (lts (fun w => (gA v 7 w).toNatClampNeg) (ltX v) ws)[k]?.getD 0) l (lts (fun w => (gA v 7 w).toNatClampNeg) (ltX v) ws).length with
        | true => rfl
        | false =>
          rw [(fbk_o (fmX v p) _ _ _).mpr hh] at eb
          cases eb
      rw [if_pos ho]
      obtain ⟨b1, b2⟩ := fbk_b (mf := fun f k => mayF (gA v 4 (3 * l + f)) (gA v 32 (24 * p + k)) (gA v 33 (24 * p + k))) hfm (fun k => fmX_lt enf hnf) _ b eb
      rw [eb] at kk
      have := only_st (ok := fun f => mayB (fun k => mayF (gA v 4 (3 * l + f)) (gA v 32 (24 * p + k)) (gA v 33 (24 * p + k))) (fun k => (lts (fun w => (gA v 7 w).toNatClampNeg) (ltX v) ws)[k]?.getD 0) l (lts (fun w => (gA v 7 w).toNatClampNeg) (ltX v) ws).length) b1 hnf b2
      have kk : Q (onlyI (nI b)) v := kk
      rw [this] at kk
      exact kk

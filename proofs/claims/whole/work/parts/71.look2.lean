/-! look, knownCount, lookAll -/
theorem isO_last (Pd : Nat → Bool) {n N : Nat} (h : n ≤ N) : isO N (lastI Pd n) := by
  rcases lastI_r Pd n with e | ⟨i, hi, e, _⟩
  · exact Or.inl e
  · exact Or.inr ⟨i, by omega, e⟩
theorem upd_upd (o : Nat → Int32) (i : Nat) (x y : Int32) : upd (upd o i x) i y = upd o i y := by
  funext j
  rw [upd_i, upd_i, upd_i]
  split <;> rfl
theorem onlyI_m1 : onlyI (-1) = -1 := by decide
theorem UsedX_nil (v : xV) (p : Int32) (l : Nat) : UsedX v p [] l = -1 := by
  unfold UsedX
  split
  · rfl
  · exact onlyI_m1
theorem cntU_0 {U : Nat → Int32} (h : ∀ l, U l = -1) (n : Nat) : cntU U n = 0 := by
  induction n with
  | zero => rfl
  | succ n ih =>
    show cntU U n + (if U n = -1 then 0 else 1) = 0
    rw [ih, if_pos (h n)]
theorem kb_l (u : xV) (c n A B x : Nat → Int32) {j : Nat} (hj : j < 42) : gA (v_A (kb u c n A B) 44 x) j = gA u j := by
  unfold kb
  rw [gA_A, if_neg (by omega), gA_A, if_neg (by omega), gA_A, if_neg (by omega), gA_A, if_neg (by omega), gA_A, if_neg (by omega)]
theorem kf_l (v : xV) (A B C : Nat → Int32) {j : Nat} (hj : j < 47) : gA (kf v A B C) j = gA v j := by
  unfold kf
  rw [gA_A, if_neg (by omega), gA_A, if_neg (by omega), gA_A, if_neg (by omega)]
theorem k_look {E : Nat × (Nat → Int32)} {d : Nat} {v : xV} {k0 z0 Z Qn P D W S N s : Nat} {t : Int32} {Lf : Nat → List (List Nat)} {Q : xV → Prop} (hX : LookX v k0 z0 Z Qn P D W S Lf) (hs : s < S) (hN : gA v 28 s = nI N) (hN' : 1 ≤ N ∧ N ≤ 24) (hc : gA v 39 s = nI 1 → Cached v (Lf 0) s N (gA v 40 s) (fun q => gA v 41 (4 * s + q)))
    (kk : ∀ v' Z', RdF v v' → DynX k0 z0 v' Z' → (∀ s', s' ≠ s → SameE v v' s') → gA v' 39 s = nI 1 → gA v' 40 s = evP v s t P → (∀ q, q < 4 → gA v' 41 (4 * s + q) = evD v s t D q) → Cached v' (Lf 0) s N (evP v s t P) (evD v s t D) → Q v') : KV E (d + 11) 53 [.ref 49, .int (nI s), .int t] v Q := by
  obtain ⟨h1, h2, h3, h4, h5, h6, ⟨hP, hP2⟩, ⟨hD, hD2⟩, ⟨hS, hS2⟩, h10, h11, h12⟩ := id hX
  have hs20 : s < 20 := by omega
  have hW80 := h2.2.1
  refine KV.of ok_53 (Nat.le_of_ble_eq_true rfl) (w_X6_look_0 (k_gather hs20 hP hP2 hD hD2 h10 ?_))
  have g14 : gI (gath v s t P D) 49 14 = evP v s t P := rfl
  have g50 : ∀ q, q < 4 → gA (gath v s t P D) 50 q = evD v s t D q := fun q hq => if_pos hq
  have g15 : gI (gath v s t P D) 49 15 = nI N := hN
  have gF : RdF v (gath v s t P D) := ((RdF.I v 15 _).trans (RdF.I _ 14 _)).trans (RdF.A _ (by decide) _)
  refine k_isSame hs20 (h12 s) (fun q1 q2 q3 => ?_) ?_
  · refine ⟨fun h => absurd h nI_01, fun _ => kk _ Z gF h3 (fun s' _ => SameE.refl v s') q1 q2 (fun q hq => (q3 q hq).trans (g50 q hq)) ?_⟩
    have := hc q1
    refine Cached.mv (v := v) (this.ev q2 (fun q hq => (q3 q hq).trans (g50 q hq))) gF.L (SameE.refl v s)
  · refine ⟨fun _ => ?_, fun h => absurd rfl h⟩
    refine k_keepEv hs20 (k_clear hs20 ?_)
    obtain ⟨v3, hv3⟩ : ∃ v3, v3 = v_A (v_A (v_A (v_A (v_A (v_A (v_A (v_A (v_A (gath v s t P D) 39 (upd (gA (gath v s t P D) 39) s (nI 1))) 40 (upd (gA (gath v s t P D) 40) s (gI (gath v s t P D) 49 14))) 41 (evF (gA (gath v s t P D) 41) (gA (gath v s t P D) 50) s 4)) 42 (upd (gA v 42) s (-1))) 43 (upd (gA v 43) s (-1))) 44 (upd (gA v 44) s (nI 0))) 48 (upd (gA v 48) s (nI 0))) 46 (clrF (gA v 46) (3 * s) (3 * s + 3))) 47 (clrF (gA v 47) (26 * s) (26 * s + 26)) := ⟨_, rfl⟩
    show KV E (d + 10) 60 [.ref 49] (v_A (v_A (v_A (v_A (v_A (v_A (v_A (v_A (v_A (gath v s t P D) 39 (upd (gA (gath v s t P D) 39) s (nI 1))) 40 (upd (gA (gath v s t P D) 40) s (gI (gath v s t P D) 49 14))) 41 (evF (gA (gath v s t P D) 41) (gA (gath v s t P D) 50) s 4)) 42 (upd (gA v 42) s (-1))) 43 (upd (gA v 43) s (-1))) 44 (upd (gA v 44) s (nI 0))) 48 (upd (gA v 48) s (nI 0))) 46 (clrF (gA v 46) (3 * s) (3 * s + 3))) 47 (clrF (gA v 47) (26 * s) (26 * s + 26))) _
    rw [← hv3]
    have F3 : RdF v v3 := by
      rw [hv3]
      exact ((((((((gF.trans (RdF.A _ (by decide) _)).trans (RdF.A _ (by decide) _)).trans (RdF.A _ (by decide) _)).trans (RdF.A _ (by decide) _)).trans (RdF.A _ (by decide) _)).trans (RdF.A _ (by decide) _)).trans (RdF.A _ (by decide) _)).trans (RdF.A _ (by decide) _)).trans (RdF.A _ (by decide) _)
    have D3 : DynX k0 z0 v3 Z := by
      rw [hv3]
      exact h3
    have a39 : gA v3 39 = upd (gA v 39) s (nI 1) := by rw [hv3]; rfl
    have a40 : gA v3 40 = upd (gA v 40) s (evP v s t P) := by rw [hv3]; rfl
    have a41 : gA v3 41 = evF (gA v 41) (gA (gath v s t P D) 50) s 4 := by rw [hv3]; rfl
    have a42 : gA v3 42 = upd (gA v 42) s (-1) := by rw [hv3]; rfl
    have a43 : gA v3 43 = upd (gA v 43) s (-1) := by rw [hv3]; rfl
    have a44 : gA v3 44 = upd (gA v 44) s (nI 0) := by rw [hv3]; rfl
    have a45 : gA v3 45 = gA v 45 := by rw [hv3]; rfl
    have a46 : gA v3 46 = clrF (gA v 46) (3 * s) (3 * s + 3) := by rw [hv3]; rfl
    have a47 : gA v3 47 = clrF (gA v 47) (26 * s) (26 * s + 26) := by rw [hv3]; rfl
    have a48 : gA v3 48 = upd (gA v 48) s (nI 0) := by rw [hv3]; rfl
    have i14 : gI v3 49 14 = evP v s t P := by rw [hv3]; rfl
    have i15 : gI v3 49 15 = nI N := by rw [hv3]; exact hN
    have a50 : ∀ q, q < 4 → gA v3 50 q = evD v s t D q := by rw [hv3]; exact g50
    clear hv3
    have X3 : LookX v3 k0 z0 Z Qn P D W S Lf := hX.mv F3 D3 (fun s' => by
      rw [a39, upd_i]
      split
      · exact Or.inr rfl
      · exact h12 s')
    obtain ⟨x1, x2, x3, x4, x5, x6, -⟩ := id X3
    have p60 : isO 60 (gI v3 49 14) := by rw [i14]; exact isO_last _ hP2
    have d40 : ∀ q, q < 4 → isO 40 (gA v3 50 q) := fun q hq => by rw [a50 q hq]; exact isO_last _ hD2
    refine k_weighLetters x1 p60 d40 i15 hN'.2 ?_
    obtain ⟨lc, hlc⟩ : ∃ lc, lc = LCx v3 (gI v3 49 14) (gA v3 50) := ⟨_, rfl⟩
    rw [← hlc]
    have lcb : ∀ k l x, lc k l = some x → x ≤ 16 := by
      intro k l x hx
      rw [hlc] at hx
      exact LC_le hx
    have hlc2 : lc = LCx v (evP v s t P) (evD v s t D) := by
      rw [hlc, i14, F3.L.lc]
      exact LCx_congr a50
    refine k_startSearch (v := v_A (v_A v3 51 (wlF lc (gA v3 51) (26 * N))) 52 (zto N (gA v3 52))) D3 x4 x5.1 (fun w Z' f wF wl wI wD wZ wf wf2 => ?_)
    have Fw : RdF v w := (F3.trans ((RdF.A _ (by decide) _).trans (RdF.A _ (by decide) _))).trans wF
    have wgb := DynX_gb wD
    obtain ⟨g', -, -, -, -, wZ2, wK, wN⟩ := id wD
    have b : ∀ j, j < 51 → gA w j = gA v3 j := by
      intro j hj
      rw [wl j (by omega), gA_A, if_neg (by omega), gA_A, if_neg (by omega)]
    have b52 : gA w 52 = zto N (gA v3 52) := by rw [wl 52 (by decide)]; rfl
    have b51 : gA w 51 = wlF lc (gA v3 51) (26 * N) := by rw [wl 51 (by decide)]; rfl
    have bI : gI w = gI v3 := wI
    have wX : SearchX w lc N W := by
      refine ⟨wgb.1, ?_, by rw [bI]; exact i15, hN'.2, fun k l hk hl => ?_, lcb⟩
      · unfold WordX
        rw [bI, b 7 (by decide), b 6 (by decide), b 8 (by decide)]
        exact x2
      · rw [b51]
        unfold wlF
        rw [if_pos (by omega), show (26 * k + l) / 26 = k by omega, show (26 * k + l) % 26 = l by omega]
    have wM : MachX w Qn Lf Z' := by
      refine ⟨?_, wK, wN, wZ, by omega⟩
      rw [b 23 (by decide), b 24 (by decide)]
      exact x5
    have hQ0 : 0 < Qn := x5.1.1
    have srch := k_search (E := E) (d := d) wX wM 6 0 0 0 rfl hQ0 (Nat.zero_le _) x6 (gA w 52) (gA w 53) (gA w 54) (gA w 55) (gA w (gb w)) (gA w (gb w + 1)) (gA w (gb w + 2))
    rw [sv_self] at srch
    refine srch _ (fun k hk => Or.inl ?_) (fun q k hq _ hk => Or.inl ?_) ?_
    · have hk : k < N := hk
      rw [b52]
      unfold zto
      rw [if_pos hk]
    · have hk : k ≤ N := hk
      rw [wf]
      exact wf2 _ (by omega)
    intro a' b' c' e' f' g' h' hpost hcd
    have hG := Gx_ok wX
    have hcW : cW (Gx w lc N) = W := Gx_W wX.2.1
    obtain ⟨u, hu⟩ : ∃ u, u = sv w a' b' c' e' f' g' h' := ⟨_, rfl⟩
    rw [← hu]
    have ub : ∀ j, j < 51 → gA u j = gA v3 j := by
      intro j hj
      rw [hu, sv_o wgb.1 (by omega)]
      exact b j hj
    have uI : gI u = gI v3 := by rw [hu, sv_gI]; exact bI
    have ugb : gb u = gb w := by rw [hu]; rfl
    have uf : gA u (gb u) = f' := by rw [hu, sv_gb, sv_f]
    have ug : gA u (gb u + 1) = g' := by rw [hu, sv_gb, sv_g]
    have uh : gA u (gb u + 2) = h' := by rw [hu, sv_gb, sv_h]
    have uD : DynX k0 z0 u Z' := by rw [hu]; exact wD
    have uF : RdF v u := by
      refine Fw.trans ?_
      rw [hu]
      unfold sv
      refine ((((((RdF.A _ (by decide) _).trans (RdF.A _ (by decide) _)).trans (RdF.A _ (by decide) _)).trans (RdF.A _ (by decide) _)).trans (RdF.A _ (by omega) _)).trans (RdF.A _ ?_ _)).trans (RdF.A _ ?_ _)
      · rcases wgb.2 with z | z
        · exact Or.inl (by omega)
        · exact Or.inr (by omega)
      · rcases wgb.2 with z | z
        · exact Or.inl (by omega)
        · exact Or.inr (by omega)
    have uK := uD
    obtain ⟨g'', -, -, -, -, -, uK, uN⟩ := uK
    have eG : Gx v (LCx v (evP v s t P) (evD v s t D)) N = Gx w lc N := by
      rw [← hlc2]
      exact (Fw.L.gx lc N).symm
    have GU : Gx u (LCx u (evP v s t P) (evD v s t D)) N = Gx w lc N := by
      rw [uF.L.lc, uF.L.gx, eG]
    clear hu srch
    -- the entries of others, and its own evidence
    have oth : ∀ y : xV, (∀ j, j < 42 → gA y j = gA u j) → (∀ s', s' ≠ s → gA y 42 s' = gA u 42 s' ∧ gA y 43 s' = gA u 43 s' ∧ gA y 44 s' = gA u 44 s' ∧ gA y 48 s' = gA u 48 s') → (∀ s', s' ≠ s → ∀ i, i < 6 → gA y 45 (6 * s' + i) = gA u 45 (6 * s' + i)) → (∀ s', s' ≠ s → ∀ i, i < 3 → gA y 46 (3 * s' + i) = gA u 46 (3 * s' + i)) → (∀ s', s' ≠ s → ∀ i, i < 26 → gA y 47 (26 * s' + i) = gA u 47 (26 * s' + i)) → (∀ s', s' ≠ s → SameE v y s') ∧ gA y 39 s = nI 1 ∧ gA y 40 s = evP v s t P ∧ ∀ q, q < 4 → gA y 41 (4 * s + q) = evD v s t D q := by
      intro y y1 y2 y3 y4 y5
      refine ⟨fun s' hs' => ⟨?_, ?_, fun q hq => ?_, ?_, ?_, ?_, fun i hi => ?_, fun i hi => ?_, fun i hi => ?_, ?_⟩, ?_, ?_, fun q hq => ?_⟩
      · rw [y1 39 (by decide), ub 39 (by decide), a39, upd_n _ _ hs']
      · rw [y1 40 (by decide), ub 40 (by decide), a40, upd_n _ _ hs']
      · rw [y1 41 (by decide), ub 41 (by decide), a41]
        unfold evF
        rw [if_neg (by omega)]
      · rw [(y2 s' hs').1, ub 42 (by decide), a42, upd_n _ _ hs']
      · rw [(y2 s' hs').2.1, ub 43 (by decide), a43, upd_n _ _ hs']
      · rw [(y2 s' hs').2.2.1, ub 44 (by decide), a44, upd_n _ _ hs']
      · rw [y3 s' hs' i hi, ub 45 (by decide), a45]
      · rw [y4 s' hs' i hi, ub 46 (by decide), a46]
        unfold clrF
        rw [if_neg (by omega)]
      · rw [y5 s' hs' i hi, ub 47 (by decide), a47]
        unfold clrF
        rw [if_neg (by omega)]
      · rw [(y2 s' hs').2.2.2, ub 48 (by decide), a48, upd_n _ _ hs']
      · rw [y1 39 (by decide), ub 39 (by decide), a39, upd_s]
      · rw [y1 40 (by decide), ub 40 (by decide), a40, upd_s]
      · rw [y1 41 (by decide), ub 41 (by decide), a41]
        unfold evF
        rw [if_pos (by omega), Nat.add_sub_cancel_left]
        exact g50 q hq
    have hN1 : 0 < cN (Gx w lc N) := by show 0 < N; omega
    match eU : UL (Gx w lc N) (Lf 0) 0 with
    | none =>
      refine ⟨fun _ => ?_, fun h => absurd m1_lt h⟩
      obtain ⟨o1, o2, o3, o4⟩ := oth u (fun _ _ => rfl) (fun _ _ => ⟨rfl, rfl, rfl, rfl⟩) (fun _ _ _ _ => rfl) (fun _ _ _ _ => rfl) (fun _ _ _ _ => rfl)
      refine kk u Z' uF uD o1 o2 o3 o4 ?_
      have ev : RDv u (Lf 0) N (evP v s t P) (evD v s t D) = none := by
        unfold RDv
        rw [GU]
        exact eU
      have ew : RDw u (Lf 0) N (evP v s t P) (evD v s t D) = [] := by
        unfold RDw
        rw [GU]
        show (if 0 < cN (Gx w lc N) then _ else _) = _
        rw [if_pos hN1, eU]
      unfold Cached
      rw [ev, ew]
      refine ⟨?_, ?_, ?_, fun i w' e => (by cases e), fun j hj => ?_, fun l hl => ?_, ?_⟩
      · rw [ub 42 (by decide), a42, upd_s]
        rfl
      · rw [ub 43 (by decide), a43, upd_s]
        rfl
      · rw [ub 44 (by decide), a44, upd_s]
        rfl
      · rw [ub 46 (by decide), a46]
        unfold clrF
        rw [if_pos (by omega)]
        rfl
      · rw [ub 47 (by decide), a47, UsedX_nil]
        unfold clrF
        rw [if_pos (by omega)]
      · rw [ub 48 (by decide), a48, upd_s, cntU_0 (fun l => UsedX_nil _ _ _)]
    | some (c0, n0, p0) =>
      have hbd := UL_bd hG N 0 _ c0 n0 p0 (Nat.zero_add _) (Or.inr trivial) eU
      have hbd : c0 ≤ 16 * (N - 0) := hbd
      refine ⟨fun h => absurd h (nz_lt (by omega)), fun _ => ?_⟩
      have c1 : ∀ x, x < cW (Gx w lc N) → gA u 8 x = nI (cs (Gx w lc N) x) := by
        intro x hx
        obtain ⟨z, hz, ez⟩ := x2.2.2.2.2 x
        rw [ub 8 (by decide), ez]
        show _ = nI (gA w 8 x).toNatClampNeg
        rw [b 8 (by decide), ez, nI_clamp (by omega)]
      have c2 : ∀ x, x < cW (Gx w lc N) → gA u 7 x = nI (cl (Gx w lc N) x) := by
        intro x hx
        rw [hcW] at hx
        obtain ⟨z, hz, ez⟩ := x2.2.2.1 x hx
        rw [ub 7 (by decide), ez]
        show _ = nI (gA w 7 x).toNatClampNeg
        rw [b 7 (by decide), ez, nI_clamp (by omega)]
      refine k_keepBest (en := gA v3 24) (G := Gx w lc N) hs20 (by omega) uK uN wZ (by omega) uf ug uh (ub 23 (by decide)) x5 (by rw [uI]; exact i15) hN'.2 rfl hG (by rw [hcW]; exact x2.2.1) c1 c2 ?_ x6 ?_ eU ?_ ?_
      · rw [← b 23 (by decide)]
        exact hpost.2.1
      · rw [← b 23 (by decide)]
        exact hcd
      · obtain ⟨ws, hws⟩ : ∃ ws, ws = rdl (Gx w lc N) 6 (Lf 0) 0 := ⟨_, rfl⟩
        rw [← hws]
        have wlen : ws.length ≤ 6 := by rw [hws]; exact rdl_len _ _ _ _
        have wlt : ∀ x, x ∈ ws → x < W := by
          intro x hx
          rw [hws] at hx
          have := rdl_lt _ _ _ _ x hx
          rw [hcW] at this
          exact this
        obtain ⟨Y, hY⟩ : ∃ Y, Y = v_A (kb u (upd (gA u 42) s (nI c0)) (upd (gA u 43) s (nI (min n0 1000))) (wpF (gA u 45) s ws) (fsF (gA u 46) s (cs (Gx w lc N)) ws)) 44 (upd (gA u 44) s (nI ws.length)) := ⟨_, rfl⟩
        rw [← hY]
        have yl : ∀ j, j < 42 → gA Y j = gA u j := fun j hj => by rw [hY]; exact kb_l _ _ _ _ _ _ hj
        have y42 : gA Y 42 = upd (gA u 42) s (nI c0) := by rw [hY]; rfl
        have y43 : gA Y 43 = upd (gA u 43) s (nI (min n0 1000)) := by rw [hY]; rfl
        have y44 : gA Y 44 = upd (gA u 44) s (nI ws.length) := by rw [hY]; rfl
        have y45 : gA Y 45 = wpF (gA u 45) s ws := by rw [hY]; rfl
        have y46 : gA Y 46 = fsF (gA u 46) s (cs (Gx w lc N)) ws := by rw [hY]; rfl
        have y47 : gA Y 47 = gA u 47 := by rw [hY]; rfl
        have y48 : gA Y 48 = gA u 48 := by rw [hY]; rfl
        have yF : RdF v Y := by
          rw [hY]
          unfold kb
          exact uF.trans (((((RdF.A _ (by decide) _).trans (RdF.A _ (by decide) _)).trans (RdF.A _ (by decide) _)).trans (RdF.A _ (by decide) _)).trans (RdF.A _ (by decide) _))
        have yD : DynX k0 z0 Y Z' := by rw [hY]; exact uD
        have yI : gI Y = gI v3 := by rw [hY]; exact uI
        clear hY
        have w45 : ∀ i x, ws[i]? = some x → gA Y 45 (6 * s + i) = nI x := by
          intro i x e
          have hi : i < ws.length := by
            rcases Nat.lt_or_ge i ws.length with z | z
            · exact z
            · rw [List.getElem?_eq_none z] at e
              cases e
          rw [y45]
          unfold wpF
          rw [if_pos (by omega), Nat.add_sub_cancel_left, e]
          rfl
        have o2 : ∀ s', s' ≠ s → gA Y 42 s' = gA u 42 s' ∧ gA Y 43 s' = gA u 43 s' ∧ gA Y 44 s' = gA u 44 s' := by
          intro s' hs'
          rw [y42, y43, y44]
          exact ⟨upd_n _ _ hs', upd_n _ _ hs', upd_n _ _ hs'⟩
        have o45 : ∀ s', s' ≠ s → ∀ i, i < 6 → gA Y 45 (6 * s' + i) = gA u 45 (6 * s' + i) := by
          intro s' hs' i hi
          rw [y45]
          unfold wpF
          rw [if_neg (by omega)]
        have o46 : ∀ s', s' ≠ s → ∀ i, i < 3 → gA Y 46 (3 * s' + i) = gA u 46 (3 * s' + i) := by
          intro s' hs' i hi
          rw [y46]
          unfold fsF
          rw [if_neg (by omega)]
        have w46 : ∀ j, j < 3 → gA Y 46 (3 * s + j) = fstI (fun x => (gA v 8 x).toNatClampNeg) j ws := by
          intro j hj
          have e8 : (fun x => (gA v 8 x).toNatClampNeg) = cs (Gx w lc N) := by
            show _ = fun x => (gA w 8 x).toNatClampNeg
            rw [Fw.2.2.1 8 (by decide)]
          rw [y46, e8]
          unfold fsF
          rw [if_pos (by omega), Nat.add_sub_cancel_left]
        have ev : ∀ y : xV, RdF v y → RDv y (Lf 0) N (evP v s t P) (evD v s t D) = some (c0, n0, p0) ∧ RDw y (Lf 0) N (evP v s t P) (evD v s t D) = ws := by
          intro y hy
          unfold RDv RDw
          rw [hy.L.lc, hy.L.gx, eG, hws]
          exact ⟨eU, rfl⟩
        rcases isO_last (phP (gA v 30) (gA v 31) (nI s) t) hP2 with hp | ⟨pi, hpi, hp⟩
        · have hp : evP v s t P = -1 := hp
          refine KV.of ok_68 (Nat.le_of_ble_eq_true rfl) (w_X6_keepForms_0 ⟨fun h => absurd ?_ h, fun _ => ?_⟩)
          · rw [yI, i14]
            exact hp
          · obtain ⟨q1, q2, q3, q4⟩ := oth Y yl (fun s' hs' => ⟨(o2 s' hs').1, (o2 s' hs').2.1, (o2 s' hs').2.2, by rw [y48]⟩) o45 o46 (fun s' _ i _ => by rw [y47])
            refine kk Y Z' yF yD q1 q2 q3 q4 ?_
            obtain ⟨v1, v2⟩ := ev Y yF
            have hUx : ∀ l, UsedX Y (evP v s t P) ws l = -1 := by
              intro l
              unfold UsedX
              rw [if_pos hp]
            unfold Cached
            rw [v1, v2, yF.2.2.1 8 (by decide)]
            refine ⟨?_, ?_, ?_, w45, w46, fun l hl => ?_, ?_⟩
            · rw [y42, upd_s]
              rfl
            · rw [y43, upd_s]
              rfl
            · rw [y44, upd_s]
            · rw [y47, ub 47 (by decide), a47, hUx]
              unfold clrF
              rw [if_pos (by omega)]
            · rw [y48, ub 48 (by decide), a48, upd_s, cntU_0 hUx]
        · have hp : evP v s t P = nI pi := hp
          have L1 : ∀ x, x < W → gA Y 7 x = nI (gA Y 7 x).toNatClampNeg ∧ (gA Y 7 x).toNatClampNeg ≤ 10 := by
            intro x hx
            obtain ⟨z, hz, ez⟩ := h2.2.2.1 x hx
            rw [yF.2.2.1 7 (by decide), ez, nI_clamp (by omega)]
            exact ⟨rfl, hz.2⟩
          have L2 : (fun x => (gA Y 7 x).toNatClampNeg) = cl (Gx w lc N) := by
            show _ = fun x => (gA w 7 x).toNatClampNeg
            rw [yF.2.2.1 7 (by decide), Fw.2.2.1 7 (by decide)]
          refine k_keepForms (v := Y) (ws := ws) (clw := fun x => (gA Y 7 x).toNatClampNeg) (lw := ltX Y) hs20 (by rw [yI, i14]; exact hp) hpi (by rw [yI]; exact i15) hN'.2 (by rw [y44, upd_s]) wlen w45 (fun x hx => ⟨by have := wlt x hx; omega, L1 x (wlt x hx)⟩) (fun x j => ?_) ?_ (by rw [yF.2.2.1 5 (by decide)]; exact h1.2.2.1) (by rw [y48, ub 48 (by decide), a48, upd_s]) ?_
          · obtain ⟨z, hz, ez⟩ := h2.2.2.2.1 (10 * x + j)
            unfold ltX
            rw [yF.2.2.1 6 (by decide), ez, nI_clamp (by omega)]
            exact ⟨rfl, hz⟩
          · rw [L2, hws]
            have := rdl_fit hG (ltX Y) 6 (Lf 0) 0 (Nat.zero_le _)
            exact this
          · have fF : ∀ A B C, RdF v (kf Y A B C) := by
              intro A B C
              unfold kf
              exact yF.trans (((RdF.A _ (by decide) _).trans (RdF.A _ (by decide) _)).trans (RdF.A _ (by decide) _))
            obtain ⟨U, hU⟩ : ∃ U, U = (fun l => onlyI (eX (fbk (fmX Y pi) (fun k => (lts (fun x => (gA Y 7 x).toNatClampNeg) (ltX Y) ws)[k]?.getD 0) l (lts (fun x => (gA Y 7 x).toNatClampNeg) (ltX Y) ws).length))) := ⟨_, rfl⟩
            have hUx : ∀ y : xV, RdF v y → UsedX y (evP v s t P) ws = U := by
              intro y hy
              rw [hy.L.u, ← yF.L.u, hU]
              funext l
              unfold UsedX
              rw [hp, if_neg (m1_ne (by omega)), nI_clamp (by omega)]
            rw [← hU]
            clear hU
            obtain ⟨C, hC⟩ : ∃ C, C = fbF (fmX Y pi) (fun k => (lts (fun x => (gA Y 7 x).toNatClampNeg) (ltX Y) ws)[k]?.getD 0) (gA Y 56) (lts (fun x => (gA Y 7 x).toNatClampNeg) (ltX Y) ws).length := ⟨_, rfl⟩
            rw [← hC]
            clear hC
            have z47 : gA (kf Y (ufF (gA Y 47) U s 26) (upd (gA Y 48) s (nI (cntU U 26))) C) 47 = ufF (gA Y 47) U s 26 := rfl
            have z48 : gA (kf Y (ufF (gA Y 47) U s 26) (upd (gA Y 48) s (nI (cntU U 26))) C) 48 = upd (gA Y 48) s (nI (cntU U 26)) := rfl
            have zl : ∀ j, j < 47 → gA (kf Y (ufF (gA Y 47) U s 26) (upd (gA Y 48) s (nI (cntU U 26))) C) j = gA Y j := fun j hj => kf_l _ _ _ _ hj
            have zF := fF (ufF (gA Y 47) U s 26) (upd (gA Y 48) s (nI (cntU U 26))) C
            obtain ⟨q1, q2, q3, q4⟩ := oth (kf Y (ufF (gA Y 47) U s 26) (upd (gA Y 48) s (nI (cntU U 26))) C) (fun j hj => (zl j (by omega)).trans (yl j hj)) (fun s' hs' => ⟨by rw [zl 42 (by decide)]; exact (o2 s' hs').1, by rw [zl 43 (by decide)]; exact (o2 s' hs').2.1, by rw [zl 44 (by decide)]; exact (o2 s' hs').2.2, by rw [z48, upd_n _ _ hs', y48]⟩) (fun s' hs' i hi => by rw [zl 45 (by decide)]; exact o45 s' hs' i hi) (fun s' hs' i hi => by rw [zl 46 (by decide)]; exact o46 s' hs' i hi) (fun s' hs' i hi => by
              rw [z47, ← y47]
              unfold ufF
              rw [if_neg (by omega)])
            refine kk _ Z' zF yD q1 q2 q3 q4 ?_
            obtain ⟨v1, v2⟩ := ev _ zF
            unfold Cached
            rw [v1, v2, zF.2.2.1 8 (by decide), hUx _ zF]
            refine ⟨?_, ?_, ?_, fun i x e => ?_, fun j hj => ?_, fun l hl => ?_, ?_⟩
            · rw [zl 42 (by decide), y42, upd_s]
              rfl
            · rw [zl 43 (by decide), y43, upd_s]
              rfl
            · rw [zl 44 (by decide), y44, upd_s]
            · rw [zl 45 (by decide)]
              exact w45 i x e
            · rw [zl 46 (by decide)]
              exact w46 j hj
            · rw [z47]
              unfold ufF
              rw [if_pos (by omega), Nat.add_sub_cancel_left]
            · rw [z48, upd_s]
      · intro j hj1 hj2
        rw [ub 46 (by decide), a46]
        unfold clrF
        rw [if_pos ⟨hj1, hj2⟩]

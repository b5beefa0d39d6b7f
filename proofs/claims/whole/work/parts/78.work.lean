/-! the reference: workOut, workAll -/
def WkF (v v' : xV) : Prop := v'.2.1 = v.2.1 ∧ v'.2.2.2 = v.2.2.2 ∧ (∀ a b, ¬ (a = 80 ∧ (b = 61 ∨ b = 62)) → gI v' a b = gI v a b) ∧ ∀ j, ¬ (112 ≤ j ∧ j ≤ 120) → gA v' j = gA v j
theorem WkF.refl (v : xV) : WkF v v := ⟨rfl, rfl, fun _ _ _ => rfl, fun _ _ => rfl⟩
theorem WkF.trans {u v w : xV} (h : WkF u v) (h' : WkF v w) : WkF u w := ⟨h'.1.trans h.1, h'.2.1.trans h.2.1, fun a b hn => (h'.2.2.1 a b hn).trans (h.2.2.1 a b hn), fun j hj => (h'.2.2.2 j hj).trans (h.2.2.2 j hj)⟩
theorem WkF.A (v : xV) {j : Nat} (hj : 112 ≤ j ∧ j ≤ 120) (f : Nat → Int32) : WkF v (v_A v j f) := ⟨rfl, rfl, fun _ _ _ => rfl, fun i hi => by rw [gA_A, if_neg (fun e => hi (by omega))]⟩
theorem WkF.I1 (v : xV) (x : Int32) : WkF v (v_I v 80 61 x) := ⟨rfl, rfl, fun a b hn => by
  rw [gI_I]
  split
  · split
    · rename_i h1 h2
      exact absurd ⟨h1, Or.inl h2⟩ hn
    · rfl
  · rfl, fun _ _ => rfl⟩
theorem WkF.I2 (v : xV) (x : Int32) : WkF v (v_I v 80 62 x) := ⟨rfl, rfl, fun a b hn => by
  rw [gI_I]
  split
  · split
    · rename_i h1 h2
      exact absurd ⟨h1, Or.inr h2⟩ hn
    · rfl
  · rfl, fun _ _ => rfl⟩
theorem Gm_W {v : xV} {lc : Nat → Nat → Option Nat} {N W : Nat} (hW : WordM v W) : cW (Gm v lc N) = W := by
  show (gI v 80 20).toNatClampNeg = W
  rw [hW.1, nI_clamp (by have := hW.2.1; omega)]
theorem Gm_c {v : xV} {lc : Nat → Nat → Option Nat} {N W : Nat} (hW : WordM v W) : (∀ w, w < W → gA v 87 w = nI (cs (Gm v lc N) w)) ∧ ∀ w, w < W → gA v 86 w = nI (cl (Gm v lc N) w) := by
  refine ⟨fun w hw => ?_, fun w hw => ?_⟩
  · obtain ⟨z, hz, ez⟩ := hW.2.2.2.2 w
    show _ = nI (gA v 87 w).toNatClampNeg
    rw [ez, nI_clamp (by omega)]
  · obtain ⟨z, hz, ez⟩ := hW.2.2.1 w hw
    show _ = nI (gA v 86 w).toNatClampNeg
    rw [ez, nI_clamp (by omega)]
theorem Gm_ok {v : xV} {lc : Nat → Nat → Option Nat} {N W : Nat} (hW : WordM v W) (hlc : ∀ k l x, lc k l = some x → x ≤ 16) : Gok (Gm v lc N) := by
  intro w hw
  rw [Gm_W hW] at hw
  obtain ⟨n, hn, en⟩ := hW.2.2.1 w hw
  obtain ⟨z, hz, ez⟩ := hW.2.2.2.2 w
  have e1 : cl (Gm v lc N) w = n := by
    show (gA v 86 w).toNatClampNeg = n
    rw [en, nI_clamp (by omega)]
  have e2 : cs (Gm v lc N) w = z := by
    show (gA v 87 w).toNatClampNeg = z
    rw [ez, nI_clamp (by omega)]
  refine ⟨by omega, fun k x h => ?_⟩
  have h : wco lc (fun i => (gA v 85 (10 * w + i)).toNatClampNeg) (gA v 86 w).toNatClampNeg k N = some x := h
  rw [en, nI_clamp (by omega)] at h
  rw [e1]
  unfold wco at h
  split at h
  · have := wsum_le hlc n x h
    exact ⟨by omega, by assumption⟩
  · cases h
def MOK (v : xV) (s : Nat) (V : Vl) (ws : List Nat) : Prop := gA v 117 s = nI ws.length ∧ (∀ i w, ws[i]? = some w → gA v 116 (6 * s + i) = nI w) ∧ ∀ c n p, V = some (c, n, p) → gA v 118 s = nI c ∧ gA v 119 s = nI (min n 1000)
def SameM (v v' : xV) (s : Nat) : Prop := gA v' 117 s = gA v 117 s ∧ gA v' 118 s = gA v 118 s ∧ gA v' 119 s = gA v 119 s ∧ ∀ i, i < 6 → gA v' 116 (6 * s + i) = gA v 116 (6 * s + i)
theorem SameM.trans {u v w : xV} {s : Nat} (h : SameM u v s) (h' : SameM v w s) : SameM u w s := ⟨h'.1.trans h.1, h'.2.1.trans h.2.1, h'.2.2.1.trans h.2.2.1, fun i hi => (h'.2.2.2 i hi).trans (h.2.2.2 i hi)⟩
theorem MOK.mv {v v' : xV} {s : Nat} {V : Vl} {ws : List Nat} (h : MOK v s V ws) (hl : ws.length ≤ 6) (hE : SameM v v' s) : MOK v' s V ws := by
  obtain ⟨a1, a2, a3, a4⟩ := hE
  obtain ⟨b1, b2, b3⟩ := h
  refine ⟨a1.trans b1, fun i w e => ?_, fun c n p e => ⟨a2.trans (b3 c n p e).1, a3.trans (b3 c n p e).2⟩⟩
  have hi : i < ws.length := by
    rcases Nat.lt_or_ge i ws.length with z | z
    · exact z
    · rw [List.getElem?_eq_none z] at e
      cases e
  exact (a4 i (by omega)).trans (b2 i w e)
def Gmt (v : xV) (s : Nat) (t : Int32) (P D N : Nat) : Cx := Gm v (LCm v (nI s) t P D) N
/-- what the reference worked out of a scrawl is right -/
def FreshM (v : xV) (t : Int32) (P D R s : Nat) : Prop := ∀ N, gA v 102 s = nI N → (1 ≤ N ∧ N ≤ 24) → MOK v s (UL (Gmt v s t P D N) (mrows v R) 0) (rdl (Gmt v s t P D N) 6 (mrows v R) 0)
theorem WkF.g {v v' : xV} (h : WkF v v') (s : Nat) (t : Int32) (P D N R : Nat) : Gmt v' s t P D N = Gmt v s t P D N ∧ mrows v' R = mrows v R := by
  obtain ⟨h1, h2, h3, h4⟩ := h
  refine ⟨?_, ?_⟩
  · unfold Gmt LCm Gm
    rw [h3 80 20 (by decide), h4 83 (by decide), h4 84 (by decide), h4 85 (by decide), h4 86 (by decide), h4 87 (by decide), h4 9 (by decide), h4 104 (by decide), h4 105 (by decide), h4 106 (by decide), h4 107 (by decide), h4 108 (by decide), h4 109 (by decide), h4 110 (by decide), h4 111 (by decide)]
  · unfold mrows rw1
    rw [h4 96 (by decide), h4 97 (by decide)]
theorem FreshM.mv {v v' : xV} {t : Int32} {P D R s : Nat} (h : FreshM v t P D R s) (hF : WkF v v') (hE : SameM v v' s) : FreshM v' t P D R s := by
  intro N hN hN'
  rw [hF.2.2.2 102 (by decide)] at hN
  rw [(hF.g s t P D N R).1, (hF.g s t P D N R).2]
  exact (h N hN hN').mv (rdl_len _ _ _ _) hE
/-- all that a work of the reference needs -/
def WorkM (v : xV) (P D W S R : Nat) : Prop := LoreM v P D ∧ WordM v W ∧ RowsM v R ∧ (gI v 80 50 = nI S ∧ S ≤ 20) ∧ ∀ s, s < S → ∃ n, (1 ≤ n ∧ n ≤ 24) ∧ gA v 102 s = nI n
theorem WorkM.mv {v v' : xV} {P D W S R : Nat} (h : WorkM v P D W S R) (hF : WkF v v') : WorkM v' P D W S R := by
  obtain ⟨h1, h2, h3, h4⟩ := hF
  unfold WorkM LoreM WordM RowsM
  rw [h3 80 20 (by decide), h3 80 50 (by decide), h3 80 51 (by decide), h3 80 52 (by decide), h3 80 30 (by decide), h4 83 (by decide), h4 84 (by decide), h4 85 (by decide), h4 86 (by decide), h4 87 (by decide), h4 9 (by decide), h4 10 (by decide), h4 93 (by decide), h4 94 (by decide), h4 95 (by decide), h4 96 (by decide), h4 97 (by decide), h4 111 (by decide), h4 102 (by decide)]
  exact h
theorem k_workOut {E : Nat × (Nat → Int32)} {d : Nat} {v : xV} {P D W S R s : Nat} {t : Int32} {Q : xV → Prop} (hX : WorkM v P D W S R) (hs : s < S) (h117 : gA v 117 s = nI 0) (kk : ∀ v', WkF v v' → gI v' = gI v → FreshM v' t P D R s → (∀ s', s' ≠ s → SameM v v' s') → Q v') : KV E (d + 4) 183 [.ref 80, .int (nI s), .int t] v Q := by
  obtain ⟨hL, hW, hR, ⟨hS, hS2⟩, hpl⟩ := hX
  obtain ⟨N, hN', hN⟩ := hpl s hs
  have hs20 : s < 20 := by omega
  refine KV.of ok_183 (Nat.le_of_ble_eq_true rfl) (w_X12_workOut_0 ⟨vp_in_nI hs20 (by decide), fun y ey => ?_⟩)
  have ey : y = nI N := by rw [ey, nI_clamp (by omega), hN]
  subst ey
  refine k_workA (P := P) (D := D) hL hN'.2 ?_
  obtain ⟨lc, hlc⟩ : ∃ lc, lc = LCm v (nI s) t P D := ⟨_, rfl⟩
  rw [← hlc]
  have lcb : ∀ k l x, lc k l = some x → x ≤ 16 := by
    intro k l x hx
    rw [hlc] at hx
    exact LC_le hx
  refine k_workB (v := v_A v 112 (wlM lc (gA v 112) (26 * N))) (lc := lc) hW hN'.2 (fun k l hk hl => ?_) lcb (fun B hB => ?_)
  · show wlM lc (gA v 112) (26 * N) (26 * k + l) = _
    unfold wlM
    rw [if_pos (by omega), show (26 * k + l) / 26 = k by omega, show (26 * k + l) % 26 = l by omega]
  obtain ⟨v2, hv2⟩ : ∃ v2, v2 = v_A (v_A v 112 (wlM lc (gA v 112) (26 * N))) 113 B := ⟨_, rfl⟩
  rw [← hv2]
  have F2 : WkF v v2 := by
    rw [hv2]
    exact (WkF.A _ (by decide) _).trans (WkF.A _ (by decide) _)
  have I2 : gI v2 = gI v := by rw [hv2]; rfl
  have b113 : gA v2 113 = B := by rw [hv2]; rfl
  have a116 : gA v2 116 = gA v 116 := by rw [hv2]; rfl
  have a117 : gA v2 117 = gA v 117 := by rw [hv2]; rfl
  have a118 : gA v2 118 = gA v 118 := by rw [hv2]; rfl
  have a119 : gA v2 119 = gA v 119 := by rw [hv2]; rfl
  have eG : Gm v2 lc N = Gm v lc N := by rw [hv2]; rfl
  have hB : WC (Gm v2 lc N) B := by rw [eG]; exact hB
  clear hv2
  have X2 : WorkM v2 P D W S R := WorkM.mv ⟨hL, hW, hR, ⟨hS, hS2⟩, hpl⟩ F2
  obtain ⟨-, hW2, hR2, -⟩ := X2
  have hG := Gm_ok (N := N) hW2 lcb
  have hrows : mrows v2 R = mrows v R := (F2.g s t P D N R).2
  have h6 : ∀ u : xV, mrows u R = mrows v2 R → ∀ x, x ∈ mrows u R → x.length ≤ 6 := by
    intro u hu x hx
    rw [hu, mem_mrows] at hx
    obtain ⟨r, hr, e⟩ := hx
    obtain ⟨n, n1, n2, n3⟩ := hR2.2.2 r hr
    rw [← e, show (rw1 v2 r).length = n from rowL_len n2 n1]
    exact n1
  -- the end of both roads
  have fin : ∀ v' V ws, WkF v v' → V = UL (Gm v lc N) (mrows v R) 0 → ws = rdl (Gm v lc N) 6 (mrows v R) 0 → gI v' = gI v → MOK v' s V ws → (∀ s', s' ≠ s → SameM v v' s') → Q v' := by
    intro v' V ws f1 f2 f3 f4 f5 f6
    refine kk v' f1 f4 (fun N2 e1 e2 => ?_) f6
    rw [f1.2.2.2 102 (by decide), hN, nI_eq (by omega) (by omega)] at e1
    subst e1
    rw [(f1.g s t P D N R).1, (f1.g s t P D N R).2]
    unfold Gmt
    rw [← hlc, ← f2, ← f3]
    exact f5
  refine k_rows (v := v2) (d := d + 2) (lc := lc) hs20 hW2 hG hN'.2 hR2 (by rw [b113]; exact hB) (fun C F hT hU => ?_) (fun C F c n p hT hU H hH => ?_)
  · have hU2 : UL (Gm v lc N) (mrows v R) 0 = none := by
      rw [← eG, ← hrows, UL_range]
      exact hU
    have hw : rdl (Gm v lc N) 6 (mrows v R) 0 = [] := by
      show (if 0 < N then _ else _) = _
      rw [if_pos (by omega), hU2]
    refine fin _ none [] (F2.trans (((WkF.A _ (by decide) _).trans (WkF.A _ (by decide) _)).trans (WkF.A _ (by decide) _))) hU2.symm hw.symm I2 ⟨?_, fun i w e => (by cases e), fun c n p e => by cases e⟩ (fun s' hs' => ⟨?_, ?_, ?_, fun i hi => ?_⟩)
    · show gA v2 117 s = _
      rw [a117]
      exact h117
    · show gA v2 117 s' = _
      rw [a117]
    · show upd (gA v2 118) s _ s' = _
      rw [upd_n _ _ hs', a118]
    · show gA v2 119 s' = _
      rw [a119]
    · show gA v2 116 _ = _
      rw [a116]
  · obtain ⟨y, hy⟩ : ∃ y, y = lf (v_A (fr v2 C F) 118 (upd (gA v2 118) s (nI c))) (upd (gA v2 119) s (nI (min n 1000))) H := ⟨_, rfl⟩
    rw [← hy]
    have Fy : WkF v2 y := by
      rw [hy]
      exact ((((WkF.A _ (by decide) _).trans (WkF.A _ (by decide) _)).trans (WkF.A _ (by decide) _)).trans (WkF.A _ (by decide) _)).trans (WkF.A _ (by decide) _)
    have Iy : gI y = gI v2 := by rw [hy]; rfl
    have y113 : gA y 113 = B := by rw [hy]; exact b113
    have y114 : gA y 114 = C := by rw [hy]; rfl
    have y115 : gA y 115 = F := by rw [hy]; rfl
    have y116 : gA y 116 = gA v2 116 := by rw [hy]; rfl
    have y117 : gA y 117 = gA v2 117 := by rw [hy]; rfl
    have y118 : gA y 118 = upd (gA v2 118) s (nI c) := by rw [hy]; rfl
    have y119 : gA y 119 = upd (gA v2 119) s (nI (min n 1000)) := by rw [hy]; rfl
    have y120 : gA y 120 = H := by rw [hy]; rfl
    clear hy
    have hry : mrows y R = mrows v2 R := (Fy.g s t P D N R).2
    have hrw : rw1 y = rw1 v2 := by
      funext r
      unfold rw1
      rw [Fy.2.2.2 96 (by decide), Fy.2.2.2 97 (by decide)]
    have hU1 : UL (Gm v2 lc N) (mrows v2 R) 0 = some (c, n, p) := by
      rw [UL_range]
      exact hU
    have hTy : TabsM y (Gm v2 lc N) N W R := by
      obtain ⟨g1, g2⟩ := Gm_c (lc := lc) (N := N) hW2
      refine ⟨⟨rfl, hN'.2, Gm_W hW2, hW2.2.1, hG⟩, ?_, ?_, by rw [y113]; exact hB, ?_, fun r hr => ?_⟩
      · rw [Fy.2.2.2 87 (by decide)]
        exact g1
      · rw [Fy.2.2.2 86 (by decide)]
        exact g2
      · unfold RowsM
        rw [Fy.2.2.1 80 30 (by decide), Fy.2.2.2 96 (by decide), Fy.2.2.2 97 (by decide)]
        exact hR2
      · rw [y114, y115]
        unfold TabOK
        rw [hrw]
        exact hT r hr
    refine k_walkBest (v := y) (c := c) (n := n) (p := p) hs20 hTy (by rw [hry]; exact hU1) (fun r hr => ?_) (h6 y hry) (fun H' => ?_)
    · rw [y120, hH r hr]
      have hiff : lfP y (Gm v2 lc N) [] r 0 c ↔ vc (vt (Gm v2 lc N) (rw1 v2 r) 0) = some c := by
        unfold lfP
        rw [hrw]
        constructor
        · rintro ⟨x, e1, e2⟩
          rw [show rw1 v2 r = x from e1]
          exact e2
        · exact fun h => ⟨_, rfl, h⟩
      rw [hiff]
      by_cases hd : vc (vt (Gm v2 lc N) (rw1 v2 r) 0) = some c
      · rw [decide_eq_true hd]
        exact Or.inl ⟨rfl, hd⟩
      · rw [decide_eq_false hd]
        exact Or.inr ⟨rfl, hd⟩
    · rw [hry, hrows, eG, y116, y117, a116, a117]
      rw [eG, hrows] at hU1
      have hwl : (rdl (Gm v lc N) 6 (mrows v R) 0).length ≤ 6 := rdl_len _ _ _ _
      refine fin _ (some (c, n, p)) _ ((F2.trans Fy).trans (((WkF.A _ (by decide) _).trans (WkF.A _ (by decide) _)).trans (WkF.A _ (by decide) _))) hU1.symm rfl (Iy.trans I2) ⟨?_, fun i w e => ?_, fun c' n' p' e => ?_⟩ (fun s' hs' => ⟨?_, ?_, ?_, fun i hi => ?_⟩)
      · show upd (gA v 117) s _ s = _
        rw [upd_s]
      · show wpF (gA v 116) s (rdl (Gm v lc N) 6 (mrows v R) 0) (6 * s + i) = _
        have hi : i < (rdl (Gm v lc N) 6 (mrows v R) 0).length := by
          rcases Nat.lt_or_ge i (rdl (Gm v lc N) 6 (mrows v R) 0).length with z | z
          · exact z
          · rw [List.getElem?_eq_none z] at e
            cases e
        unfold wpF
        rw [if_pos (by omega), Nat.add_sub_cancel_left, e]
        rfl
      · simp only [Option.some.injEq, Prod.mk.injEq] at e
        obtain ⟨rfl, rfl, rfl⟩ := e
        refine ⟨?_, ?_⟩
        · show gA y 118 s = _
          rw [y118, upd_s]
        · show gA y 119 s = _
          rw [y119, upd_s]
      · show upd (gA v 117) s _ s' = _
        rw [upd_n _ _ hs']
      · show gA y 118 s' = _
        rw [y118, upd_n _ _ hs', a118]
      · show gA y 119 s' = _
        rw [y119, upd_n _ _ hs', a119]
      · show wpF (gA v 116) s (rdl (Gm v lc N) 6 (mrows v R) 0) (6 * s' + i) = _
        unfold wpF
        rw [if_neg (by omega)]
theorem k_workAll {E : Nat × (Nat → Int32)} {d : Nat} {v : xV} {P D W S R : Nat} {t : Int32} {Q : xV → Prop} (hX : WorkM v P D W S R) (hc : gI v 80 62 = gI v 80 6 → gI v 80 61 = t → ∀ s, s < S → gA v 103 s ≤ t → FreshM v t P D R s)
    (kk : ∀ v', WkF v v' → (∀ s, s < S → gA v 103 s ≤ t → FreshM v' t P D R s) → gI v' 80 62 = gI v 80 6 → gI v' 80 61 = t → Q v') : KV E (d + 5) 182 [.ref 80, .int t] v Q := by
  obtain ⟨hS, hS2⟩ := hX.2.2.2.1
  have go : RV E (d + 5) 182 20 [(0, .ref 80), (1, .int t)] v Q := by
    refine w_X12_workAll_20 ?_
    obtain ⟨y, hy⟩ : ∃ y, y = v_I (v_I v 80 62 (gI v 80 6)) 80 61 t := ⟨_, rfl⟩
    rw [← hy]
    have Fy : WkF v y := by
      rw [hy]
      exact (WkF.I2 _ _).trans (WkF.I1 _ _)
    have y62 : gI y 80 62 = gI v 80 6 := by rw [hy]; rfl
    have y61 : gI y 80 61 = t := by rw [hy]; rfl
    clear hy
    have loop : ∀ s, s ≤ S → ∀ v', WkF y v' → gI v' = gI y → (∀ s', s' < s → gA v 103 s' ≤ t → FreshM v' t P D R s') → RV E (d + 5) 182 35 [(0, .ref 80), (1, .int t), (2, .int (nI s))] v' Q := by
      intro s hs
      refine lp_up (n := S) (P := fun s => ∀ v', WkF y v' → gI v' = gI y → (∀ s', s' < s → gA v 103 s' ≤ t → FreshM v' t P D R s') → RV E (d + 5) 182 35 [(0, .ref 80), (1, .int t), (2, .int (nI s))] v' Q) (fun v' f1 f2 f3 => w_X12_workAll_35 ?_) (fun s hs ih v' f1 f2 f3 => w_X12_workAll_35 ?_) hs
      · rw [(Fy.trans f1).2.2.1 80 50 (by decide), hS]
        exact ⟨fun _ => kk v' (Fy.trans f1) f3 (by rw [f2]; exact y62) (by rw [f2]; exact y61), fun z => absurd (nI_le (Nat.le_refl _) (by omega)) z⟩
      · rw [(Fy.trans f1).2.2.1 80 50 (by decide), hS, nI_leI (by omega) (by omega), nI_clamp (by omega), (Fy.trans f1).2.2.2 103 (by decide)]
        have u1 : WkF v' (v_A v' 117 (upd (gA v' 117) s (nI 0))) := WkF.A _ (by decide) _
        have u2 : ∀ s', s' ≠ s → SameM v' (v_A v' 117 (upd (gA v' 117) s (nI 0))) s' := fun s' hs' => ⟨upd_n _ _ hs', rfl, rfl, fun _ _ => rfl⟩
        refine ⟨fun z => by omega, fun _ => ⟨vp_in_nI (by omega) (by decide), vp_in_nI (by omega) (by decide), fun hk => ?_, fun hk => ?_⟩⟩
        · rw [nI_add]
          refine ih _ (f1.trans u1) f2 (fun s' hs' hd => ?_)
          by_cases e : s' = s
          · subst e
            exact absurd hd (i_nle.mpr hk)
          · exact (f3 s' (by omega) hd).mv u1 (u2 s' e)
        · refine k_workOut (v := v_A v' 117 (upd (gA v' 117) s (nI 0))) (hX.mv ((Fy.trans f1).trans u1)) hs (upd_s _ _ _) (fun v2 g1 g2 g3 g4 => ?_)
          rw [nI_add]
          refine ih v2 ((f1.trans u1).trans g1) (g2.trans f2) (fun s' hs' hd => ?_)
          by_cases e : s' = s
          · subst e
            exact g3
          · exact ((f3 s' (by omega) hd).mv u1 (u2 s' e)).mv g1 (g4 s' e)
    exact loop 0 (Nat.zero_le _) y (WkF.refl y) rfl (fun s' h => by omega)
  exact KV.of ok_182 (Nat.le_of_ble_eq_true rfl) (w_X12_workAll_0 ⟨fun _ => go, fun h1 => ⟨fun _ => go, fun h2 => kk v (WkF.refl v) (hc h1 h2) h1 h2⟩⟩)

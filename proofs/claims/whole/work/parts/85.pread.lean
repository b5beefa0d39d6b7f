/-! read: both sides agree -/
theorem rW.wk {v v' : xV} (h : WkF v v') (s : Nat) (t : Int32) (N : Nat) : rW v' s t N = rW v s t N := by
  have w : ∀ j, j < 112 → gA v' j = gA v j := fun j hj => h.2.2.2 j (by omega)
  unfold rW RDw evP evD
  rw [h.mr, h.n.2.1, h.n.2.2.1, w 30 (by decide), w 31 (by decide), w 34 (by decide), w 35 (by decide), w 36 (by decide), h.sl.lc, h.sl.gx]
def outF (o : Nat → Int32) (ws : List Nat) (i : Nat) : Nat → Int32 := fun j => if j < i then nI (ws[j]?.getD 0) else o j
theorem outF_0 (o : Nat → Int32) (ws : List Nat) : outF o ws 0 = o := by
  funext j
  unfold outF
  rw [if_neg (by omega)]
theorem outF_s (o : Nat → Int32) (ws : List Nat) (i w : Nat) (h : ws[i]? = some w) : upd (outF o ws i) i (nI w) = outF o ws (i + 1) := by
  funext j
  rw [upd_i]
  unfold outF
  by_cases e : j = i
  · subst e
    rw [if_pos rfl, if_pos (by omega), h]
    rfl
  · rw [if_neg e]
    by_cases h2 : j < i
    · rw [if_pos h2, if_pos (by omega)]
    · rw [if_neg h2, if_neg (by omega)]
theorem k_readX {E : Nat × (Nat → Int32)} {d : Nat} {v : xV} {s : Nat} {ws : List Nat} {Q : Int32 → xV → Prop} (hs : s < 20) (hws : ws.length ≤ 6) (h45 : ∀ i w, ws[i]? = some w → gA v 45 (6 * s + i) = nI w) (kk : Q (nI ws.length) (v_I (v_A v 79 (outF (gA v 79) ws ws.length)) 0 12 (nI ws.length))) : RI E (d + 1) 127 42 [(0, .ref 0), (1, .int (nI s)), (3, .int (nI ws.length)), (4, .int (nI 0))] v Q := by
  have loop : ∀ i, i ≤ ws.length → RI E (d + 1) 127 42 [(0, .ref 0), (1, .int (nI s)), (3, .int (nI ws.length)), (4, .int (nI i))] (v_A v 79 (outF (gA v 79) ws i)) Q := by
    intro i hi
    refine lp_up (n := ws.length) (P := fun i => RI E (d + 1) 127 42 [(0, .ref 0), (1, .int (nI s)), (3, .int (nI ws.length)), (4, .int (nI i))] (v_A v 79 (outF (gA v 79) ws i)) Q) (w_X11_read_42 ⟨fun _ => w_X11_read_83 kk, fun h => absurd (nI_le (Nat.le_refl _) (by omega)) h⟩) (fun i hi ih => w_X11_read_42 ?_) hi
    have e0 : ws[i]? = some (ws[i]'hi) := List.getElem?_eq_getElem hi
    have e45 : gA (v_A v 79 (outF (gA v 79) ws i)) 45 (6 * s + i) = nI (ws[i]'hi) := h45 i _ e0
    have e79 : upd (gA (v_A v 79 (outF (gA v 79) ws i)) 79) i (nI (ws[i]'hi)) = outF (gA v 79) ws (i + 1) := outF_s _ _ _ _ e0
    simp (disch := omega) only [pk_mul, nI_add, nI_clamp, vp_t, true_and, nI_leI, Nat.mul_comm s 6, e45, e79, vA_s]
    exact ⟨fun h => by omega, fun _ => ⟨fun h => by omega, fun _ => ih⟩⟩
  have := loop 0 (Nat.zero_le _)
  rw [outF_0, vAself] at this
  exact this
theorem k_readM {E : Nat × (Nat → Int32)} {d : Nat} {v : xV} {s : Nat} {ws : List Nat} {Q : Int32 → xV → Prop} (hs : s < 20) (hws : ws.length ≤ 6) (h4 : gI v 80 4 = nI ws.length) (h116 : ∀ i w, ws[i]? = some w → gA v 116 (6 * s + i) = nI w) (kk : Q (nI ws.length) (v_A v 82 (outF (gA v 82) ws ws.length))) : RI E (d + 1) 188 44 [(0, .ref 80), (1, .int (nI s)), (3, .int (nI 0))] v Q := by
  have loop : ∀ i, i ≤ ws.length → RI E (d + 1) 188 44 [(0, .ref 80), (1, .int (nI s)), (3, .int (nI i))] (v_A v 82 (outF (gA v 82) ws i)) Q := by
    intro i hi
    refine lp_up (n := ws.length) (P := fun i => RI E (d + 1) 188 44 [(0, .ref 80), (1, .int (nI s)), (3, .int (nI i))] (v_A v 82 (outF (gA v 82) ws i)) Q) (w_X12_read_44 ?_) (fun i hi ih => w_X12_read_44 ?_) hi
    · rw [show gI (v_A v 82 (outF (gA v 82) ws ws.length)) 80 4 = nI ws.length from h4]
      exact ⟨fun _ => kk, fun h => absurd (nI_le (Nat.le_refl _) (by omega)) h⟩
    · have e4 : gI (v_A v 82 (outF (gA v 82) ws i)) 80 4 = nI ws.length := h4
      have e0 : ws[i]? = some (ws[i]'hi) := List.getElem?_eq_getElem hi
      have e116 : gA (v_A v 82 (outF (gA v 82) ws i)) 116 (6 * s + i) = nI (ws[i]'hi) := h116 i _ e0
      have e82 : upd (gA (v_A v 82 (outF (gA v 82) ws i)) 82) i (nI (ws[i]'hi)) = outF (gA v 82) ws (i + 1) := outF_s _ _ _ _ e0
      simp (disch := omega) only [pk_mul, nI_add, nI_clamp, vp_t, true_and, nI_leI, e4, e116, e82, vA_s]
      exact ⟨fun h => by omega, fun _ => ih⟩
  have := loop 0 (Nat.zero_le _)
  rw [outF_0, vAself] at this
  exact this
theorem p_read {E : Nat × (Nat → Int32)} {d : Nat} {c : Nat} {v : xV} {x t : Int32} (hJ : J c v) (hc : c < 2 ^ 30) : P2 E (d + 12) 127 [.ref 0, .int x, .int t] 188 [.ref 80, .int x, .int t] v (J c) := by
  have no : (¬ ∃ s, s < nS v ∧ x = nI s ∧ gA v 29 s ≤ t) → KI E (d + 12) 188 [.ref 80, .int x, .int t] v (fun y2 v2 => (-1 : Int32) = y2 ∧ J c v2) := by
    intro hno
    refine KI.of ok_188 (Nat.le_of_ble_eq_true rfl) (w_X12_read_0 (k_knM (hJ.thr _) (fun s hs ex hd => absurd ⟨s, hs, ex, hd⟩ hno) (fun h => ⟨fun h => absurd rfl h, fun _ => ⟨rfl, hJ⟩⟩)))
  refine KI.of ok_127 (Nat.le_of_ble_eq_true rfl) (w_X11_read_0 (k_knX hJ (fun s hs ex hd => ⟨fun _ => ?_, fun h => absurd h nI_01⟩) (fun h => ⟨fun h => absurd rfl h, fun _ => no h⟩)))
  subst ex
  have hS20 := hJ.num.1.2
  refine k_lookF hJ hs (fun v1 f1 f2 f3 f4 => ?_)
  have hs1 : s < nS v1 := by rw [f1.n.1]; exact hs
  have hd1 : gA v1 29 s ≤ t := by rw [f1.2.2.1 29 (by decide)]; exact hd
  obtain ⟨N, hN', hN⟩ := f2.pl s hs1
  obtain ⟨-, -, x3, x4, -, -, -⟩ := f3.c hN hN'
  obtain ⟨ws, hws⟩ : ∃ ws, ws = rW v1 s t N := ⟨_, rfl⟩
  rw [← hws] at x3 x4
  have hlen : ws.length ≤ 6 := by rw [hws]; exact rW_len
  have e103 : gA v1 103 = gA v1 29 := f2.1.S.2.1.2.2.2.symm
  refine ⟨vp_in_nI (by omega) (by decide), fun y ey => ?_⟩
  rw [nI_clamp (by omega), x3] at ey
  subst ey
  rw [nI_eq (by omega) (by decide)]
  refine ⟨fun h0 => k_readX (by omega) hlen x4 ?_, fun h0 => ?_⟩
  · -- a reading
    obtain ⟨u, hu⟩ : ∃ u, u = v_I (v_I (v_A v1 79 (outF (gA v1 79) ws ws.length)) 0 12 (nI ws.length)) 80 0 (nI 0) := ⟨_, rfl⟩
    refine KI.of ok_188 (Nat.le_of_ble_eq_true rfl) (w_X12_read_0 (k_knownM (S := nS v1) f2.numM.1 f2.num.1.2 (fun s' _ _ _ => ⟨fun _ => ?_, fun h => absurd h nI_01⟩) (fun h => absurd ⟨s, hs1, rfl, by rw [show gA (v_I (v_I (v_A v1 79 (outF (gA v1 79) ws ws.length)) 0 12 (nI ws.length)) 80 0 (nI 0)) 103 = gA v1 29 from e103]; exact hd1⟩ h)))
    rw [← hu]
    have uW : WorkM u (nP v1) (nD v1) (nW v1) (nS v1) (nR v1) := by rw [hu]; exact f2.work
    have uC : gI u 80 62 = gI u 80 6 → gI u 80 61 = t → ∀ s, s < nS v1 → gA u 103 s ≤ t → FreshM u t (nP v1) (nD v1) (nR v1) s := by rw [hu]; exact f2.hc hc
    have u1 : u.2.1 = v1.2.1 := by rw [hu]; rfl
    have u2 : u.2.2.2 = v1.2.2.2 := by rw [hu]; rfl
    have u3 : ∀ a b, ¬ (a = 0 ∧ b = 12) → gI u a b = gI (v_I v1 80 0 (nI 0)) a b := by
      intro a b hab
      rw [hu, gI_I, gI_I, gI_I]
      by_cases h8 : a = 80
      · rw [if_pos h8, if_pos h8, if_neg (show ¬ a = 0 by omega)]
        rfl
      · rw [if_neg h8, if_neg h8]
        by_cases h9 : a = 0
        · rw [if_pos h9, if_neg (fun z => hab ⟨h9, z⟩)]
          rfl
        · rw [if_neg h9]
          rfl
    have u4 : ∀ j, j ≠ 79 → gA u j = gA v1 j := by
      intro j hj
      rw [hu]
      show gA (v_A v1 79 _) j = _
      rw [gA_A, if_neg hj]
    have u79 : gA u 79 = outF (gA v1 79) ws ws.length := by rw [hu]; rfl
    have u12 : gI u 0 12 = nI ws.length := by rw [hu]; rfl
    clear hu
    refine k_workAll uW uC (fun v' g1 g2 g3 g4 => ?_)
    obtain ⟨w, hw⟩ : ∃ w, w = v_I (v_A v' 79 (gA v1 79)) 0 12 (gI v1 0 12) := ⟨_, rfl⟩
    have wF : WkF (v_I v1 80 0 (nI 0)) w := by
      refine ⟨by rw [hw]; exact g1.1.trans u1, by rw [hw]; exact g1.2.1.trans u2, fun a b hab => ?_, fun j hj => ?_⟩
      · rw [hw, gI_I]
        by_cases h9 : a = 0
        · by_cases h12 : b = 12
          · rw [if_pos h9, if_pos h12, h9, h12]
            rfl
          · rw [if_pos h9, if_neg h12]
            show gI v' a b = _
            rw [g1.2.2.1 a b hab, u3 a b (fun z => h12 z.2)]
        · rw [if_neg h9]
          show gI v' a b = _
          rw [g1.2.2.1 a b hab, u3 a b (fun z => h9 z.1)]
      · rw [hw]
        show gA (v_A v' 79 (gA v1 79)) j = gA v1 j
        rw [gA_A]
        split
        · rename_i e
          rw [e]
        · rename_i e
          rw [g1.2.2.2 j hj, u4 j e]
    have wFr : ∀ s, s < nS v1 → gA v1 103 s ≤ t → FreshM w t (nP v1) (nD v1) (nR v1) s := by
      intro s' hs' hd'
      have := g2 s' hs' (by rw [u4 103 (by decide)]; exact hd')
      rw [hw]
      exact this
    have w62 : gI w 80 62 = gI (v_I v1 80 0 (nI 0)) 80 6 := by
      rw [hw]
      show gI v' 80 62 = _
      rw [g3, u3 80 6 (by decide)]
    have w61 : gI w 80 61 = t := by
      rw [hw]
      exact g4
    have wJ : J c w := J.wk (v := v_I v1 80 0 (nI 0)) (f2.thr (nI 0)) wF wFr w62 w61
    have hsw : s < nS w := by rw [wF.n.1]; exact hs1
    have hNw : gA w 28 s = nI N := by rw [wF.2.2.2 28 (by decide)]; exact hN
    have hrw : rW w s t N = ws := by
      rw [rW.wk wF]
      exact hws.symm
    have wfm : FM w s t := by
      have := wFr s hs1 (by rw [e103]; exact hd1)
      unfold FM
      rw [wF.n.2.1, wF.n.2.2.1, wF.n.2.2.2.2.1]
      exact this
    obtain ⟨m1, m2, m3⟩ := FM.c wJ wfm hNw hN'
    rw [hrw] at m1 m2
    have m1 : gA v' 117 s = nI ws.length := by rw [hw] at m1; exact m1
    have m2 : ∀ i x, ws[i]? = some x → gA v' 116 (6 * s + i) = nI x := by rw [hw] at m2; exact m2
    rw [nI_clamp (by omega), m1, nI_eq (by omega) (by decide)]
    refine ⟨vp_in_nI (by omega) (by decide), fun _ => ⟨vp_in_nI (by omega) (by decide), k_readM (v := v_I v' 80 4 (nI ws.length)) (by omega) hlen rfl m2 ⟨rfl, ?_⟩⟩, fun h => absurd h h0⟩
    have v12 : gI v' 0 12 = nI ws.length := by rw [g1.2.2.1 0 12 (by decide), u12]
    have v79 : gA v' 79 = outF (gA v1 79) ws ws.length := by rw [g1.2.2.2 79 (by decide), u79]
    have v82 : gA v' 82 = gA v1 79 := by rw [g1.2.2.2 82 (by decide), u4 82 (by decide)]; exact f2.1.2.2.1.2.symm
    rw [hw] at wJ
    refine ⟨⟨wJ.1.1, wJ.1.2.1, ⟨⟨ws.length, hlen, v12, rfl⟩, ?_⟩, wJ.1.2.2.2⟩, wJ.2⟩
    show gA v' 79 = outF (gA v' 82) ws ws.length
    rw [v79, v82]
  · -- none
    have hnil : ws = [] := List.length_eq_zero_iff.mp h0
    refine KI.of ok_188 (Nat.le_of_ble_eq_true rfl) (w_X12_read_0 (k_knM (f2.thr _) (fun s' _ _ _ => ⟨fun _ => ?_, fun h => absurd h nI_01⟩) (fun h => absurd ⟨s, hs1, rfl, hd1⟩ h)))
    refine k_workF (f2.thr (nI 0)) hc (fun v2 g1 g2 g3 => ?_)
    have hs2 : s < nS v2 := by rw [g1.n.1]; exact hs1
    have hfm := g3 s hs1 (by show gA v1 103 s ≤ t; rw [e103]; exact hd1)
    have hN2 : gA v2 28 s = nI N := by rw [g1.2.2.2 28 (by decide)]; exact hN
    obtain ⟨m1, m2, m3⟩ := FM.c g2 hfm hN2 hN'
    have hr2 : rW v2 s t N = ws := by
      rw [rW.wk g1]
      exact hws.symm
    rw [hr2, hnil] at m1
    rw [nI_clamp (by omega), m1]
    exact ⟨vp_in_nI (by omega) (by decide), fun h => absurd rfl h, fun _ => ⟨rfl, g2⟩⟩

/-! octet: the law's call, and both sides -/
theorem xo_731 : decode (x_mB 239) 731 = .ok (.invokestatic 87, 3) := by decide +kernel
theorem xo_par : (parseMethodDescriptor xo_Y.desc).map (fun d => d.parameters.length) = some 3 := by decide +kernel
theorem xo_step {E : Nat × (Nat → Int32)} {d : Nat} {S S1 S' : xS} {r : Option Value} {lv : List (Nat × Value)} {k y : Int32} (hK : x_K S 0 = 11) (hK9 : x_K S 139 = 102) (hN9 : x_N S 139 = 1) (hd : 6 ≤ d) (hm : x_n S ≤ x_n S1 ∧ x_k S ≤ x_k S1 ∧ x_z S ≤ x_z S1)
    (hc : (∃ y0, x_Call E d 128 [.ref 0, .int k] S (some (.int y0)) S ∧ y = nI 0 ∧ S1 = x_pB S 139 (vp_updL (x_B S 139) 0 y0.toInt64)) ∨ ((k < nI 0 ∨ ¬ k < x_I S 0 12) ∧ y = nI 1 ∧ S1 = xo_S S))
    (h : x_Rw E (d + 2) 239 734 lv [.int y] S1 r S') : x_Rw E (d + 2) 239 731 lv [.ref 139, .int k, .ref 0] S r S' := by
  obtain ⟨hm1, hm2, hm3⟩ := hm
  refine x_stepC h ⟨hm1, hm2, hm3⟩ ?_
  intro l p e R s mid args below meth c A D cs q al H locs ls cells slots Q C X hl0 w1 w2 hcc hzz kk
  have hM := xo_law (D := D) (cs := cs) (sz := H.size) C.1 hK hK9 hN9 X.2.2.2.2 X.2.2.2.1 hd hc
  have hts := C.2.2.2.2.2.2.1
  have r1 : d + 2 ≤ R.frames := C.2.2.2.2.2.2.2.2.2.1
  have r2 : 50 * (d + 2) ≤ R.locals := C.2.2.2.2.2.2.2.2.2.2.1
  have cw : vx_CSW R s args "ScrawlHouseLaw" 87 xo_Y method_3_code 4 (some .int) [(0, 9, 12, 13)] xo_ws (x_rm (d + 1) S S1) (x_k S1 - x_k S) (x_z S1 - x_z S) 3 := by
    refine ⟨⟨rfl, rfl, ?_, ?_, pay_in hts xo_good, List.mem_cons_self⟩, hts _ (xo_m2 _ (by simp)), hts _ (xo_m2 _ (by simp)), by decide, fun sig h => ?_, hts _ (xo_m2 _ (by simp)), hts _ (xo_m2 _ (by simp))⟩
    · show d + 1 + 1 ≤ R.frames
      omega
    · show 8 + (4 + 11) + 50 * (d + 1) ≤ R.locals
      omega
    · have h2 := xo_par
      rw [h] at h2
      exact (Option.some.inj h2).symm
  refine x_cont C X (vx_runSW (As := [Value.ref 0, .int k, .ref 139].map (x_c al)) (rest := []) ⟨C.2.1, C.2.2.1, C.2.2.2.1, C.2.2.2.2.1, hts⟩ hM cw ⟨x_Pc_blind, x_Pc_at C X ([Value.ref 0, .int k, .ref 139].map (x_c al))⟩ rfl rfl hl0.1 rfl (lv_room (Nat.le_of_ble_eq_true rfl)) xo_731 ⟨hcc, hzz⟩) ?_
  intro al1 H1 locs1 x1 X1 wr
  exact kk al1 H1 locs1 ls x1 X1 (by rw [x_ql_ext x1 w1]; exact hl0) (w1.mono hm1) (x_wfs_c.mpr ⟨trivial, x_wfs_n⟩)
def xo_v (v : xV) : xV := (v.1, v.2.1, v.2.2.1, v.2.2.2.1, v.2.2.2.2.1, gb v, gn v, gk v + 1, gz v + 6)
theorem k_KO {E : Nat × (Nat → Int32)} {d : Nat} {v : xV} {k : Int32} {Q : Int32 → xV → Prop} (hd : 6 ≤ d) (hb : ¬ k < nI 0 → k < gI v 0 12 → vp_in k 6)
    (k1 : ¬ k < nI 0 → k < gI v 0 12 → Q (nI 0) (v_B v 139 (vp_updL (gB v 139) 0 (gA v 79 k.toNatClampNeg).toInt64)))
    (k2 : (k < nI 0 ∨ ¬ k < gI v 0 12) → Q (nI 1) (xo_v v)) : KO E (d + 1) 731 [.ref 0, .int k, .ref 139] v Q := by
  have hK : x_K (rt v) 0 = 11 := (gK_s (by decide)).trans (by decide +kernel)
  have hK9 : x_K (rt v) 139 = 102 := (gK_s (by decide)).trans (by decide +kernel)
  have hN9 : x_N (rt v) 139 = 1 := (if_pos (show 139 < 140 by decide) : gN v 139 = x_N0 139).trans (by decide +kernel)
  intro lv Q' hk
  by_cases ok : ¬ k < nI 0 ∧ k < gI v 0 12
  · obtain ⟨r, S', h1, h2⟩ := hk _ _ (k1 ok.1 ok.2)
    obtain ⟨r0, S0, hc, y0, w0, e1, e2, e3, e4⟩ := k_octetX (E := E) (d := d) (v := v) (k := k) (Q := fun y w => y = gA v 79 k.toNatClampNeg ∧ w = v) ok.1 ok.2 (hb ok.1 ok.2) ⟨rfl, rfl⟩
    subst e3 e4 e1 e2
    exact ⟨r, S', xo_step (S1 := rt (v_B w0 139 (vp_updL (gB w0 139) 0 (gA w0 79 k.toNatClampNeg).toInt64))) hK hK9 hN9 hd ⟨Nat.le_refl _, Nat.le_refl _, Nat.le_refl _⟩ (Or.inl ⟨_, hc, rfl, rfl⟩) h1, h2⟩
  · have hno : k < nI 0 ∨ ¬ k < gI v 0 12 := by
      by_cases q : k < nI 0
      · exact Or.inl q
      · exact Or.inr (fun z => ok ⟨q, z⟩)
    obtain ⟨r, S', h1, h2⟩ := hk _ _ (k2 hno)
    exact ⟨r, S', xo_step (S1 := rt (xo_v v)) hK hK9 hN9 hd ⟨Nat.le_refl _, Nat.le_succ _, Nat.le_add_right _ _⟩ (Or.inr ⟨hno, rfl, rfl⟩) h1, h2⟩
theorem J.more {c : Nat} {v : xV} (h : J c v) : J (c + 1) (xo_v v) := by
  obtain ⟨hI, h1, h2, h3, h4, h5, ⟨n, m, h6, h7⟩, k0, z0, Z, ⟨g, d1, d2, d3, d4⟩, h9, h10⟩ := h
  refine ⟨hI, h1, h2, h3, h4, h5, ⟨n, m, by omega, h7⟩, k0 + 1, z0 + 6, Z, ⟨g, d1, ?_, ?_, d4⟩, by omega, by omega⟩
  · show gk v + 1 = _
    omega
  · show gz v + 6 ≤ _
    omega
theorem pj_octet {E : Nat × (Nat → Int32)} {d : Nat} {c : Nat} {v : xV} {k : Int32} (hJ : J c v) (hd : 6 ≤ d) : KO E (d + 1) 731 [.ref 0, .int k, .ref 139] v (fun y1 v1 => KI E (d + 1) 189 [.ref 80, .int k] v1 (fun y2 v2 => KI E (d + 1) 146 [.ref 80] v2 (fun y3 v3 => y3 = y1 ∧ (y1 = nI 0 → lg_cmp (gB v3 139 (nI 0).toNatClampNeg) y2.toInt64 = nI 0) ∧ J (c + 1) v3))) := by
  have hO := hJ.1.2.2.1
  have hI := hJ.1
  obtain ⟨⟨s, hs, o1, o2⟩, o3⟩ := hO
  have hin : ∀ k : Int32, ¬ k < nI 0 → k < nI s → vp_in k 6 ∧ ∃ n, n < 6 ∧ k = nI n := by
    intro k h0 h1
    obtain ⟨n, hn, rfl⟩ := nI_of h0
    rw [nI_ltI hn (by omega)] at h1
    exact ⟨vp_in_nI (by omega) (by decide), n, by omega, rfl⟩
  refine k_KO hd (fun h0 h1 => (hin k h0 (by rw [← o1]; exact h1)).1) (fun h0 h1 => ?_) (fun hno => ?_)
  · rw [o1] at h1
    refine KI.of ok_189 (Nat.le_of_ble_eq_true rfl) (w_X12_octet_0 ⟨fun z => absurd z h0, fun _ => ?_⟩)
    show ((k < (gI v 80 4) → _) ∧ (¬ k < (gI v 80 4) → _))
    rw [o2]
    refine ⟨fun _ => ⟨(hin k h0 h1).1, KI.of ok_146 (Nat.le_of_ble_eq_true rfl) (w_X12_thrown_0 ⟨rfl, fun _ => ?_, J.up hJ⟩)⟩, fun z => absurd h1 z⟩
    rw [y_cmp]
    show vp_updL (gB v 139) 0 (gA v 79 k.toNatClampNeg).toInt64 0 = (gA v 82 k.toNatClampNeg).toInt64
    rw [pk_uLs, o3]
  · have rf : RI E (d + 1) 189 12 [(0, .ref 80)] (xo_v v) (fun y2 v2 => KI E (d + 1) 146 [.ref 80] v2 (fun y3 v3 => y3 = nI 1 ∧ (nI 1 = nI 0 → lg_cmp (gB v3 139 (nI 0).toNatClampNeg) y2.toInt64 = nI 0) ∧ J (c + 1) v3)) := w_X12_octet_12 (KI.of ok_147 (Nat.le_of_ble_eq_true rfl) (w_X12_refuse_0 (KI.of ok_146 (Nat.le_of_ble_eq_true rfl) (w_X12_thrown_0 ⟨rfl, fun z => absurd z nI_01, hJ.more⟩))))
    refine KI.of ok_189 (Nat.le_of_ble_eq_true rfl) (w_X12_octet_0 ⟨fun _ => rf, fun h0 => ?_⟩)
    show ((k < (gI v 80 4) → _) ∧ (¬ k < (gI v 80 4) → _))
    rw [o2]
    refine ⟨fun h1 => ?_, fun _ => rf⟩
    rcases hno with q | q
    · exact absurd q h0
    · rw [o1] at q
      exact absurd h1 q

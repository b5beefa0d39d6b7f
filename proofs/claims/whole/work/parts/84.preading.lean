/-! agree, reading: both sides agree -/
theorem cmp_congr {f f' g g' : Nat → Int32} (h1 : ∀ l, l < 26 → f l = f' l) (h2 : ∀ l, l < 26 → g l = g' l) : cmpI f g = cmpI f' g' := by
  have H : ∀ n, n ≤ 26 → cAl f g n = cAl f' g' n ∧ cUn f g n = cUn f' g' n := by
    intro n
    induction n with
    | zero => exact fun _ => ⟨rfl, rfl⟩
    | succ n ih =>
      intro hn
      obtain ⟨i1, i2⟩ := ih (by omega)
      refine ⟨?_, ?_⟩
      · show cAl f g n + (if ¬ f n = -1 ∧ ¬ g n = -1 ∧ f n = g n then 1 else 0) = cAl f' g' n + (if ¬ f' n = -1 ∧ ¬ g' n = -1 ∧ f' n = g' n then 1 else 0)
        rw [i1, h1 n (by omega), h2 n (by omega)]
      · show cUn f g n + (if ¬ f n = -1 ∧ ¬ g n = -1 ∧ ¬ f n = g n then 1 else 0) = cUn f' g' n + (if ¬ f' n = -1 ∧ ¬ g' n = -1 ∧ ¬ f' n = g' n then 1 else 0)
        rw [i2, h1 n (by omega), h2 n (by omega)]
  unfold cmpI
  rw [(H 26 (Nat.le_refl _)).1, (H 26 (Nat.le_refl _)).2]
theorem p_agree {E : Nat × (Nat → Int32)} {d : Nat} {c : Nat} {v : xV} {x y t : Int32} (hJ : J c v) (hc : c < 2 ^ 30) : P2 E (d + 12) 131 [.ref 0, .int x, .int y, .int t] 195 [.ref 80, .int x, .int y, .int t] v (J c) := by
  have no : (¬ ∃ a b, (a < nS v ∧ b < nS v) ∧ (x = nI a ∧ gA v 29 a ≤ t) ∧ (y = nI b ∧ gA v 29 b ≤ t)) → KI E (d + 12) 195 [.ref 80, .int x, .int y, .int t] v (fun y2 v2 => nI 0 = y2 ∧ J c v2) := by
    intro hno
    refine KI.of ok_195 (Nat.le_of_ble_eq_true rfl) (w_X12_agree_0 (k_knM (hJ.thr _) (fun a ha ea da => ⟨fun h => absurd h nI_01, fun _ => k_knM (hJ.thr _) (fun b hb eb db => absurd ⟨a, b, ⟨ha, hb⟩, ⟨ea, da⟩, eb, db⟩ hno) (fun h => ⟨fun h => absurd rfl h, fun _ => ⟨rfl, hJ⟩⟩)⟩) (fun h => ⟨fun _ => ⟨rfl, hJ⟩, fun h => absurd rfl h⟩)))
  refine KI.of ok_131 (Nat.le_of_ble_eq_true rfl) (w_X11_agree_0 (k_knX hJ (fun a ha ea da => ⟨fun h => absurd h nI_01, fun _ => k_knX hJ (fun b hb eb db => ⟨fun _ => ?_, fun h => absurd h nI_01⟩) (fun h => ⟨fun h => absurd rfl h, fun _ => no (fun ⟨a, b, h1, h2, h3⟩ => h ⟨b, h1.2, h3⟩)⟩)⟩) (fun h => ⟨fun _ => no (fun ⟨a, b, h1, h2, h3⟩ => h ⟨a, h1.1, h2⟩), fun h => absurd rfl h⟩)))
  subst ea eb
  have hS20 := hJ.num.1.2
  refine k_lookF hJ ha (fun v0 e1 e2 e3 e4 => k_lookF e2 (by rw [e1.n.1]; exact hb) (fun v1 f1 f2 f3 f4 => ?_))
  have fa : FX v1 a t := by
    by_cases hab : a = b
    · rw [hab]
      exact f3
    · exact e3.rd f1 (f4 a hab)
  have F := e1.trans f1
  have ha1 : a < nS v1 := by rw [F.n.1]; exact ha
  have hb1 : b < nS v1 := by rw [F.n.1]; exact hb
  have da1 : gA v1 29 a ≤ t := by rw [F.2.2.1 29 (by decide)]; exact da
  have db1 : gA v1 29 b ≤ t := by rw [F.2.2.1 29 (by decide)]; exact db
  refine k_compare (by omega) (by omega) ?_
  refine KI.of ok_195 (Nat.le_of_ble_eq_true rfl) (w_X12_agree_0 (k_knM (f2.thr _) (fun a' _ _ _ => ⟨fun h => absurd h nI_01, fun _ => k_knM (f2.thr _) (fun b' _ _ _ => ⟨fun _ => ?_, fun h => absurd h nI_01⟩) (fun h => absurd ⟨b, hb1, rfl, db1⟩ h)⟩) (fun h => absurd ⟨a, ha1, rfl, da1⟩ h)))
  refine k_workF (f2.thr (nI 0)) hc (fun v2 g1 g2 g3 => ?_)
  have ha2 : a < nS v2 := by rw [g1.n.1]; exact ha1
  have hb2 : b < nS v2 := by rw [g1.n.1]; exact hb1
  obtain ⟨N, hN', hN⟩ := g2.pl a ha2
  obtain ⟨M, hM', hM⟩ := g2.pl b hb2
  have e103 : gA (v_I v1 80 0 (nI 0)) 103 = gA v1 29 := f2.1.S.2.1.2.2.2.symm
  have ma := g3 a ha1 (by rw [e103]; exact da1)
  have mb := g3 b hb1 (by rw [e103]; exact db1)
  have xa : FX v2 a t := FX.wk (v := v_I v1 80 0 (nI 0)) fa g1
  have xb : FX v2 b t := FX.wk (v := v_I v1 80 0 (nI 0)) f3 g1
  have w47 : gA v2 47 = gA v1 47 := g1.2.2.2 47 (by decide)
  refine k_agreement g2 ha2 hb2 hN hN' hM hM' ma mb ⟨?_, g2⟩
  refine cmp_congr (fun l hl => ?_) (fun l hl => ?_)
  · rw [← (xa.c hN hN').2.2.2.2.2.1 l hl, w47]
  · rw [← (xb.c hM hM').2.2.2.2.2.1 l hl, w47]
theorem k_firstM {E : Nat × (Nat → Int32)} {d : Nat} {v : xV} {s z : Nat} {ws : List Nat} {Q : Int32 → xV → Prop} (hs : s < 20) (hz : z < 5) (h117 : gA v 117 s = nI ws.length) (hws : ws.length ≤ 6) (h116 : ∀ i w, ws[i]? = some w → gA v 116 (6 * s + i) = nI w) (hw : ∀ w, w ∈ ws → w < 80) (h87 : ∀ i, ∃ n, n < 5 ∧ gA v 87 i = nI n) (kk : Q (fstI (fun w => (gA v 87 w).toNatClampNeg) z ws) v) : KI E d 190 [.ref 80, .int (nI s), .int (nI z)] v Q := by
  have loop : ∀ post pre, ws = pre ++ post → fstI (fun w => (gA v 87 w).toNatClampNeg) z ws = fstI (fun w => (gA v 87 w).toNatClampNeg) z post → RI E d 190 2 [(0, .ref 80), (1, .int (nI s)), (2, .int (nI z)), (3, .int (nI pre.length))] v Q := by
    intro post
    induction post with
    | nil =>
      intro pre hpre he
      rw [List.append_nil] at hpre
      subst hpre
      refine w_X12_firstOf_2 ?_
      rw [nI_clamp (by omega), h117]
      refine ⟨vp_in_nI hs (by decide), fun _ => ?_, fun h => absurd (nI_le (Nat.le_refl _) (by omega)) h⟩
      rw [he] at kk
      exact kk
    | cons w post ih =>
      intro pre hpre he
      have hlen : ws.length = pre.length + (post.length + 1) := by rw [hpre, List.length_append, List.length_cons]
      have hw80 := hw w (by rw [hpre]; exact List.mem_append_right _ (List.mem_cons_self ..))
      have hwi : ws[pre.length]? = some w := by rw [hpre, List.getElem?_append_right (Nat.le_refl _), Nat.sub_self]; rfl
      have e116 := h116 _ _ hwi
      obtain ⟨z1, hz1, ez1⟩ := h87 w
      refine w_X12_firstOf_2 ?_
      simp (disch := omega) only [pk_mul, nI_add, nI_clamp, vp_t, true_and, h117, nI_leI, e116, ez1, nI_eq]
      have hst : fstI (fun w => (gA v 87 w).toNatClampNeg) z (w :: post) = if z1 = z then nI w else fstI (fun w => (gA v 87 w).toNatClampNeg) z post := by
        show (if (gA v 87 w).toNatClampNeg = z then nI w else fstI (fun w => (gA v 87 w).toNatClampNeg) z post) = _
        rw [ez1, nI_clamp (by omega)]
      refine ⟨fun h => by omega, fun _ => ⟨fun h => ?_, fun h => ?_⟩⟩
      · have := ih (pre ++ [w]) (by rw [hpre, List.append_assoc]; rfl) (by rw [he, hst, if_neg h])
        rw [List.length_append, List.length_singleton] at this
        exact this
      · rw [he, hst, if_pos h] at kk
        exact kk
  exact KI.of ok_190 (Nat.le_of_ble_eq_true rfl) (w_X12_firstOf_0 (loop ws [] rfl rfl))
theorem cnt_congr {f g : Nat → Int32} {n : Nat} (h : ∀ l, l < n → f l = g l) : cntU f n = cntU g n := by
  induction n with
  | zero => rfl
  | succ n ih =>
    show cntU f n + (if f n = -1 then 0 else 1) = cntU g n + (if g n = -1 then 0 else 1)
    rw [ih (fun l hl => h l (by omega)), h n (by omega)]
theorem p_reading {E : Nat × (Nat → Int32)} {d : Nat} {c : Nat} {v : xV} {x t y : Int32} (hJ : J c v) (hc : c < 2 ^ 30) : P2 E (d + 12) 129 [.ref 0, .int x, .int t, .int y] 192 [.ref 80, .int x, .int t, .int y] v (J c) := by
  have no : (¬ ∃ s, s < nS v ∧ x = nI s ∧ gA v 29 s ≤ t) → KI E (d + 12) 192 [.ref 80, .int x, .int t, .int y] v (fun y2 v2 => (-1 : Int32) = y2 ∧ J c v2) := by
    intro hno
    refine KI.of ok_192 (Nat.le_of_ble_eq_true rfl) (w_X12_reading_0 (k_knM (hJ.thr _) (fun s hs ex hd => absurd ⟨s, hs, ex, hd⟩ hno) (fun h => ⟨fun _ => ⟨rfl, hJ⟩, fun h => absurd rfl h⟩)))
  refine KI.of ok_129 (Nat.le_of_ble_eq_true rfl) (w_X11_reading_0 (k_knX hJ (fun s hs ex hd => ⟨fun _ => ?_, fun h => absurd h nI_01⟩) (fun h => ⟨fun h => absurd rfl h, fun _ => no h⟩)))
  subst ex
  have hS20 := hJ.num.1.2
  refine k_lookF hJ hs (fun v1 f1 f2 f3 f4 => ?_)
  have hs1 : s < nS v1 := by rw [f1.n.1]; exact hs
  have hd1 : gA v1 29 s ≤ t := by rw [f1.2.2.1 29 (by decide)]; exact hd
  -- the reference's road, up to its tables
  have road : ∀ k y1, k ≤ 5 → y = nI k → (∀ v2 N, WkF (v_I v1 80 0 (nI 0)) v2 → J c v2 → s < nS v2 → gA v2 28 s = nI N → (1 ≤ N ∧ N ≤ 24) → FM v2 s t → FX v2 s t → ((¬ y = nI 5 → vp_in (nI s) 20 ∧ ((¬ gA v2 117 (nI s).toNatClampNeg = nI 0 → ((¬ y = nI 0 → ((¬ y = nI 1 → KI E (d + 11) 190 [.ref 80, .int (nI s), .int (y - nI 2)] v2 (fun y8 v7 => y1 = y8 ∧ J c v7)) ∧ (y = nI 1 → vp_in (nI s) 20 ∧ (y1 = gA v2 119 (nI s).toNatClampNeg ∧ J c v2)))) ∧ (y = nI 0 → vp_in (nI s) 20 ∧ (y1 = gA v2 118 (nI s).toNatClampNeg ∧ J c v2)))) ∧ (gA v2 117 (nI s).toNatClampNeg = nI 0 → (y1 = -1 ∧ J c v2)))) ∧ (y = nI 5 → RI E (d + 12) 192 41 [(0, .ref 80), (1, .int (nI s)), (2, .int t), (4, .int (nI 0)), (5, .int (nI 0))] v2 (fun y2 v2 => y1 = y2 ∧ J c v2)))) → KI E (d + 12) 192 [.ref 80, .int (nI s), .int t, .int y] v1 (fun y2 v2 => y1 = y2 ∧ J c v2) := by
    intro k y1 hk5 ek hroad
    refine KI.of ok_192 (Nat.le_of_ble_eq_true rfl) (w_X12_reading_0 (k_knM (f2.thr _) (fun s' _ _ _ => ⟨fun h => absurd h nI_01, fun _ => k_inN (by decide) (fun _ _ _ => ⟨fun _ => ?_, fun h => absurd h nI_01⟩) (fun h => absurd ⟨k, hk5, ek⟩ h)⟩) (fun h => absurd ⟨s, hs1, rfl, hd1⟩ h)))
    refine k_workF (f2.thr (nI 0)) hc (fun v2 g1 g2 g3 => ?_)
    have hs2 : s < nS v2 := by rw [g1.n.1]; exact hs1
    obtain ⟨N, hN', hN⟩ := g2.pl s hs2
    have e103 : gA (v_I v1 80 0 (nI 0)) 103 = gA v1 29 := f2.1.S.2.1.2.2.2.symm
    exact hroad v2 N g1 g2 hs2 hN hN' (g3 s hs1 (by rw [e103]; exact hd1)) (FX.wk (v := v_I v1 80 0 (nI 0)) f3 g1)
  have first : ∀ j, j < 3 → y = nI (j + 2) → KI E (d + 11) 74 [.ref 38, .int (nI s), .int (nI j)] v1 (fun y7 v6 => KI E (d + 12) 192 [.ref 80, .int (nI s), .int t, .int y] v6 (fun y2 v2 => y7 = y2 ∧ J c v2)) := by
    intro j hj ey
    refine KI.of ok_74 (Nat.le_of_ble_eq_true rfl) (w_X7_firstOf_0 ?_)
    simp (disch := omega) only [nI_add, pk_mul, nI_clamp, nI_leI, nI_ltI, nI_eq, vp_t, true_and, Nat.mul_comm s 3]
    refine road (j + 2) _ (by omega) ey (fun v2 N g1 g2 hs2 hN hN' fm fx => ?_)
    have w46 : gA v2 46 = gA v1 46 := g1.2.2.2 46 (by decide)
    obtain ⟨-, -, -, -, x5, -, -⟩ := fx.c hN hN'
    obtain ⟨m1, m2, m3⟩ := FM.c g2 fm hN hN'
    subst ey
    have hsub : nI (j + 2) - nI 2 = nI j := by rw [nI_sub (by omega)]; rfl
    have e8 : gA v2 87 = gA v2 8 := g2.1.W.2.1.2.2.symm
    have hlen := rW_len (v := v2) (s := s) (N := N) (t := t)
    rw [hsub]
    simp (disch := omega) only [nI_clamp, vp_t, true_and, nI_eq, m1]
    refine ⟨fun _ => ⟨fun h0 => ⟨fun _ => ⟨fun _ => ?_, fun h => by omega⟩, fun h => by omega⟩, fun h0 => ?_⟩, fun h => by omega⟩
    · refine k_firstM (by omega) (by omega) m1 rW_len m2 (fun w hw => by have := rW_lt g2 w hw; have := g2.num.2.2.2.1.2; omega) (by rw [e8]; exact g2.1.W.2.2.2.2) ⟨?_, g2⟩
      rw [← w46, x5 j hj, e8]
    · refine ⟨?_, g2⟩
      have hnil : rW v2 s t N = [] := List.length_eq_zero_iff.mp h0
      rw [← w46, x5 j hj, hnil]
      rfl
  refine ⟨fun h => ?_, fun ey => ?_, fun ey => ?_, fun ey => ?_, fun ey => ?_, fun ey => ?_, fun ey => ?_⟩
  · refine KI.of ok_192 (Nat.le_of_ble_eq_true rfl) (w_X12_reading_0 (k_knM (f2.thr _) (fun s' _ _ _ => ⟨fun h => absurd h nI_01, fun _ => k_inN (by decide) (fun k hk ek => ?_) (fun h => ⟨fun h => absurd rfl h, fun _ => ⟨rfl, f2⟩⟩)⟩) (fun h => ⟨fun _ => ⟨rfl, f2⟩, fun h => absurd rfl h⟩)))
    exfalso
    rw [ek, nI_toInt (by omega)] at h
    omega
  · refine ⟨vp_in_nI (by omega) (by decide), ?_⟩
    rw [nI_clamp (by omega)]
    refine road 0 _ (by omega) ey (fun v2 N g1 g2 hs2 hN hN' fm fx => ?_)
    have w42 : gA v2 42 = gA v1 42 := g1.2.2.2 42 (by decide)
    obtain ⟨x1, -, -, -, -, -, -⟩ := fx.c hN hN'
    obtain ⟨m1, m2, m3⟩ := FM.c g2 fm hN hN'
    have hlen := rW_len (v := v2) (s := s) (N := N) (t := t)
    subst ey
    simp (disch := omega) only [nI_clamp, vp_t, true_and, nI_eq, m1]
    rcases rW_0 (v := v2) (s := s) (t := t) hN'.1 with ⟨q1, q2⟩ | ⟨a, n, p, q1, q2⟩
    · refine ⟨fun _ => ⟨fun h0 => absurd (by rw [q2]; rfl) h0, fun _ => ⟨?_, g2⟩⟩, fun h => by omega⟩
      rw [← w42, x1, q1]
      rfl
    · refine ⟨fun _ => ⟨fun _ => ⟨fun h => absurd trivial h, fun _ => ⟨?_, g2⟩⟩, fun h0 => absurd (List.length_eq_zero_iff.mp h0) q2⟩, fun h => by omega⟩
      rw [← w42, x1, (m3 a n p q1).1, q1]
      rfl
  · refine ⟨vp_in_nI (by omega) (by decide), ?_⟩
    rw [nI_clamp (by omega)]
    refine road 1 _ (by omega) ey (fun v2 N g1 g2 hs2 hN hN' fm fx => ?_)
    have w43 : gA v2 43 = gA v1 43 := g1.2.2.2 43 (by decide)
    obtain ⟨-, x2, -, -, -, -, -⟩ := fx.c hN hN'
    obtain ⟨m1, m2, m3⟩ := FM.c g2 fm hN hN'
    have hlen := rW_len (v := v2) (s := s) (N := N) (t := t)
    subst ey
    simp (disch := omega) only [nI_clamp, vp_t, true_and, nI_eq, m1]
    rcases rW_0 (v := v2) (s := s) (t := t) hN'.1 with ⟨q1, q2⟩ | ⟨a, n, p, q1, q2⟩
    · refine ⟨fun _ => ⟨fun h0 => absurd (by rw [q2]; rfl) h0, fun _ => ⟨?_, g2⟩⟩, fun h => by omega⟩
      rw [← w43, x2, q1]
      rfl
    · refine ⟨fun _ => ⟨fun _ => ⟨fun _ => ⟨fun h => absurd trivial h, fun _ => ⟨?_, g2⟩⟩, fun h => by omega⟩, fun h0 => absurd (List.length_eq_zero_iff.mp h0) q2⟩, fun h => by omega⟩
      rw [← w43, x2, (m3 a n p q1).2, q1]
      rfl
  · exact first 0 (by omega) ey
  · exact first 1 (by omega) ey
  · exact first 2 (by omega) ey
  · refine ⟨vp_in_nI (by omega) (by decide), ?_⟩
    rw [nI_clamp (by omega)]
    refine road 5 _ (by omega) ey (fun v2 N g1 g2 hs2 hN hN' fm fx => ⟨fun h => absurd ey h, fun _ => ?_⟩)
    have w48 : gA v2 48 = gA v1 48 := g1.2.2.2 48 (by decide)
    obtain ⟨-, -, -, -, -, -, x7⟩ := fx.c hN hN'
    refine lp_up (n := 26) (P := fun l => RI E (d + 12) 192 41 [(0, .ref 80), (1, .int (nI s)), (2, .int t), (4, .int (nI (cntU (rU v2 s t N) l))), (5, .int (nI l))] v2 (fun y2 v2 => gA v1 48 s = y2 ∧ J c v2)) (w_X12_reading_41 ⟨fun _ => ⟨?_, g2⟩, fun h => absurd (by decide) h⟩) (fun l hl ih => w_X12_reading_41 ⟨fun h => ?_, fun _ => k_usedF g2 hs2 hl hN hN' fm ?_⟩) (Nat.zero_le _)
    · rw [← w48]
      exact x7
    · exfalso
      rw [nI_leI (by decide) (by omega)] at h
      omega
    · rw [nI_add, nI_add]
      have hcs : cntU (rU v2 s t N) (l + 1) = cntU (rU v2 s t N) l + (if rU v2 s t N l = -1 then 0 else 1) := rfl
      refine ⟨fun h => ?_, fun h => ?_⟩
      · rw [hcs, if_pos h] at ih
        exact ih
      · rw [hcs, if_neg h] at ih
        exact ih

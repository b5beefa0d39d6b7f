/-! walk: both sides agree -/
def tw (v : xV) (f : Nat → Int32) (n : Nat) (g : Nat → Int32) : xV := v_A (sg v f n) 16 g
theorem tw_bd {v w : xV} (h : BdF v w) (f : Nat → Int32) (n : Nat) (g : Nat → Int32) : BdF (tw v f n g) (tw w f n g) := by
  refine ⟨h.1, fun a b hn => ?_, fun j hj => ?_, h.2.2.2⟩
  · show gI (v_I w 11 5 (nI n)) a b = gI (v_I v 11 5 (nI n)) a b
    rw [gI_I, gI_I]
    by_cases e : a = 11
    · rw [if_pos e, if_pos e]
      by_cases e2 : b = 5
      · rw [if_pos e2, if_pos e2]
      · rw [if_neg e2, if_neg e2]
        exact h.2.1 a b hn
    · rw [if_neg e, if_neg e]
      exact h.2.1 a b hn
  · show gA (v_A (v_A w 15 f) 16 g) j = gA (v_A (v_A v 15 f) 16 g) j
    rw [gA_A, gA_A, gA_A, gA_A]
    by_cases e : j = 16
    · rw [if_pos e, if_pos e]
    · rw [if_neg e, if_neg e]
      by_cases e2 : j = 15
      · rw [if_pos e2, if_pos e2]
      · rw [if_neg e2, if_neg e2]
        exact h.2.2.1 j hj
theorem PtI.used {T : Nat → Nat → Prop} {m M : Nat} {q : Nat → Nat} (h : PtI T m M q) {p : Nat} (hp : p < M) : ∃ j, j < m ∧ q j = p := by
  rcases h with ⟨p1, p2⟩ | ⟨p1, p2, p3, p4⟩
  · omega
  · refine Classical.byContradiction (fun hno => ?_)
    have hq := p4.1.1
    have hmx : ∀ k, k ≤ m → mxP q k ≤ p := by
      intro k
      induction k with
      | zero => exact fun _ => Nat.zero_le _
      | succ k ih =>
        intro hk
        have a := ih (by omega)
        have b := (hq k (by omega)).1
        have c : q k ≠ p := fun e => hno ⟨k, by omega, e⟩
        show max (mxP q k) (q k + 1) ≤ p
        omega
    refine p3 p q hp (fun i hi => ⟨(hq i hi).1, ?_, (hq i hi).2.2⟩)
    have a := hmx i (by omega)
    have b := (hq i hi).1
    have c : q i ≠ p := fun e => hno ⟨i, hi, e⟩
    omega
theorem PtI.lt {T : Nat → Nat → Prop} {m M : Nat} {q : Nat → Nat} (h : PtI T m M q) : M ≤ m ∧ ∀ i, i < m → q i < M := by
  rcases h with ⟨p1, p2⟩ | ⟨p1, p2, p3, p4⟩
  · exact ⟨by omega, fun i hi => by omega⟩
  · exact ⟨p2, fun i hi => (p4.1.1 i hi).2.1⟩
theorem WayY.same {ed : Nat → Nat → Nat → Prop} (hs : ∀ i j e, ed i j e → ed j i e) {X : Nat → Prop} {y : Int32} {W : Nat} (h0 : ∃ x, X x) (h : WayY ed X y) (hW : WkT ed X 100000000 W) : y = if W < 100000000 then nI W else -2 := by
  rcases h with ⟨h1, -⟩ | ⟨⟨a, b, ha, hb, hno⟩, e⟩ | ⟨V, v1, v2, e⟩
  · exact absurd h0 h1
  · rw [if_neg, e]
    intro q
    obtain ⟨l, l1, l2⟩ := hW.2.1 q
    exact hno (RW.path hs l W l1 a b (l2 a ha) (l2 b hb))
  · obtain ⟨l, l1, l2⟩ := v2.2.1 v1
    have h1 := hW.2.2 l V l1 l2
    have q : W < 100000000 := by omega
    obtain ⟨l', l1', l2'⟩ := hW.2.1 q
    have h2 := v2.2.2 l' W l1' l2'
    rw [if_pos q, e, show V = W by omega]
theorem p_walk {E : Nat × (Nat → Int32)} {d : Nat} {c : Nat} {v : xV} {name x t : Int32} (hJ : J c v) (hc : c < 2 ^ 30) : P2 E (d + 13) 139 [.ref 0, .int name, .int x, .int t] 223 [.ref 80, .int name, .int x, .int t] v (J c) := by
  obtain ⟨n1, n2⟩ := hJ.num.2.2.2.1
  refine KI.of ok_139 (Nat.le_of_ble_eq_true rfl) (w_X11_walk_0 (k_sortX (k := 0) n1 n2 (fun hso => ⟨fun _ => ?_, fun h => absurd h nI_01⟩) (fun hso => ⟨fun h => absurd rfl h, fun _ => ?_⟩)))
  · refine k_lookAllF hJ (fun v1 K hK f1 f2 f3 => k_setX2 f2 hK f3 (fun n w cb L G hn hy sp1 sp2 => ?_))
    have hw : J c w := f2.sc hy.sc
    have bd := hy.sc.bd
    have e46 : gA w 46 = gA v1 46 := bd.2.2.1 46 (by decide)
    have hK1 := hK.1
    have hK20 := f2.num.1.2
    refine k_partX (K := K) (tr := fun s => gA v1 46 (3 * s + 1)) (P := fun s => decide (gA v1 46 (3 * s) = name)) sp1 (by funext s; exact (congrFun e46 _).symm) (fun s => by rw [e46]) hw.num.1.1 hw.num.1.2 (by rw [bd.n.1, bd.2.2.1 29 (by decide)]; exact hK) (fun w2 M q s1 s2 s3 s4 s5 => ?_)
    have hw2 : J c w2 := hw.sc s1
    have bd2 := bd.trans s1.bd
    have hlen := mbl_len (fun s => decide (gA v1 46 (3 * s) = name)) K
    have hltK := mbl_lt (fun s => decide (gA v1 46 (3 * s) = name)) K
    obtain ⟨l, el⟩ : ∃ l, l = mbl (fun s => decide (gA v1 46 (3 * s) = name)) K := ⟨_, rfl⟩
    rw [← el] at s2 s4 s5 hlen hltK
    have hM := s4.lt
    have road : ∀ (V0 w' : xV) (y : Int32), BdF V0 w' → J c w' → isKn (gA V0 29) t (nS V0) K → isKn (gA V0 66) t (nF V0) n → (∀ s, s < K → FX V0 s t) → SpOK V0 K n cb L G → gA V0 46 = gA v1 46 → gA w' 8 = gA v 8 → nW w' = nW v → (∀ u, BdF V0 u → J c u → gI u 80 82 = nI l.length → (∀ i x, l[i]? = some x → gA u 132 i = nI x) → (∀ i, i < l.length → gA u 133 i = nI (q i)) → (∀ p, p < M → x = nI p → RI E (d + 13) 223 47 [(0, .ref 80), (2, .int x), (4, .int (nI 0)), (5, .int (nI 0)), (6, .int (nI 0))] u (fun y2 v2 => y = y2 ∧ J c v2)) ∧ ((¬ ∃ p, p < M ∧ x = nI p) → y = -1)) → KI E (d + 13) 223 [.ref 80, .int name, .int x, .int t] w' (fun y2 v2 => y = y2 ∧ J c v2) := by
      intro V0 w' y r1 r2 r3 r4 r5 r6 r7 r8 r9 fin
      have e87 : gA (v_I w' 80 0 (nI 0)) 87 = gA v 8 := by
        have h : gA w' 8 = gA w' 87 := r2.1.W.2.1.2.2
        show gA w' 87 = gA v 8
        rw [← h, r8]
      refine KI.of ok_223 (Nat.le_of_ble_eq_true rfl) (w_X12_walk_0 (k_sortM (v := v_I w' 80 0 (nI 0)) (N := nW v) (k := 0) (r9 ▸ r2.numM.2.2.2.1) n2 (fun _ => ⟨fun _ => ?_, fun h => absurd h nI_01⟩) (fun h => absurd hso (by rw [e87] at h; exact h))))
      refine k_partAll (v := V0) (w := v_I w' 80 0 (nI 0)) (P := fun s => decide (gA v1 46 (3 * s) = name)) (tr := fun s => gA v1 46 (3 * s + 1)) (r1.trans (ScF.thr w' _).bd) (r2.thr _) hc r3 r4 r5 r6 sp1.2.2 (by rw [r7]) (fun s => by rw [r7]) el s4 (fun u b1 b2 b3 b4 b5 b6 => ?_)
      have hf := fin u b1 b2 b3 b4 b6
      rw [b5]
      refine k_in (fun hx => ⟨fun _ => ?_, fun h => absurd h nI_01⟩) (fun hx => ⟨fun h => absurd rfl h, fun _ => ⟨hf.2 (fun e => hx ((i_btwm (by omega)).mpr e)), b2⟩⟩)
      obtain ⟨p, hp, e⟩ := (i_btwm (by omega)).mp hx
      exact hf.1 p hp e
    have e8 : gA w2 8 = gA v 8 := by rw [bd2.2.2.1 8 (by decide), f1.2.2.1 8 (by decide)]
    have eW : nW w2 = nW v := bd2.n.2.2.2.1.trans f1.n.2.2.2.1
    refine ⟨fun z => ?_, fun z => ?_⟩
    · refine road v1 w2 _ bd2 hw2 hK hn f3 sp2 rfl e8 eW (fun u b1 b2 b3 b4 b5 => ⟨fun p hp e => ?_, fun _ => rfl⟩)
      exact absurd z (by rw [e]; exact nz_lt (by omega))
    · obtain ⟨p, hp31, rfl⟩ := nI_of z
      rw [s3, nI_ltI hp31 (by omega)]
      refine ⟨fun hpM => ?_, fun hpM => ?_⟩
      · obtain ⟨wl, hwl⟩ : ∃ wl : Nat → Nat, wl = fun x => (gA w2 26 x).toNatClampNeg := ⟨_, rfl⟩
        obtain ⟨co, hco⟩ : ∃ co : Nat → Nat, co = fun x => (gA w2 13 x).toNatClampNeg := ⟨_, rfl⟩
        have hw26 : ∀ x, gA w2 26 x = nI (wl x) ∧ wl x < 8 := by
          intro x
          obtain ⟨k, k1, k2⟩ := hw2.1.S.2.2.1 x
          rw [hwl]
          show gA w2 26 x = nI (gA w2 26 x).toNatClampNeg ∧ (gA w2 26 x).toNatClampNeg < 8
          rw [k2, nI_clamp (by omega)]
          exact ⟨rfl, k1⟩
        have hc13 : ∀ x, gA w2 13 x = nI (co x) ∧ co x < 12 := by
          intro x
          obtain ⟨k, k1, k2⟩ := hw2.1.A.2.2.1 x
          rw [hco]
          show gA w2 13 x = nI (gA w2 13 x).toNatClampNeg ∧ (gA w2 13 x).toNatClampNeg < 12
          rw [k2, nI_clamp (by omega)]
          exact ⟨rfl, k1⟩
        have hlt20 : ∀ x, x ∈ l → x < 20 := fun x hx => by
          have := hltK x hx
          omega
        have hqb : ∀ i, i < l.length → q i < 2 ^ 31 := fun i hi => by
          have := hM.2 i hi
          omega
        obtain ⟨⟨nt, nt1, nt2, nt3⟩, x2, x3⟩ := hw2.2.2.2.2.1.1
        have ent : nT w2 = nt := by
          unfold nT
          rw [nt2, nI_clamp (by omega)]
        rw [ent] at x2 x3
        have hA8 := hw2.num.2.2.2.2.1
        refine k_wallsOf (q := q) (wl := wl) hlen hlt20 hp31 hqb s2.1 s2.2.1 s5 (fun x _ => hw26 x) (fun b hb hbw => ?_)
        refine k_leastWay (co := co) (edge_e _ _ _ _) (edge_s _ _ _ _) hA8.1 hA8.2 hb hc13 x3 (fun f n' g y hyw => ?_)
        have hX : (fun x => ∃ w, w < nA w2 ∧ b.testBit w = true ∧ co w = x) = fun y => ∃ (j x : Nat), l[j]? = some x ∧ q j = p ∧ co (wl x) = y := by
          funext y
          apply propext
          constructor
          · rintro ⟨w, r1, r2, r3⟩
            obtain ⟨j, x, a1, a2, a3⟩ := (hbw w).mp r2
            exact ⟨j, x, a1, a2, by rw [a3]; exact r3⟩
          · rintro ⟨j, x, a1, a2, a3⟩
            have hx := hltK x (List.mem_of_getElem? a1)
            obtain ⟨w', l', m', ⟨c1, -, -⟩, c2, -, -⟩ := (hw2.2.2.2.1.1 x (by rw [bd2.n.1]; omega)).1
            rw [(hw26 x).1, nI_inj (by have := (hw26 x).2; omega) (by omega)] at c2
            exact ⟨wl x, by omega, (hbw _).mpr ⟨j, x, a1, a2, rfl⟩, a3⟩
        rw [hX] at hyw
        refine road (tw v1 f n' g) (tw w2 f n' g) y (tw_bd bd2 f n' g) hw2 hK hn f3 sp2 rfl e8 eW (fun u b1 b2 b3 b4 b5 => ⟨fun p' hp' e => ?_, fun hno => absurd ⟨p, hpM, rfl⟩ hno⟩)
        have uw : ∀ j, 78 < j ∧ j < 112 → gA u j = gA w2 j := fun j hj => by
          rw [b1.2.2.1 j (by omega), bd2.2.2.1 j (by omega)]
          show gA (v_A (v_A v1 15 f) 16 g) j = gA v1 j
          rw [gA_A, if_neg (by omega), gA_A, if_neg (by omega)]
        have u21 : gI u 80 21 = nI nt := by
          rw [b1.2.1 80 21 (by decide)]
          show gI v1 80 21 = nI nt
          rw [← bd2.2.1 80 21 (by decide)]
          exact nt3
        obtain ⟨j, j1, j2⟩ := s4.used hpM
        refine k_walkM (ed := edge (gA w2 88) (gA w2 89) (gA w2 90) nt) (l := l) (q := q) (wl := wl) (co := co) (p := p) u21 nt1 (by rw [uw 88 (by omega), uw 89 (by omega), uw 90 (by omega)]) (by rw [uw 88 (by omega), uw 89 (by omega), uw 90 (by omega)]; exact x2) hlen hlt20 hp31 hqb b3 b4 b5 (fun x _ => ?_) (fun w => ?_) ⟨j, l[j], List.getElem?_eq_getElem j1, j2⟩ (fun W f' g' h' hW => ?_)
        · rw [uw 100 (by omega), ← hw2.1.S.2.1.1]
          exact hw26 x
        · rw [uw 91 (by omega), ← hw2.1.A.2.1.1]
          exact hc13 w
        · refine ⟨hyw.same (edge_s _ _ _ _) ⟨_, j, l[j], List.getElem?_eq_getElem j1, j2, rfl⟩ hW, b2.sc ?_⟩
          exact ((ScF.vA u f' (by omega)).trans (ScF.vA _ g' (by omega))).trans (ScF.vA _ h' (by omega))
      · refine road v1 w2 _ bd2 hw2 hK hn f3 sp2 rfl e8 eW (fun u b1 b2 b3 b4 b5 => ⟨fun p' hp' e => ?_, fun _ => rfl⟩)
        rw [nI_inj hp31 (by omega)] at e
        omega
  · have e87 : gA (v_I v 80 0 (nI 0)) 87 = gA v 8 := hJ.1.W.2.1.2.2.symm
    refine KI.of ok_223 (Nat.le_of_ble_eq_true rfl) (w_X12_walk_0 (k_sortM (v := v_I v 80 0 (nI 0)) (N := nW v) (k := 0) hJ.numM.2.2.2.1 n2 (fun h => absurd (by rw [e87] at h; exact h) hso) (fun h => ⟨fun h => absurd rfl h, fun _ => ⟨rfl, hJ⟩⟩)))

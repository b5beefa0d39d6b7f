/-! hand: the reference, and both -/
theorem k_handM {E : Nat × (Nat → Int32)} {d : Nat} {u : xV} {c K s : Nat} {t : Int32} {cb : Bool} {L G : Nat → Nat} {H : Nat → Int32} {h Cn : Nat → Nat} {Q : Int32 → xV → Prop} (hJ : J c u) (hsp : SpM u K cb L G) (hL : ∀ k, k < 52 → L k < 200 ∧ G k < 200) (hK : isKn (gA u 29) t (nS u) K) (hs : s < K) (hF : ∀ s, s < K → FM u s t) (hR : HR (fun a b => cmpI (uV u a t) (uV u b t)) (ApX cb L G) (fun s => ¬ cntU (uV u s t) 26 = 0) H h Cn K) (kk : ∀ w, J c w → Q (H s) w) : RI E (d + 4) 215 26 [(0, .ref 80), (1, .int (nI s)), (2, .int t), (3, .int (nI 0)), (4, .int (nI 0))] u Q := by
  have hS20 := hJ.num.1.2
  have hK1 := hK.1
  have key : ∀ i, i ≤ s + 1 → ∀ w, ScF u w → SpM w K cb L G → (∀ o, o < i → gA w 129 o = H o) → RI E (d + 4) 215 26 [(0, .ref 80), (1, .int (nI s)), (2, .int t), (3, .int (nI (Cn i))), (4, .int (nI i))] w Q := by
    intro i hi
    refine lp_up (n := s + 1) (P := fun i => ∀ w, ScF u w → SpM w K cb L G → (∀ o, o < i → gA w 129 o = H o) → RI E (d + 4) 215 26 [(0, .ref 80), (1, .int (nI s)), (2, .int t), (3, .int (nI (Cn i))), (4, .int (nI i))] w Q) (fun w s1 s2 s3 => w_X12_hand_26 ⟨fun _ => ⟨vp_in_nI (by omega) (by decide), ?_⟩, fun z => ?_⟩) (fun i hi ih w s1 s2 s3 => w_X12_hand_26 ⟨fun z => ?_, fun _ => ?_⟩) hi
    · rw [nI_clamp (by omega), s3 s (by omega)]
      exact kk w (hJ.sc s1)
    · rw [nI_ltI (by omega) (by omega)] at z
      omega
    · exfalso
      rw [nI_ltI (by omega) (by omega)] at z
      omega
    · have hi20 : vp_in (nI i) 20 := vp_in_nI (by omega) (by decide)
      have hcn := hR.cn i (by omega)
      have e103 : gA w 103 i = gA u 29 i := by
        have : gA u 103 = gA u 29 := hJ.1.S.2.1.2.2.2.symm
        rw [s1.2.2.1 103 (by decide), this]
      obtain ⟨-, r1, r2⟩ := hR.2 i (by omega)
      rw [nI_clamp (by omega), e103]
      refine ⟨hi20, hi20, fun z => absurd (hK.2.1 i (by omega)) (i_nle.mpr z), fun _ => ?_⟩
      obtain ⟨S, eS⟩ : ∃ S, S = v_A w 129 (upd (gA w 129) i (-1)) := ⟨_, rfl⟩
      have t1 : ScF u S := by
        rw [eS]
        exact s1.trans (ScF.vA w _ (by omega))
      have t2 : SpM S K cb L G := by
        rw [eS]
        exact s2
      have t3 : ∀ o, o < i → gA S 129 o = H o := by
        intro o ho
        rw [eS]
        show upd (gA w 129) i (-1) o = H o
        rw [upd_n _ _ (by omega)]
        exact s3 o ho
      have t4 : gA S 129 i = -1 := by
        rw [eS]
        exact upd_s _ _ _
      have tJ := hJ.sc t1
      have tu : ∀ a, uV S a t = uV u a t := fun a => uV.bd t1.bd a t
      have tF : ∀ s, s < K → FM S s t := fun s hs => (hF s hs).sc t1
      have tn : nS S = nS u := t1.n.1
      rw [← eS, nI_add]
      refine k_hasUsed tJ (by rw [tn]; omega) (tF i (by omega)) (fun q => ⟨fun _ => ?_, fun z => absurd z nI_01⟩) (fun q => ⟨fun z => absurd rfl z, fun _ => ?_⟩)
      · rw [tu] at q
        obtain ⟨a1, a2, a3, a4, a5⟩ := r2 q
        have eq : ∀ x, OfH (fun a b => cmpI (uV S a t) (uV S b t)) (ApX cb L G) (gA S 129) i x ↔ OfH (fun a b => cmpI (uV u a t) (uV u b t)) (ApX cb L G) H i x := by
          intro x
          have e : (fun a b => cmpI (uV S a t) (uV S b t)) = fun a b => cmpI (uV u a t) (uV u b t) := by
            funext a b
            rw [tu, tu]
          rw [e]
          exact ⟨fun q => q.cong t3, fun q => q.cong (fun o ho => (t3 o ho).symm)⟩
        have fin : RI E (d + 4) 215 91 [(0, .ref 80), (1, .int (nI s)), (2, .int t), (3, .int (nI (Cn i))), (4, .int (nI i)), (5, .int (nI (h i)))] S Q := by
          have go := ih (v_A S 129 (upd (gA S 129) i (nI (h i)))) (t1.trans (ScF.vA S _ (by omega))) t2 (fun o ho => by
            show upd (gA S 129) i (nI (h i)) o = H o
            rw [upd_i]
            by_cases e : o = i
            · rw [if_pos e, e]
              exact a1.symm
            · rw [if_neg e]
              exact t3 o (by omega))
          refine w_X12_hand_91 ⟨hi20, fun z => ?_, fun z => ?_⟩
          · rw [nI_clamp (by omega), nI_add]
            have : Cn (i + 1) = Cn i := by
              rw [a5]
              have : ¬ h i = Cn i := fun e => z (by rw [e])
              omega
            rw [this] at go
            exact go
          · rw [nI_clamp (by omega), nI_add, nI_add]
            rw [nI_inj (by omega) (by omega)] at z
            have : Cn (i + 1) = Cn i + 1 := by
              rw [a5]
              omega
            rw [this] at go
            exact go
        have inner : ∀ j, j ≤ h i → RI E (d + 4) 215 67 [(0, .ref 80), (1, .int (nI s)), (2, .int t), (3, .int (nI (Cn i))), (4, .int (nI i)), (5, .int (nI j))] S Q := by
          intro j hj
          refine lp_up (n := h i) (P := fun j => RI E (d + 4) 215 67 [(0, .ref 80), (1, .int (nI s)), (2, .int t), (3, .int (nI (Cn i))), (4, .int (nI i)), (5, .int (nI j))] S Q) (w_X12_hand_67 ?_) (fun j hj ih => w_X12_hand_67 ?_) hj
          · rw [nI_leI (by omega) (by omega)]
            refine ⟨fun _ => fin, fun z => k_ofHandM (K := K) tJ t2 hL (by rw [tn]; omega) (by omega) tF (fun _ => ⟨fun _ => fin, fun z => absurd z nI_01⟩) (fun q => absurd ((eq _).mpr (a3 (by omega))) q)⟩
          · rw [nI_leI (by omega) (by omega), nI_add]
            exact ⟨fun z => by omega, fun z => k_ofHandM (K := K) tJ t2 hL (by rw [tn]; omega) (by omega) tF (fun q => absurd ((eq _).mp q) (a4 j hj)) (fun q => ⟨fun z => absurd rfl z, fun _ => ih⟩)⟩
        exact inner 0 (Nat.zero_le _)
      · rw [tu] at q
        obtain ⟨a1, a2⟩ := r1 (fun z => z q)
        rw [a2] at ih
        refine ih S t1 t2 (fun o ho => ?_)
        by_cases e : o = i
        · rw [e, t4, a1]
        · exact t3 o (by omega)
  have := key 0 (Nat.zero_le _) u (ScF.refl u) hsp (fun o ho => absurd ho (Nat.not_lt_zero _))
  rw [hR.1] at this
  exact this
theorem uV_47 {v : xV} {c K : Nat} {t : Int32} (hJ : J c v) (hK : K ≤ nS v) (hX : ∀ s, s < K → FX v s t) : ∀ s, s < K → (∀ l, l < 26 → gA v 47 (26 * s + l) = uV v s t l) ∧ gA v 48 s = nI (cntU (uV v s t) 26) := by
  intro s hs
  obtain ⟨N, hN', hN⟩ := hJ.pl s (by omega)
  obtain ⟨-, -, -, -, -, x6, x7⟩ := (hX s hs).c hN hN'
  have us : uV v s t = rU v s t N := by
    unfold uV
    rw [hN, nI_clamp (by omega)]
  rw [us]
  exact ⟨x6, x7⟩
theorem p_hand {E : Nat × (Nat → Int32)} {d : Nat} {c : Nat} {v : xV} {x t : Int32} (hJ : J c v) (hc : c < 2 ^ 30) : P2 E (d + 13) 132 [.ref 0, .int x, .int t] 215 [.ref 80, .int x, .int t] v (J c) := by
  have no : (¬ ∃ s, s < nS v ∧ x = nI s ∧ gA v 29 s ≤ t) → KI E (d + 13) 215 [.ref 80, .int x, .int t] v (fun y2 v2 => (-1 : Int32) = y2 ∧ J c v2) := by
    intro hno
    refine KI.of ok_215 (Nat.le_of_ble_eq_true rfl) (w_X12_hand_0 (k_knM (hJ.thr _) (fun s hs ex hd => absurd ⟨s, hs, ex, hd⟩ hno) (fun h => ⟨fun h => absurd rfl h, fun _ => ⟨rfl, hJ⟩⟩)))
  refine KI.of ok_132 (Nat.le_of_ble_eq_true rfl) (w_X11_hand_0 (k_knX hJ (fun s hs ex hd => ⟨fun _ => ?_, fun h => absurd h nI_01⟩) (fun h => ⟨fun h => absurd rfl h, fun _ => no h⟩)))
  subst ex
  have hS20 := hJ.num.1.2
  refine k_lookAllF hJ (fun v1 K hK f1 f2 f3 => ?_)
  have hs1 : s < nS v1 := by rw [f1.n.1]; exact hs
  have hd1 : gA v1 29 s ≤ t := by rw [f1.2.2.1 29 (by decide)]; exact hd
  have hsK : s < K := (f2.kn hK s hs1).mp hd1
  have hK1 := hK.1
  have hK20 := f2.num.1.2
  refine k_setX2 f2 hK f3 (fun n w cb L G hn hy sp1 sp2 => ?_)
  have hw : J c w := f2.sc hy.sc
  have bd := hy.sc.bd
  have u47 := uV_47 f2 hK1 f3
  have b47 : gA w 47 = gA v1 47 := bd.2.2.1 47 (by decide)
  have b48 : gA w 48 = gA v1 48 := bd.2.2.1 48 (by decide)
  refine k_giveHands (A := fun a b => cmpI (uV v1 a t) (uV v1 b t)) (us := fun s => ¬ cntU (uV v1 s t) 26 = 0) (K := K) sp1 hw.num.1.1 hw.num.1.2 (by rw [bd.n.1, bd.2.2.1 29 (by decide)]; exact hK) (fun a b ha hb => ?_) (fun s hs => ?_) (fun w2 h Cn s1 s2 => ⟨vp_in_nI (by omega) (by decide), ?_⟩)
  · rw [b47]
    exact cmp_congr (fun l hl => (u47 a ha).1 l hl) (fun l hl => (u47 b hb).1 l hl)
  · rw [b48, (u47 s hs).2, nI_leI (by have := cntU_le (uV v1 s t) 26; omega) (by decide)]
    omega
  · rw [nI_clamp (by omega)]
    have hw2 : J c w2 := hw.sc s1
    have bd2 := bd.trans s1.bd
    have e29 : gA (v_I w2 80 0 (nI 0)) 29 = gA v1 29 := bd2.2.2.1 29 (by decide)
    refine KI.of ok_215 (Nat.le_of_ble_eq_true rfl) (w_X12_hand_0 (k_knM (hw2.thr _) (fun s' _ _ _ => ⟨fun _ => ?_, fun h => absurd h nI_01⟩) (fun h => absurd ⟨s, (bd2.n.1 ▸ hs1), rfl, by rw [e29]; exact hd1⟩ h)))
    refine k_takeM (v := v1) (w := v_I w2 80 0 (nI 0)) (bd2.trans (ScF.thr w2 _).bd) (hw2.thr _) hc hK hn f3 sp2 (fun u b1 b2 b3 b4 => ?_)
    have tu : ∀ a, uV u a t = uV v1 a t := fun a => uV.bd b1 a t
    have e1 : (fun a b => cmpI (uV u a t) (uV u b t)) = fun a b => cmpI (uV v1 a t) (uV v1 b t) := by
      funext a b
      rw [tu, tu]
    have e2 : (fun s => ¬ cntU (uV u s t) 26 = 0) = fun s => ¬ cntU (uV v1 s t) 26 = 0 := by
      funext a
      rw [tu]
    refine k_handM (K := K) (L := L) (G := G) (cb := cb) (H := gA w2 75) (h := h) (Cn := Cn) b2 b4 sp1.2.2 (by rw [b1.n.1, b1.2.2.1 29 (by decide)]; exact hK) hsK (fun s hs => (b3 s hs).2) (by rw [e1, e2]; exact s2) (fun w3 h3 => ⟨rfl, h3⟩)

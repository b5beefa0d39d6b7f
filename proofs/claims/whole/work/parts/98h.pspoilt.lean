/-! spoilt: both sides agree -/
theorem SolD.zero (v : xV) (K : Nat) : SolD v K 0 (fun _ => 0) := ⟨fun k hk => ⟨(show 0 < 200 by decide), fun f hf => absurd hf (Nat.not_lt_zero _), fun _ j _ ⟨f, hf, _⟩ => absurd hf (Nat.not_lt_zero _)⟩, fun _ _ _ => Nat.le_refl _⟩
theorem YrF.trans {u v w : xV} (h : YrF u v) (h' : YrF v w) : YrF u w := ⟨h'.1.trans h.1, h'.2.1.trans h.2.1, fun a b hn => (h'.2.2.1 a b hn).trans (h.2.2.1 a b hn), fun j hj => (h'.2.2.2.1 j hj).trans (h.2.2.2.1 j hj), fun j hj => (h'.2.2.2.2 j hj).trans (h.2.2.2.2 j hj)⟩
theorem YrF.a72 (v : xV) (g : Nat → Int32) : YrF v (v_A v 72 g) := ⟨rfl, rfl, fun _ _ _ => rfl, fun j hj => by rw [gA_A, if_neg (by omega)], fun _ _ => rfl⟩
theorem ys_72 (u : xV) (x : Int32) (F T H g f : Nat → Int32) (B : Nat → Int64) : v_A (ys (v_A u 72 g) x F T H B) 72 f = ys (v_A u 72 f) x F T H B := by
  show v_B (v_A (v_A (v_A (v_A (v_A (v_I u 67 11 x) 72 g) 68 F) 69 T) 70 H) 72 f) 71 B = v_B (v_A (v_A (v_A (v_A (v_I u 67 11 x) 72 f) 68 F) 69 T) 70 H) 71 B
  simp (disch := decide) only [vA_c, vA_s]
theorem k_firstSp {E : Nat × (Nat → Int32)} {d : Nat} {v : xV} {c K n : Nat} {t : Int32} {Q : Int32 → xV → Prop} (hJ : J c v) (hK : isKn (gA v 29) t (nS v) K) (hn : isKn (gA v 66) t (nF v) n) (hX : ∀ s, s < K → FX v s t) (hno : ¬ ∃ y, SolD v K n y) (kk : ∀ f w, f < n → YrF v w → (∀ j, j ≤ f → ∃ y, SolD v K j y) → (¬ ∃ y, SolD v K (f + 1) y) → Q (nI f) w) : KI E (d + 5) 91 [.ref 67, .int t] v Q := by
  obtain ⟨⟨n1, n1'⟩, -, -, -, -, n6, n6'⟩ := hJ.num
  refine KI.of ok_91 (Nat.le_of_ble_eq_true rfl) (w_X10_firstSpoilt_0 (k_factKn n6 n6' (fun n' hn' => k_begin n1 n1' (fun K' F T H B hK' hL hS => ?_))))
  have en : n' = n := hn'.uniq hn
  have eK : K' = K := hK'.uniq hK
  subst en eK
  have hn1 := hn.1
  have hHX := hJ.hear hK hX
  have key : ∀ i, i ≤ n' → ∀ g F T H B, LmI v i F T → SlI v K' (fun f _ => f < i) H B → (∀ j, j ≤ i → ∃ y, SolD v K' j y) → RI E (d + 5) 91 16 [(0, .ref 67), (2, .int (nI n')), (3, .int (nI i))] (ys (v_A (v_I v 67 10 (nI K')) 72 g) (nI i) F T H B) Q := by
    intro i hi
    refine lp_up (n := n') (P := fun i => ∀ g F T H B, LmI v i F T → SlI v K' (fun f _ => f < i) H B → (∀ j, j ≤ i → ∃ y, SolD v K' j y) → RI E (d + 5) 91 16 [(0, .ref 67), (2, .int (nI n')), (3, .int (nI i))] (ys (v_A (v_I v 67 10 (nI K')) 72 g) (nI i) F T H B) Q) (fun g F T H B hL hS hy => absurd (hy n' (Nat.le_refl _)) hno) (fun i hi ih g F T H B hL hS hy => w_X10_firstSpoilt_16 ⟨fun z => ?_, fun _ => ?_⟩) hi
    · exfalso
      rw [nI_leI (by omega) (by omega)] at z
      omega
    · refine k_hear (v := v_A (v_I v 67 10 (nI K')) 72 g) (N := nF v) hHX (by omega) hL hS (fun F' T' H' B' hL' hS' => ?_)
      have hY : YearX (ys (v_A (v_I v 67 10 (nI K')) 72 g) (nI (i + 1)) F' T' H' B') K' (i + 1) := hJ.yearx hK (by omega)
      have hiff : ∀ y, SolY (ys (v_A (v_I v 67 10 (nI K')) 72 g) (nI (i + 1)) F' T' H' B') K' (i + 1) y ↔ SolD v K' (i + 1) y := SolY.iff (v := v_A v 72 g) (x := nI (i + 1)) hL' hS'
      refine k_settleLeast hY (fun L f h1 h2 => ⟨fun _ => ?_, fun z => absurd z nI_01⟩) (fun f h2 => ⟨fun z => absurd rfl z, fun _ => ?_⟩)
      · rw [ys_72, nI_add]
        refine ih f F' T' H' B' hL' hS' (fun j hj => ?_)
        rcases Nat.lt_or_ge i j with q | q
        · have : j = i + 1 := by omega
          subst this
          exact ⟨L, (hiff L).mp h2.1⟩
        · exact hy j q
      · rw [ys_72]
        exact kk i _ hi ((YrF.a72 v f).trans (YrF.ys (v_A v 72 f) (nI (i + 1)) K' F' T' H' B')) hy (fun ⟨y, h⟩ => h2 ⟨y, (hiff y).mpr h⟩)
  have := key 0 (Nat.zero_le _) (gA (v_I v 67 10 (nI K')) 72) F T H B hL hS (fun j hj => by
    have : j = 0 := by omega
    subst this
    exact ⟨_, SolD.zero v K'⟩)
  rw [vAself] at this
  exact this
theorem p_spoilt {E : Nat × (Nat → Int32)} {d : Nat} {c : Nat} {v : xV} {t : Int32} (hJ : J c v) (hc : c < 2 ^ 30) : P2 E (d + 13) 136 [.ref 0, .int t] 210 [.ref 80, .int t] v (J c) := by
  refine KI.of ok_136 (Nat.le_of_ble_eq_true rfl) (w_X11_spoilt_0 (k_lookAllF hJ (fun v1 K hK f1 f2 f3 => ?_)))
  refine k_setX f2 hK f3 (fun n w L G hn hy h1 h2 h3 => ⟨fun h => absurd (h1.symm.trans h) nI_01, fun _ => ?_⟩) (fun n w hn hy h1 h2 => ⟨fun _ => ?_, fun h => absurd h1 h⟩)
  · have hw : J c w := f2.sc hy.sc
    have bd := hy.sc.bd
    refine KI.of ok_210 (Nat.le_of_ble_eq_true rfl) (w_X12_spoilt_0 ?_)
    refine k_setM2 (v := v1) (w := v_I w 80 0 (nI 0)) (bd.trans (ScF.thr w _).bd) (hw.thr _) hc hK hn f3 (fun u Y L' G' b1 b2 b3 b4 b5 b6 b7 => ⟨fun h => absurd (b4.symm.trans h) nI_01, fun _ => ⟨rfl, b2⟩⟩) (fun u b1 b2 b3 b4 b5 => absurd ⟨L, h3.1.1⟩ b5)
  · have hw : J c w := f2.sc hy.sc
    have bd := hy.sc.bd
    have hn1 := hn.1
    have n80 := f2.num.2.2.2.2.2.2
    refine k_firstSp (n := n) hw (by rw [bd.2.2.1 29 (by decide), bd.n.1]; exact hK) (by rw [bd.2.2.1 66 (by decide), bd.n.2.2.2.2.2.2]; exact hn) (fun s hs => (f3 s hs).bd bd) (fun ⟨y, h⟩ => h2 ⟨y, (SolD.bd bd K n y).mp h⟩) (fun f w' hf hy' hsat huns => ?_)
    have hw' : J c w' := hw.sc hy'.sc
    have bd' := bd.trans hy'.sc.bd
    refine KI.of ok_210 (Nat.le_of_ble_eq_true rfl) (w_X12_spoilt_0 ?_)
    refine k_setM2 (v := v1) (w := v_I w' 80 0 (nI 0)) (bd'.trans (ScF.thr w' _).bd) (hw'.thr _) hc hK hn f3 (fun u Y L' G' b1 b2 b3 b4 b5 b6 b7 => absurd ⟨L', b6.1.1⟩ h2) (fun u b1 b2 b3 b4 b5 => ⟨fun _ => ?_, fun h => absurd b4 h⟩)
    have key : ∀ i, i ≤ f → ∀ u, BdF v1 u → J c u → RI E (d + 13) 210 25 [(0, .ref 80), (1, .int t), (2, .int (nI i))] u (fun y2 v2 => nI f = y2 ∧ J c v2) := by
      have step : ∀ i, i ≤ f → (∀ u, BdF v1 u → J c u → i < f → RI E (d + 13) 210 25 [(0, .ref 80), (1, .int t), (2, .int (nI (i + 1)))] u (fun y2 v2 => nI f = y2 ∧ J c v2)) → ∀ u, BdF v1 u → J c u → RI E (d + 13) 210 25 [(0, .ref 80), (1, .int t), (2, .int (nI i))] u (fun y2 v2 => nI f = y2 ∧ J c v2) := by
        intro i hi ih u b1 b2
        refine w_X12_spoilt_25 ?_
        have e126 : gA u 126 = gA v1 66 := by rw [← b2.2.2.1.2.1.2.2.2.2.2, b1.2.2.1 66 (by decide)]
        have e66 : gA u 66 = gA v1 66 := b1.2.2.1 66 (by decide)
        have hk := hn.2.1 i (by omega)
        rw [nI_clamp (by omega), e126]
        refine ⟨vp_in_nI (by omega) (by decide), fun h => absurd hk (i_nle.mpr h), fun _ => ?_⟩
        have hnu : isKn (gA u 66) t (nF u) n := by
          rw [e66, b1.n.2.2.2.2.2.2]
          exact hn
        refine k_setM (n := i + 1) b2 hc (by rw [b1.2.2.1 29 (by decide), b1.n.1]; exact hK) (by rw [b1.n.2.2.2.2.2.2]; omega) (fun g hg => ?_) (fun s hs => (f3 s hs).bd b1) (fun u' Y L' G' c1 c2 c3 c4 c5 c6 c7 => ⟨fun _ => ?_, fun h => absurd (c4.symm.trans h) nI_01⟩) (fun u' c1 c2 c3 c4 c5 => ⟨fun h => absurd c4 h, fun _ => ⟨?_, c2⟩⟩)
        · have g80 := b2.num.2.2.2.2.2.2
          rw [nI_leI (by omega) (by omega)]
          have := b2.knF hnu g hg
          exact ⟨fun h => by omega, fun h => ⟨by omega, this.mpr (by omega)⟩⟩
        · rw [nI_add]
          rcases Nat.lt_or_ge i f with q | q
          · exact ih u' (b1.trans c1) c2 q
          · have : i = f := by omega
            subst this
            exact absurd ⟨L', (SolD.bd bd K _ L').mpr ((SolD.bd b1 K _ L').mp c6.1.1)⟩ huns
        · rcases Nat.lt_or_ge i f with q | q
          · obtain ⟨y, hy⟩ := hsat (i + 1) q
            exact absurd ⟨y, (SolD.bd b1 K _ y).mpr ((SolD.bd bd K _ y).mp hy)⟩ c5
          · have : i = f := by omega
            rw [this]
      intro i hi
      refine lp_up (n := f) (P := fun i => ∀ u, BdF v1 u → J c u → RI E (d + 13) 210 25 [(0, .ref 80), (1, .int t), (2, .int (nI i))] u (fun y2 v2 => nI f = y2 ∧ J c v2)) (step f (Nat.le_refl _) (fun u _ _ h => absurd h (Nat.lt_irrefl _))) (fun i hi ih => step i (by omega) (fun u b1 b2 _ => ih u b1 b2)) hi
    exact key 0 (Nat.zero_le _) u b1 b2

/-! persons: both sides agree -/
theorem k_partAll {E : Nat × (Nat → Int32)} {d : Nat} {v w : xV} {c K n M : Nat} {t name : Int32} {cb : Bool} {L G : Nat → Nat} {q : Nat → Nat} {l : List Nat} {P : Nat → Bool} {tr : Nat → Int32} {Q : xV → Prop} (hF : BdF v w) (hw : J c w) (hc : c < 2 ^ 30) (hK : isKn (gA v 29) t (nS v) K) (hn : isKn (gA v 66) t (nF v) n) (hX : ∀ s, s < K → FX v s t) (hsp : SpOK v K n cb L G) (hL : ∀ k, k < 52 → L k < 200 ∧ G k < 200) (htr : tr = fun s => gA v 46 (3 * s + 1)) (hP : ∀ s, P s = decide (gA v 46 (3 * s) = name)) (hl : l = mbl P K) (hpt : PtI (Tl l (TwX tr (ApX cb L G))) l.length M q) (kk : ∀ u, BdF v u → J c u → gI u 80 82 = nI l.length → (∀ i x, l[i]? = some x → gA u 132 i = nI x) → gI u 80 83 = nI M → (∀ i, i < l.length → gA u 133 i = nI (q i)) → Q u) : KV E (d + 8) 219 [.ref 80, .int name, .int t] w Q := by
  have hK1 := hK.1
  have hlen : l.length ≤ 10 := by
    rw [hl]
    exact mbl_len P K
  have hlK : ∀ x, x ∈ l → x < K := by
    rw [hl]
    exact mbl_lt P K
  refine KV.of ok_219 (Nat.le_of_ble_eq_true rfl) (w_X12_partAll_0 (k_takeM (v := v) (w := w) hF hw hc hK hn hX hsp (fun u b1 b2 b3 b4 => ?_)))
  have n1 := b1.n.1
  have hS20 := b2.num.1.2
  have hCu : CtM c K t cb L G u := ⟨b2, by omega, b3, b4, hL⟩
  have e103 : gA u 103 = gA v 29 := by rw [← b2.1.S.2.1.2.2.2, b1.2.2.1 29 (by decide)]
  have e46 : gA u 46 = gA v 46 := b1.2.2.1 46 (by decide)
  have hKu : isKn (gA u 29) t (nS u) K := by
    rw [b1.2.2.1 29 (by decide), n1]
    exact hK
  have hkn := b2.kn hKu
  rw [b1.2.2.1 29 (by decide)] at hkn
  -- behind the gathering
  have aft : ∀ S, ScF u S → CtM c K t cb L G S → gI S 80 82 = nI l.length → gI S 80 83 = nI 0 → (∀ i x, l[i]? = some x → gA S 132 i = nI x) → RV E (d + 8) 219 83 [(0, .ref 80)] S Q := by
    intro S s1 sC s2 s3 s4
    have S46 : gA S 46 = gA v 46 := (s1.2.2.1 46 (by decide)).trans e46
    refine w_X12_partAll_83 ?_
    rw [s2, nI_inj (by omega) (by decide)]
    refine ⟨fun z => ?_, fun z => ?_⟩
    · rcases hpt with ⟨p1, p2⟩ | ⟨p1, p2, p3, p4⟩
      · exact absurd p1 z
      · have copy : ∀ i, i ≤ l.length → ∀ W, ScF u W → gI W 80 82 = nI l.length → (∀ i x, l[i]? = some x → gA W 132 i = nI x) → gI W 80 83 = nI M → (∀ i, i < l.length → gA W 134 i = nI (q i)) → (∀ j, j < i → gA W 133 j = nI (q j)) → RV E (d + 8) 219 122 [(0, .ref 80), (3, .int (nI i))] W Q := by
          intro i hi
          refine lp_up (n := l.length) (P := fun i => ∀ W, ScF u W → gI W 80 82 = nI l.length → (∀ i x, l[i]? = some x → gA W 132 i = nI x) → gI W 80 83 = nI M → (∀ i, i < l.length → gA W 134 i = nI (q i)) → (∀ j, j < i → gA W 133 j = nI (q j)) → RV E (d + 8) 219 122 [(0, .ref 80), (3, .int (nI i))] W Q) (fun W w1 w2 w3 w4 w5 w6 => w_X12_partAll_122 ?_) (fun i hi ih W w1 w2 w3 w4 w5 w6 => w_X12_partAll_122 ?_) hi
          · rw [w2]
            exact ⟨fun _ => kk W (b1.trans w1.bd) (b2.sc w1) w2 w3 w4 w6, fun z => absurd (nI_le (Nat.le_refl _) (by omega)) z⟩
          · rw [w2, nI_leI (by omega) (by omega), nI_clamp (by omega), nI_add, w5 i hi]
            refine ⟨fun z => by omega, fun _ => ⟨vp_in_nI (by omega) (by decide), vp_in_nI (by omega) (by decide), ih _ (w1.trans (ScF.vA W _ (by omega))) w2 w3 w4 w5 (fun j hj => ?_)⟩⟩
            show upd (gA W 133) i (nI (q i)) j = nI (q j)
            rw [upd_i]
            by_cases e : j = i
            · rw [if_pos e, e]
            · rw [if_neg e]
              exact w6 j (by omega)
        have loop : ∀ i, i ≤ M - 1 → ∀ W, ScF u W → CtM c K t cb L G W → gI W 80 82 = nI l.length → (∀ i x, l[i]? = some x → gA W 132 i = nI x) → gI W 80 83 = nI (i + 1) → RV E (d + 8) 219 96 [(0, .ref 80)] W Q := by
          have stp : ∀ i, i ≤ M - 1 → (i < M - 1 → ∀ W, ScF u W → CtM c K t cb L G W → gI W 80 82 = nI l.length → (∀ i x, l[i]? = some x → gA W 132 i = nI x) → gI W 80 83 = nI (i + 1 + 1) → RV E (d + 8) 219 96 [(0, .ref 80)] W Q) → ∀ W, ScF u W → CtM c K t cb L G W → gI W 80 82 = nI l.length → (∀ i x, l[i]? = some x → gA W 132 i = nI x) → gI W 80 83 = nI (i + 1) → RV E (d + 8) 219 96 [(0, .ref 80)] W Q := by
            intro i hi ih W w1 wC w2 w3 w4
            have W46 : gA W 46 = gA v 46 := (w1.2.2.1 46 (by decide)).trans e46
            refine w_X12_partAll_96 ?_
            rw [w4]
            refine k_into (tr := tr) (T := Tl l (TwX tr (ApX cb L G))) (M := i + 1) wC (by rw [htr]; funext s; exact (congrFun W46 (3 * s + 1)).symm) hlen z hlK w3 w2 (by omega) rfl (fun q' f g h1 h2 => ⟨fun _ => ?_, fun z => absurd z nI_01⟩) (fun f g h1 => ⟨fun z => absurd rfl z, fun _ => ?_⟩)
            · by_cases e : i + 1 = M
              · subst e
                have hu := Fst.uniq h1 p4
                refine copy 0 (Nat.zero_le _) (pt W f g) (w1.trans (pt_sc W f g)) w2 w3 w4 (fun j hj => ?_) (fun j hj => absurd hj (Nat.not_lt_zero _))
                show f j = nI (q j)
                rw [h2 j hj, hu j hj]
              · exact absurd h1.1.1 (p3 (i + 1) q' (by omega))
            · by_cases e : i + 1 = M
              · subst e
                exact absurd p4.1.1 (h1 q)
              · rw [show gI (pt W f g) 80 83 = nI (i + 1) from w4, nI_add]
                exact ih (by omega) _ ((w1.trans (pt_sc W f g)).trans (ScF.vI _ _ (by omega))) (wC.sc ((pt_sc W f g).trans (ScF.vI _ _ (by omega))) rfl rfl) w2 w3 rfl
          intro i hi
          exact lp_up (n := M - 1) (P := fun i => ∀ W, ScF u W → CtM c K t cb L G W → gI W 80 82 = nI l.length → (∀ i x, l[i]? = some x → gA W 132 i = nI x) → gI W 80 83 = nI (i + 1) → RV E (d + 8) 219 96 [(0, .ref 80)] W Q) (stp (M - 1) (Nat.le_refl _) (fun h => absurd h (Nat.lt_irrefl _))) (fun i hi ih => stp i (by omega) (fun _ => ih)) hi
        exact loop 0 (Nat.zero_le _) _ (s1.trans (ScF.vI S _ (by omega))) (sC.sc (ScF.vI S _ (by omega)) rfl rfl) s2 s4 rfl
    · rcases hpt with ⟨p1, p2⟩ | ⟨p1, p2, p3, p4⟩
      · subst p2
        exact kk S (b1.trans s1.bd) (b2.sc s1) s2 s4 s3 (fun i hi => by omega)
      · omega
  -- the gathering
  refine lp_up (n := nS u) (P := fun i => ∀ S, ScF u S → CtM c K t cb L G S → gI S 80 82 = nI (mbl P (min i K)).length → gI S 80 83 = nI 0 → (∀ j x, (mbl P (min i K))[j]? = some x → gA S 132 j = nI x) → RV E (d + 8) 219 17 [(0, .ref 80), (1, .int name), (2, .int t), (3, .int (nI i))] S Q) (fun S s1 sC s2 s3 s4 => w_X12_partAll_17 ⟨fun _ => ?_, fun z => ?_⟩) (fun i hi ih S s1 sC s2 s3 s4 => w_X12_partAll_17 ⟨fun z => ?_, fun _ => ⟨fun z => ?_, fun z => ?_⟩⟩) (Nat.zero_le _) _ ((ScF.vI u _ (by omega)).trans (ScF.vI _ _ (by omega))) (hCu.sc ((ScF.vI u _ (by omega)).trans (ScF.vI _ _ (by omega))) rfl rfl) (by rw [Nat.zero_min]; rfl) rfl (fun j x e => by rw [Nat.zero_min, show mbl P 0 = [] from rfl, List.getElem?_nil] at e; exact nomatch e)
  · rw [Nat.min_eq_right (by omega), ← hl] at s2 s4
    exact aft S s1 sC s2 s3 s4
  · rw [sC.1.numM.1, s1.n.1] at z
    exact absurd (nI_le (Nat.le_refl _) (by omega)) z
  · rw [sC.1.numM.1, s1.n.1, nI_leI (by omega) (by omega)] at z
    omega
  · have h10 := mbl_len P (min i K)
    rw [s2, nI_leI (by omega) (by omega)] at z
    have hf := mbl_full z (K - min i K)
    rw [show min i K + (K - min i K) = K by omega, ← hl] at hf
    rw [← hf] at s2 s4
    exact aft S s1 sC s2 s3 s4
  · have h10 := mbl_len P (min i K)
    rw [s2, nI_leI (by omega) (by omega)] at z
    have e103S : gA S 103 i = gA v 29 i := by rw [s1.2.2.1 103 (by decide), e103]
    have S46 : gA S 46 = gA v 46 := (s1.2.2.1 46 (by decide)).trans e46
    rw [nI_clamp (by omega), e103S, nI_add]
    refine ⟨vp_in_nI (by omega) (by decide), fun z2 => ?_, fun z2 => ?_⟩
    · have hn : ¬ i < K := fun h => absurd ((hkn i (by omega)).mpr h) (i_nle.mpr z2)
      refine ih S s1 sC ?_ s3 ?_
      · rw [show min (i + 1) K = min i K by omega]
        exact s2
      · rw [show min (i + 1) K = min i K by omega]
        exact s4
    · have hiK : i < K := (hkn i (by omega)).mp (i_nlt.mp z2)
      rw [show min i K = i by omega] at s2 s4 z h10
      refine k_firstMJ (t := t) (j := 0) sC.1 (by rw [s1.n.1]; omega) (by decide) (sC.2.2.1 i hiK).1 (sC.2.2.1 i hiK).2 ?_
      rw [S46, Nat.add_zero, s2]
      refine ⟨fun e => ?_, fun e => ?_⟩
      · have hm := mbl_yes (P := P) (i := i) (by omega) (by rw [hP, decide_eq_true_eq]; exact e)
        rw [nI_clamp (by omega), nI_add]
        refine ⟨vp_in_nI (by omega) (by decide), ih _ ((s1.trans (ScF.vA S _ (by omega))).trans (ScF.vI _ _ (by omega))) (sC.sc ((ScF.vA S _ (by omega)).trans (ScF.vI _ _ (by omega))) rfl rfl) ?_ s3 (fun j x ex => ?_)⟩
        · rw [show min (i + 1) K = i + 1 by omega, hm, List.length_append, List.length_singleton]
          rfl
        · rw [show min (i + 1) K = i + 1 by omega, hm, snoc_at] at ex
          show upd (gA S 132) (mbl P i).length (nI i) j = nI x
          rw [upd_i]
          by_cases e2 : j = (mbl P i).length
          · rw [if_pos e2] at ex ⊢
            cases ex
            rfl
          · rw [if_neg e2] at ex ⊢
            exact s4 j x ex
      · have hm := mbl_no (P := P) (i := i) (by rw [hP, decide_eq_true_eq]; exact e)
        refine ih S s1 sC ?_ s3 ?_
        · rw [show min (i + 1) K = i + 1 by omega, hm]
          exact s2
        · rw [show min (i + 1) K = i + 1 by omega, hm]
          exact s4

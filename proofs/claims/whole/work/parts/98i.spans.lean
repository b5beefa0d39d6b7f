/-! spans taken: apart or not -/
theorem ScF.vA (v : xV) {j : Nat} (f : Nat → Int32) (hj : (68 ≤ j ∧ j ≤ 78) ∨ (127 ≤ j ∧ j < 139)) : ScF v (v_A v j f) := by
  refine ⟨rfl, fun _ _ _ => rfl, fun i hi => ?_, fun _ _ => rfl⟩
  rw [gA_A, if_neg (by omega)]
theorem ScF.vI (v : xV) {j k : Nat} (x : Int32) (hj : j = 67 ∨ j = 74 ∨ (j = 80 ∧ 71 ≤ k)) : ScF v (v_I v j k x) := by
  refine ⟨rfl, fun a b h => ?_, fun i hi => rfl, fun _ _ => rfl⟩
  rw [gI_I]
  by_cases e : a = j
  · rw [if_pos e]
    by_cases e2 : b = k
    · exact absurd (by omega) h
    · rw [if_neg e2]
  · rw [if_neg e]
theorem sub_gt {a b : Nat} (ha : a ≤ 200) (hb : b ≤ 200) : nI 60 < nI a - nI b ↔ b + 60 < a := by
  have m : (nI a - nI b).toInt = (a : Int) - (b : Int) := by
    rw [Int32.toInt_sub, nI_toInt (by omega), nI_toInt (by omega)]
    apply Int.bmod_eq_of_le
    · omega
    · omega
  rw [Int32.lt_iff_toInt_lt, m, nI_toInt (by decide)]
  omega
theorem sub_le60 {a b : Nat} (ha : a ≤ 200) (hb : b ≤ 200) : nI a - nI b ≤ nI 60 ↔ ¬ b + 60 < a := by
  rw [← sub_gt ha hb]
  exact i_nlt.symm
def ApX (cb : Bool) (L G : Nat → Nat) (a b : Nat) : Prop := cb = true ∧ (G b + 60 < L a ∨ G a + 60 < L b)
def SpX (w : xV) (cb : Bool) (L G : Nat → Nat) : Prop := gI w 67 12 = bB cb ∧ (cb = true → ∀ k, k < 52 → gA w 72 k = nI (L k) ∧ gA w 73 k = nI (G k)) ∧ ∀ k, k < 52 → L k < 200 ∧ G k < 200
def SpOK (v : xV) (K n : Nat) (cb : Bool) (L G : Nat → Nat) : Prop := (cb = true ∧ LGd v K n L G) ∨ (cb = false ∧ ¬ ∃ y, SolD v K n y)
def SpM (w : xV) (K : Nat) (cb : Bool) (L G : Nat → Nat) : Prop := ∀ s, s < K → gA w 130 s = nI (if cb = true then L s else 0) ∧ gA w 131 s = nI (if cb = true then G s else 200)
theorem k_apartX {E : Nat × (Nat → Int32)} {d : Nat} {v : xV} {cb : Bool} {L G : Nat → Nat} {a b : Nat} {Q : Int32 → xV → Prop} (h : SpX v cb L G) (ha : a < 52) (hb : b < 52) (k1 : ApX cb L G a b → Q (nI 1) v) (k0 : ¬ ApX cb L G a b → Q (nI 0) v) : KI E d 93 [.ref 67, .int (nI a), .int (nI b)] v Q := by
  obtain ⟨h1, h2, h3⟩ := h
  refine KI.of ok_93 (Nat.le_of_ble_eq_true rfl) (w_X10_areApart_0 ?_)
  rw [h1]
  cases cb with
  | false => exact ⟨fun _ => k0 (fun q => absurd q.1 (by decide)), fun q => absurd rfl q⟩
  | true =>
    have ga := h2 rfl a ha
    have gb := h2 rfl b hb
    have la := h3 a ha
    have lb := h3 b hb
    refine ⟨fun q => absurd q nI_01, fun _ => ⟨vp_in_nI ha (by decide), vp_in_nI hb (by decide), ?_⟩⟩
    rw [nI_clamp (by omega), nI_clamp (by omega), ga.1, gb.2, ga.2, gb.1, sub_gt (by omega) (by omega), sub_le60 (by omega) (by omega)]
    refine ⟨fun q => k1 ⟨rfl, Or.inl q⟩, fun q => ⟨vp_in_nI hb (by decide), vp_in_nI ha (by decide), fun q2 => k0 (fun r => ?_), fun q2 => k1 ⟨rfl, Or.inr ?_⟩⟩⟩
    · have := r.2
      omega
    · omega
theorem k_apartM {E : Nat × (Nat → Int32)} {d : Nat} {v : xV} {cb : Bool} {L G : Nat → Nat} {K a b : Nat} {Q : Int32 → xV → Prop} (h : SpM v K cb L G) (hL : ∀ k, k < 52 → L k < 200 ∧ G k < 200) (hK : K ≤ 20) (ha : a < K) (hb : b < K) (k1 : ApX cb L G a b → Q (nI 1) v) (k0 : ¬ ApX cb L G a b → Q (nI 0) v) : KI E d 212 [.ref 80, .int (nI a), .int (nI b)] v Q := by
  have ga := h a ha
  have gb := h b hb
  have la := hL a (by omega)
  have lb := hL b (by omega)
  refine KI.of ok_212 (Nat.le_of_ble_eq_true rfl) (w_X12_areApart_0 ⟨vp_in_nI (by omega) (by decide), vp_in_nI (by omega) (by decide), ?_⟩)
  rw [nI_clamp (by omega), nI_clamp (by omega), ga.1, gb.2, ga.2, gb.1]
  cases cb with
  | false =>
    exact ⟨fun q => absurd q (show ¬ nI 60 < nI 0 - nI 200 by decide), fun _ => ⟨vp_in_nI (by omega) (by decide), vp_in_nI (by omega) (by decide), fun _ => k0 (fun q => absurd q.1 (by decide)), fun q => absurd (show nI 0 - nI 200 ≤ nI 60 by decide) q⟩⟩
  | true =>
    rw [if_pos rfl, if_pos rfl, if_pos rfl, if_pos rfl, sub_gt (by omega) (by omega), sub_le60 (by omega) (by omega)]
    refine ⟨fun q => k1 ⟨rfl, Or.inl q⟩, fun q => ⟨vp_in_nI (by omega) (by decide), vp_in_nI (by omega) (by decide), fun q2 => k0 (fun r => ?_), fun q2 => k1 ⟨rfl, Or.inr ?_⟩⟩⟩
    · have := r.2
      omega
    · omega
theorem k_setX2 {E : Nat × (Nat → Int32)} {d : Nat} {v : xV} {c K : Nat} {t : Int32} {Q : xV → Prop} (hJ : J c v) (hK : isKn (gA v 29) t (nS v) K) (hX : ∀ s, s < K → FX v s t) (kk : ∀ n w cb L G, isKn (gA v 66) t (nF v) n → YrF v w → SpX w cb L G → SpOK v K n cb L G → Q w) : KV E (d + 5) 90 [.ref 67, .int t] v Q :=
  k_setX hJ hK hX (fun n w L G hn hy h1 h2 h3 => kk n w true L G hn hy ⟨h1, fun _ => h2, fun k hk => ⟨(h3.1.1.1 k hk).1, (h3.2.1.1 k hk).1⟩⟩ (Or.inl ⟨rfl, h3⟩)) (fun n w hn hy h1 h2 => kk n w false (fun _ => 0) (fun _ => 0) hn hy ⟨h1, fun h => absurd h (by decide), fun k hk => ⟨(show 0 < 200 by decide), (show 0 < 200 by decide)⟩⟩ (Or.inr ⟨rfl, h2⟩))
theorem k_takeM {E : Nat × (Nat → Int32)} {d : Nat} {v w : xV} {c K n : Nat} {t : Int32} {cb : Bool} {L G : Nat → Nat} {Q : xV → Prop} (hF : BdF v w) (hw : J c w) (hc : c < 2 ^ 30) (hK : isKn (gA v 29) t (nS v) K) (hn : isKn (gA v 66) t (nF v) n) (hX : ∀ s, s < K → FX v s t) (hsp : SpOK v K n cb L G) (kk : ∀ u, BdF v u → J c u → (∀ s, s < K → FX u s t ∧ FM u s t) → SpM u K cb L G → Q u) : KV E (d + 7) 211 [.ref 80, .int t] w Q := by
  have hK1 := hK.1
  have loop : ∀ (u : xV) (Y : Nat → Nat → Bool), BdF v u → J c u → gI u 80 72 = bB cb → (cb = true → YS (gA u 127) Y ∧ EndY Y L G ∧ ∀ k, k < 52 → L k < 200 ∧ G k < 200) → (∀ S, ScF u S → SpM S K cb L G → Q S) → RV E (d + 7) 211 11 [(0, .ref 80), (1, .int t), (2, .int (nI 0))] u Q := by
    intro u Y b1 b2 b4 b5 kk
    have hS20 := b2.num.1.2
    have n1 := b1.n.1
    have e103 : gA u 103 = gA v 29 := by rw [← b2.1.S.2.1.2.2.2, b1.2.2.1 29 (by decide)]
    have hKu : isKn (gA u 29) t (nS u) K := by
      rw [b1.2.2.1 29 (by decide), n1]
      exact hK
    have hkn := b2.kn hKu
    rw [b1.2.2.1 29 (by decide)] at hkn
    refine lp_up (n := nS u) (P := fun i => ∀ S, ScF u S → gA S 127 = gA u 127 → gI S 80 72 = bB cb → (∀ s, s < i → s < K → gA S 130 s = nI (if cb = true then L s else 0) ∧ gA S 131 s = nI (if cb = true then G s else 200)) → RV E (d + 7) 211 11 [(0, .ref 80), (1, .int t), (2, .int (nI i))] S Q) (fun S s1 s2 s3 s4 => w_X12_takeSpans_11 ⟨fun _ => kk S s1 (fun s hs => s4 s (by omega) hs), fun z => ?_⟩) (fun i hi ih S s1 s2 s3 s4 => w_X12_takeSpans_11 ⟨fun z => ?_, fun _ => ?_⟩) (Nat.zero_le _) u (ScF.refl u) rfl b4 (fun s hs => absurd hs (Nat.not_lt_zero _))
    · rw [(b2.sc s1).numM.1, s1.n.1] at z
      exact absurd (nI_le (Nat.le_refl _) (by omega)) z
    · rw [(b2.sc s1).numM.1, s1.n.1, nI_leI (by omega) (by omega)] at z
      omega
    · have hi20 : vp_in (nI i) 20 := vp_in_nI (by omega) (by decide)
      have nx : ∀ S' x y, S' = v_A (v_A S 130 (upd (gA S 130) i (nI x))) 131 (upd (gA S 131) i (nI y)) → (i < K → x = (if cb = true then L i else 0) ∧ y = (if cb = true then G i else 200)) → RV E (d + 7) 211 11 [(0, .ref 80), (1, .int t), (2, .int (nI (i + 1)))] S' Q := by
        intro S' x y eS' hxy
        subst eS'
        refine ih _ ((s1.trans (ScF.vA S _ (by omega))).trans (ScF.vA _ _ (by omega))) s2 s3 (fun s hs hsK => ?_)
        show upd (gA S 130) i (nI x) s = _ ∧ upd (gA S 131) i (nI y) s = _
        rw [upd_i, upd_i]
        by_cases e : s = i
        · subst e
          rw [if_pos rfl, if_pos rfl, (hxy hsK).1, (hxy hsK).2]
          exact ⟨rfl, rfl⟩
        · rw [if_neg e, if_neg e]
          exact s4 s (by omega) hsK
      have e103S : gA S 103 i = gA v 29 i := by rw [s1.2.2.1 103 (by decide), e103]
      rw [nI_clamp (by omega), nI_add, s3, e103S]
      cases cb with
      | false =>
        exact ⟨fun _ => ⟨hi20, fun _ => ⟨hi20, nx _ 0 200 rfl (fun _ => ⟨rfl, rfl⟩)⟩, fun z => absurd rfl z⟩, fun z => absurd rfl z⟩
      | true =>
        obtain ⟨y1, y2, y3⟩ := b5 rfl
        refine ⟨fun z => absurd z nI_01, fun _ => ⟨hi20, fun z => ?_, fun z => ?_⟩⟩
        · have hn : ¬ i < K := fun h => absurd ((hkn i (by omega)).mpr h) (i_nle.mpr z)
          exact ⟨hi20, fun z' => absurd z' nI_01, fun _ => ⟨hi20, fun _ => ⟨hi20, nx _ 0 200 rfl (fun h => absurd h hn)⟩, fun z' => absurd z z'⟩⟩
        · have hk := y3 i (by omega)
          have s2' : YS (gA S 127) Y := by
            rw [s2]
            exact y1
          refine k_leastE (k := i) (by omega) s2' y2 hk.1 ⟨hi20, fun z' => absurd (s3.symm.trans z') nI_01, fun _ => ⟨hi20, fun z' => ?_, fun _ => ?_⟩⟩
          · rw [e103S] at z'
            exact absurd z' z
          · refine k_greatE (k := i) (L := L) (G := G) (by omega) (show YS (gA (v_A S 130 (upd (gA S 130) i (nI (L i)))) 127) Y from s2') y2 hk.2 ⟨hi20, ?_⟩
            exact nx _ (L i) (G i) rfl (fun _ => ⟨rfl, rfl⟩)
  refine KV.of ok_211 (Nat.le_of_ble_eq_true rfl) (w_X12_takeSpans_0 (k_setM2 (v := v) (w := w) hF hw hc hK hn hX (fun u Y L' G' b1 b2 b3 b4 b5 b6 b7 => ?_) (fun u b1 b2 b3 b4 b5 => ?_)))
  · rcases hsp with ⟨e, h⟩ | ⟨e, h⟩
    · subst e
      have hu := b6.uniq h
      refine loop u Y b1 b2 b4 (fun _ => ⟨b5, fun k hk => ?_, fun k hk => ⟨(h.1.1.1 k hk).1, (h.2.1.1 k hk).1⟩⟩) (fun S s1 s2 => kk S (b1.trans s1.bd) (b2.sc s1) (fun s hs => ⟨(b3 s hs).1.sc s1, (b3 s hs).2.sc s1⟩) s2)
      have := b7 k hk
      rw [(hu k hk).1, (hu k hk).2] at this
      exact this
    · exact absurd ⟨L', b6.1.1⟩ h
  · rcases hsp with ⟨e, h⟩ | ⟨e, h⟩
    · exact absurd ⟨L, h.1.1⟩ b5
    · subst e
      exact loop u (fun _ _ => false) b1 b2 b4 (fun h => absurd h (by decide)) (fun S s1 s2 => kk S (b1.trans s1.bd) (b2.sc s1) (fun s hs => ⟨(b3 s hs).1.sc s1, (b3 s hs).2.sc s1⟩) s2)

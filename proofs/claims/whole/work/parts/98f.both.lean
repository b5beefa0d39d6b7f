/-! years over J: frames, both settles -/
def BdF (v w : xV) : Prop := w.2.2.2.2 = v.2.2.2.2 ∧ (∀ a b, ¬ (a = 67 ∨ a = 74 ∨ (a = 80 ∧ (b = 0 ∨ b = 61 ∨ b = 62 ∨ 71 ≤ b))) → gI w a b = gI v a b) ∧ (∀ j, j < 68 ∨ (78 < j ∧ j < 112) ∨ (120 < j ∧ j < 127) ∨ 139 ≤ j → gA w j = gA v j) ∧ ∀ j, j ≠ 71 → gB w j = gB v j
theorem BdF.refl (v : xV) : BdF v v := ⟨rfl, fun _ _ _ => rfl, fun _ _ => rfl, fun _ _ => rfl⟩
theorem BdF.trans {u v w : xV} (h : BdF u v) (h' : BdF v w) : BdF u w := ⟨h'.1.trans h.1, fun a b hn => (h'.2.1 a b hn).trans (h.2.1 a b hn), fun j hj => (h'.2.2.1 j hj).trans (h.2.2.1 j hj), fun j hj => (h'.2.2.2 j hj).trans (h.2.2.2 j hj)⟩
theorem WkF.bd {v w : xV} (h : WkF v w) : BdF v w := ⟨by rw [h.2.1], fun a b hn => h.2.2.1 a b (by omega), fun j hj => h.2.2.2 j (by omega), fun j _ => by
  show w.2.2.2.1 j = v.2.2.2.1 j
  rw [h.2.1]⟩
theorem ScF.bd {v w : xV} (h : ScF v w) : BdF v w := ⟨h.1, fun a b hn => h.2.1 a b (by omega), fun j hj => h.2.2.1 j (by omega), h.2.2.2⟩
theorem BdF.n {v w : xV} (h : BdF v w) : nS w = nS v ∧ nP w = nP v ∧ nD w = nD v ∧ nW w = nW v ∧ nR w = nR v ∧ nA w = nA v ∧ nF w = nF v := by
  obtain ⟨-, h, -, -⟩ := h
  unfold nS nP nD nW nR nA nF
  rw [h 25 12 (by decide), h 25 13 (by decide), h 25 14 (by decide), h 3 7 (by decide), h 80 30 (by decide), h 11 7 (by decide), h 60 6 (by decide)]
  exact ⟨rfl, rfl, rfl, rfl, rfl, rfl, rfl⟩
theorem BdF.sl {v v' : xV} (h : BdF v v') : SameL v v' := by
  have w : ∀ j, j < 68 → gA v' j = gA v j := fun j hj => h.2.2.1 j (by omega)
  exact ⟨h.2.1 3 7 (by decide), w 4 (by decide), w 5 (by decide), w 6 (by decide), w 7 (by decide), w 8 (by decide), w 9 (by decide), w 32 (by decide), w 33 (by decide), w 37 (by decide)⟩
theorem BdF.se {v v' : xV} (h : BdF v v') (s : Nat) : SameE v v' s := by
  have w : ∀ j, j < 68 → gA v' j = gA v j := fun j hj => h.2.2.1 j (by omega)
  unfold SameE
  rw [w 39 (by decide), w 40 (by decide), w 41 (by decide), w 42 (by decide), w 43 (by decide), w 44 (by decide), w 45 (by decide), w 46 (by decide), w 47 (by decide), w 48 (by decide)]
  exact SameE.refl v s
theorem BdF.mr {v v' : xV} (h : BdF v v') : mrows v' (nR v') = mrows v (nR v) := by
  rw [h.n.2.2.2.2.1]
  unfold mrows rw1
  rw [h.2.2.1 96 (by decide), h.2.2.1 97 (by decide)]
theorem FX.bd {v v' : xV} {s : Nat} {t : Int32} (h : FX v s t) (hF : BdF v v') : FX v' s t := by
  have w : ∀ j, j < 68 → gA v' j = gA v j := fun j hj => hF.2.2.1 j (by omega)
  unfold FX
  rw [hF.mr, hF.n.2.1, hF.n.2.2.1]
  intro N hN hN'
  rw [w 28 (by decide)] at hN
  have := (h N hN hN').mv hF.sl (hF.se s)
  unfold evP evD
  rw [w 30 (by decide), w 31 (by decide), w 34 (by decide), w 35 (by decide), w 36 (by decide)]
  exact this
theorem rW.bd {v v' : xV} (h : BdF v v') (s : Nat) (t : Int32) (N : Nat) : rW v' s t N = rW v s t N := by
  have w : ∀ j, j < 68 → gA v' j = gA v j := fun j hj => h.2.2.1 j (by omega)
  unfold rW RDw evP evD
  rw [h.mr, h.n.2.1, h.n.2.2.1, w 30 (by decide), w 31 (by decide), w 34 (by decide), w 35 (by decide), w 36 (by decide), h.sl.lc, h.sl.gx]
theorem SolD.bd {v w : xV} (hF : BdF v w) (K n : Nat) (y : Nat → Nat) : SolD w K n y ↔ SolD v K n y := by
  have h : ∀ j, j < 68 → gA w j = gA v j := fun j hj => hF.2.2.1 j (by omega)
  unfold SolD DomY Con yW yU yV yF aplF rngF limF stoodF thingF
  rw [hF.n.2.2.2.2.2.1, h 14 (by decide), h 26 (by decide), h 27 (by decide), h 44 (by decide), h 45 (by decide), h 46 (by decide), h 61 (by decide), h 62 (by decide), h 63 (by decide), h 64 (by decide), h 65 (by decide)]
theorem MinMax.bd {v w : xV} (hF : BdF v w) {K n : Nat} {Y : Nat → Nat → Bool} (h : MinMax w K n Y) : MinMax v K n Y := by
  obtain ⟨L, G, h1, h2, h3⟩ := h
  exact ⟨L, G, ⟨(SolD.bd hF K n L).mp h1.1, fun y hy => h1.2 y ((SolD.bd hF K n y).mpr hy)⟩, ⟨(SolD.bd hF K n G).mp h2.1, fun y hy => h2.2 y ((SolD.bd hF K n y).mpr hy)⟩, h3⟩
theorem isKn.iff {f : Nat → Int32} {t : Int32} {S K : Nat} (h : isKn f t S K) (mono : ∀ i j, i ≤ j → j < S → f i ≤ f j) : ∀ s, s < S → (f s ≤ t ↔ s < K) := by
  intro s hs
  refine ⟨fun h1 => ?_, h.2.1 s⟩
  rcases Nat.lt_or_ge s K with q | q
  · exact q
  · exact absurd (Int32.le_trans (mono K s q hs) h1) (h.2.2 (by omega))
theorem isKn.uniq {f : Nat → Int32} {t : Int32} {S K K' : Nat} (h : isKn f t S K) (h' : isKn f t S K') : K = K' := by
  rcases Nat.lt_trichotomy K K' with q | q | q
  · exact absurd (h'.2.1 K q) (h.2.2 (by have := h'.1; omega))
  · exact q
  · exact absurd (h.2.1 K' q) (h'.2.2 (by have := h.1; omega))
theorem J.kn {c : Nat} {v : xV} {t : Int32} {K : Nat} (hJ : J c v) (hK : isKn (gA v 29) t (nS v) K) : ∀ s, s < nS v → (gA v 29 s ≤ t ↔ s < K) := hK.iff hJ.2.2.2.1.2.1
theorem J.knF {c : Nat} {v : xV} {t : Int32} {n : Nat} (hJ : J c v) (hn : isKn (gA v 66) t (nF v) n) : ∀ f, f < nF v → (gA v 66 f ≤ t ↔ f < n) := hn.iff hJ.2.2.1.2.2.2.1
theorem J.hear {c : Nat} {v : xV} {t : Int32} {K : Nat} (hJ : J c v) (hK : isKn (gA v 29) t (nS v) K) (hX : ∀ s, s < K → FX v s t) : HearX (v_I v 67 10 (nI K)) K (nF v) := by
  obtain ⟨⟨n1, n1'⟩, -, -, -, ⟨n5, n5'⟩, n6, n6'⟩ := hJ.num
  have hK1 := hK.1
  refine ⟨⟨rfl, by omega⟩, n6', fun f hf => ⟨(hJ.2.2.1.2.2.1 f hf).1, (hJ.2.2.1.2.2.1 f hf).2.1⟩, ⟨n5', n1'⟩, fun s hs => ?_⟩
  obtain ⟨N, hN', hN⟩ := hJ.pl s (by omega)
  exact ⟨_, rW_len, ((hX s hs).c hN hN').2.2.1⟩
theorem J.yearx {c : Nat} {v : xV} {t : Int32} {K n : Nat} (hJ : J c v) (hK : isKn (gA v 29) t (nS v) K) (hn : n ≤ nF v) : YearX (v_I (v_I v 67 10 (nI K)) 67 11 (nI n)) K n := by
  obtain ⟨⟨n1, n1'⟩, -, -, -, ⟨n5, n5'⟩, n6, n6'⟩ := hJ.num
  have hK1 := hK.1
  refine ⟨⟨n5, n5'⟩, hJ.1.A.2.2.2, ⟨rfl, by omega⟩, ⟨rfl, by omega⟩, fun s hs => (hJ.2.2.2.1.1 s (by omega)).1, fun f hf e => ?_⟩
  have e : gA v 61 f = nI 2 := e
  rcases (hJ.2.2.1.2.2.1 f (by omega)).1 with ⟨q, -⟩ | ⟨q, -⟩ | ⟨-, ⟨a, ha, ea⟩, ⟨b, hb, eb⟩, -⟩ | ⟨q, -⟩ | ⟨q, -⟩
  · exact absurd (e.symm.trans q) (by decide)
  · exact absurd (e.symm.trans q) (by decide)
  · exact ⟨⟨a, by omega, ea⟩, b, by omega, eb⟩
  · exact absurd (e.symm.trans q) (by decide)
  · exact absurd (e.symm.trans q) (by decide)
theorem J.rfx {c : Nat} {v : xV} {t up : Int32} {K n : Nat} (hJ : J c v) (hK : isKn (gA v 29) t (nS v) K) (hn : n ≤ nF v) (hup : ∀ f, f < nF v → ((nI f ≤ up ∧ gA v 66 f ≤ t) ↔ f < n)) : RfX v t up K (nF v) n := by
  obtain ⟨⟨n1, n1'⟩, -, -, -, ⟨n5, n5'⟩, n6, n6'⟩ := hJ.num
  obtain ⟨m1, -, -, -, m5, m6⟩ := hJ.numM
  obtain ⟨q1, q2, q3, q4, q5, q6⟩ := hJ.2.2.1.2.1
  obtain ⟨r1, r2, r3, r4⟩ := hJ.1.S.2.1
  refine ⟨⟨m1, hK.1, n1', fun s hs => ?_⟩, ⟨m5, n5', hJ.1.A.2.1.2.symm, hJ.1.A.2.2.2⟩, ⟨m6, hn, n6', fun f hf => ?_⟩, ⟨r1.symm, r2.symm, q1.symm, q2.symm, q3.symm, q4.symm, q5.symm⟩, fun s hs => (hJ.2.2.2.1.1 s (by have := hK.1; omega)).1, fun f hf => ⟨(hJ.2.2.1.2.2.1 f hf).1, (hJ.2.2.1.2.2.1 f hf).2.1⟩, fun f hf => ?_⟩
  · rw [← r4]
    exact hJ.kn hK s hs
  · rw [← q6]
    exact hup f hf
  · obtain ⟨a1, -, a3, a4⟩ := hJ.2.2.1.2.2.1 f (by omega)
    have hk := ((hup f (by omega)).mpr hf).2
    have sc : ∀ x, isN (nS v) x → gA v 29 x.toNatClampNeg ≤ gA v 66 f → isN K x := by
      intro x hx hd
      obtain ⟨s, hs, es⟩ := hx
      rw [es, nI_clamp (by omega)] at hd
      exact ⟨s, (hJ.kn hK s hs).mp (Int32.le_trans hd hk), es⟩
    rcases a1 with ⟨q, -⟩ | ⟨q, b1⟩ | ⟨q, b1, b2, -⟩ | ⟨q, -⟩ | ⟨q, -⟩
    · exact ⟨fun h => by rcases h with h | h <;> exact absurd (h.symm.trans q) (by decide), fun h => absurd (h.symm.trans q) (by decide)⟩
    · exact ⟨fun h => sc _ b1 (a3 h), fun h => absurd (h.symm.trans q) (by decide)⟩
    · exact ⟨fun h => sc _ b1 (a3 h), fun h => sc _ b2 (a4 h)⟩
    · exact ⟨fun h => by rcases h with h | h <;> exact absurd (h.symm.trans q) (by decide), fun h => absurd (h.symm.trans q) (by decide)⟩
    · exact ⟨fun h => by rcases h with h | h <;> exact absurd (h.symm.trans q) (by decide), fun h => absurd (h.symm.trans q) (by decide)⟩
theorem J.rdx {c : Nat} {v : xV} {t : Int32} {s N : Nat} (hJ : J c v) (hN : gA v 28 s = nI N) (hN' : 1 ≤ N ∧ N ≤ 24) (fx : FX v s t) (fm : FM v s t) : RdX v s (rW v s t N) := by
  obtain ⟨-, -, x3, x4, x5, -, -⟩ := fx.c hN hN'
  obtain ⟨m1, m2, -⟩ := FM.c hJ fm hN hN'
  have hw := hJ.num.2.2.2.1.2
  exact ⟨⟨m1, x3, rW_len⟩, fun i w e => ⟨m2 i w e, x4 i w e⟩, x5, fun w hw' => by have := rW_lt hJ w hw'; omega, hJ.1.W.2.1.2.2.symm, hw, hJ.1.W.2.2.2.2⟩
def LGd (v : xV) (K n : Nat) (L G : Nat → Nat) : Prop := (SolD v K n L ∧ ∀ y, SolD v K n y → ∀ k, k < 52 → L k ≤ y k) ∧ SolD v K n G ∧ ∀ y, SolD v K n y → ∀ k, k < 52 → y k ≤ G k
theorem LGd.uniq {v : xV} {K n : Nat} {L G L' G' : Nat → Nat} (h : LGd v K n L G) (h' : LGd v K n L' G') : ∀ k, k < 52 → L k = L' k ∧ G k = G' k := fun k hk => ⟨Nat.le_antisymm (h.1.2 _ h'.1.1 k hk) (h'.1.2 _ h.1.1 k hk), Nat.le_antisymm (h'.2.2 _ h.2.1 k hk) (h.2.2 _ h'.2.1 k hk)⟩
theorem LGd.bd {v w : xV} (hF : BdF v w) {K n : Nat} {L G : Nat → Nat} (h : LGd v K n L G) : LGd w K n L G := ⟨⟨(SolD.bd hF K n L).mpr h.1.1, fun y hy => h.1.2 y ((SolD.bd hF K n y).mp hy)⟩, (SolD.bd hF K n G).mpr h.2.1, fun y hy => h.2.2 y ((SolD.bd hF K n y).mp hy)⟩
theorem k_setX {E : Nat × (Nat → Int32)} {d : Nat} {v : xV} {c K : Nat} {t : Int32} {Q : xV → Prop} (hJ : J c v) (hK : isKn (gA v 29) t (nS v) K) (hX : ∀ s, s < K → FX v s t)
    (k1 : ∀ n w L G, isKn (gA v 66) t (nF v) n → YrF v w → gI w 67 12 = nI 1 → (∀ k, k < 52 → gA w 72 k = nI (L k) ∧ gA w 73 k = nI (G k)) → LGd v K n L G → Q w)
    (k2 : ∀ n w, isKn (gA v 66) t (nF v) n → YrF v w → gI w 67 12 = nI 0 → (¬ ∃ y, SolD v K n y) → Q w) : KV E (d + 5) 90 [.ref 67, .int t] v Q := by
  obtain ⟨⟨n1, n1'⟩, -, -, -, -, n6, n6'⟩ := hJ.num
  refine k_settle n1 n1' n6 n6' (fun K' hK' => ?_) (fun K' n hK' hn => hJ.yearx hK' hn) (fun K' n w L G hK' hn hy h1 h2 h3 h4 => ?_) (fun K' n w hK' hn hy h1 h2 => ?_)
  · rw [hK'.uniq hK]
    exact hJ.hear hK hX
  · rw [hK'.uniq hK] at h3 h4
    exact k1 n w L G hn hy h1 h2 ⟨h3, h4⟩
  · rw [hK'.uniq hK] at h2
    exact k2 n w hn hy h1 h2
/-- sets of years whose ends are these -/
def EndY (Y : Nat → Nat → Bool) (L G : Nat → Nat) : Prop := ∀ k, k < 52 → (Y k (L k) = true ∧ ∀ z, z < L k → Y k z = false) ∧ Y k (G k) = true ∧ ∀ z, G k < z → z < 200 → Y k z = false
theorem k_setM {E : Nat × (Nat → Int32)} {d : Nat} {v : xV} {c K n : Nat} {t up : Int32} {Q : xV → Prop} (hJ : J c v) (hc : c < 2 ^ 30) (hK : isKn (gA v 29) t (nS v) K) (hn : n ≤ nF v) (hup : ∀ f, f < nF v → ((nI f ≤ up ∧ gA v 66 f ≤ t) ↔ f < n)) (hX : ∀ s, s < K → FX v s t)
    (k1 : ∀ w Y L G, BdF v w → J c w → (∀ s, s < K → FX w s t ∧ FM w s t) → gI w 80 72 = nI 1 → YS (gA w 127) Y → LGd v K n L G → EndY Y L G → Q w)
    (k0 : ∀ w, BdF v w → J c w → (∀ s, s < K → FX w s t ∧ FM w s t) → gI w 80 72 = nI 0 → (¬ ∃ y, SolD v K n y) → Q w) : KV E (d + 6) 204 [.ref 80, .int t, .int up] v Q := by
  have hK1 := hK.1
  refine KV.of ok_204 (Nat.le_of_ble_eq_true rfl) (w_X12_settle_0 (k_workF hJ hc (fun v1 g1 g2 g3 => ?_)))
  have b1 := g1.bd
  have n1 := b1.n
  have a29 : gA v1 29 = gA v 29 := b1.2.2.1 29 (by decide)
  have a66 : gA v1 66 = gA v 66 := b1.2.2.1 66 (by decide)
  have hX1 : ∀ s, s < K → FX v1 s t := fun s hs => (hX s hs).bd b1
  have hM1 : ∀ s, s < K → FM v1 s t := fun s hs => g3 s (by omega) (by
    have e103 : gA v 103 = gA v 29 := hJ.1.S.2.1.2.2.2.symm
    rw [e103]
    exact hK.2.1 s hs)
  have hRf : RfX v1 t up K (nF v1) n := g2.rfx (by rw [a29, n1.1]; exact hK) (by rw [n1.2.2.2.2.2.2]; exact hn) (by rw [n1.2.2.2.2.2.2, a66]; exact hup)
  have sc : ∀ f g (x : Int32), ScF v1 (v_I (v_I (v_A (v_A v1 127 f) 128 g) 80 73 (nI 0)) 80 72 x) := by
    intro f g x
    refine ⟨rfl, fun a b h => ?_, fun j hj => ?_, fun _ _ => rfl⟩
    · rw [gI_I, gI_I]
      by_cases e : a = 80
      · rw [if_pos e, if_neg (by omega), if_pos e, if_neg (by omega)]
        rfl
      · rw [if_neg e, if_neg e]
        rfl
    · show gA (v_A (v_A v1 127 f) 128 g) j = _
      rw [gA_A, if_neg (by omega), gA_A, if_neg (by omega)]
  refine k_settle7 (ws := fun s => rW v1 s t (gA v1 28 s).toNatClampNeg) hRf (fun s hs => ?_) (fun f g Y hY hmm => ?_) (fun f g hno => ?_)
  · obtain ⟨N, hN', hN⟩ := g2.pl s (by rw [n1.1]; omega)
    show RdX v1 s (rW v1 s t (gA v1 28 s).toNatClampNeg)
    rw [hN, nI_clamp (by omega)]
    exact g2.rdx hN hN' (hX1 s hs) (hM1 s hs)
  · obtain ⟨L, G, h1, h2, h3⟩ := hmm.bd b1
    exact k1 _ Y L G (b1.trans (sc f g _).bd) (g2.sc (sc f g _)) (fun s hs => ⟨(hX1 s hs).sc (sc f g _), (hM1 s hs).sc (sc f g _)⟩) rfl hY ⟨h1, h2⟩ h3
  · exact k0 _ (b1.trans (sc f g _).bd) (g2.sc (sc f g _)) (fun s hs => ⟨(hX1 s hs).sc (sc f g _), (hM1 s hs).sc (sc f g _)⟩) rfl (fun ⟨y, hy⟩ => hno ⟨y, (SolD.bd b1 K n y).mpr hy⟩)

/-! all that are known are looked at -/
def CInv (v : xV) (L : List (List Nat)) (S : Nat) : Prop := ∀ s N, s < S → gA v 28 s = nI N → (1 ≤ N ∧ N ≤ 24) → gA v 39 s = nI 1 → Cached v L s N (gA v 40 s) (fun q => gA v 41 (4 * s + q))
def Fresh (v : xV) (L : List (List Nat)) (t : Int32) (P D s : Nat) : Prop := ∀ N, gA v 28 s = nI N → (1 ≤ N ∧ N ≤ 24) → Cached v L s N (evP v s t P) (evD v s t D)
theorem RdF.ev {v v' : xV} (h : RdF v v') (s : Nat) (t : Int32) (P D : Nat) : evP v' s t P = evP v s t P ∧ evD v' s t D = evD v s t D := by
  unfold evP evD
  rw [h.2.2.1 30 (by decide), h.2.2.1 31 (by decide), h.2.2.1 34 (by decide), h.2.2.1 35 (by decide), h.2.2.1 36 (by decide)]
  exact ⟨rfl, rfl⟩
theorem Fresh.mv {v v' : xV} {L : List (List Nat)} {t : Int32} {P D s : Nat} (h : Fresh v L t P D s) (hF : RdF v v') (hE : SameE v v' s) : Fresh v' L t P D s := by
  intro N hN hN'
  rw [hF.2.2.1 28 (by decide)] at hN
  rw [(hF.ev s t P D).1, (hF.ev s t P D).2]
  exact (h N hN hN').mv hF.L hE
theorem k_look2 {E : Nat × (Nat → Int32)} {d : Nat} {v : xV} {k0 z0 Z Qn P D W S s : Nat} {t : Int32} {Lf : Nat → List (List Nat)} {Q : xV → Prop} (hX : LookX v k0 z0 Z Qn P D W S Lf) (hs : s < S) (hc : CInv v (Lf 0) S)
    (kk : ∀ v' Z', RdF v v' → LookX v' k0 z0 Z' Qn P D W S Lf → CInv v' (Lf 0) S → Fresh v' (Lf 0) t P D s → (∀ s', s' ≠ s → SameE v v' s') → Q v') : KV E (d + 11) 53 [.ref 49, .int (nI s), .int t] v Q := by
  obtain ⟨N, hN', hN⟩ := hX.2.2.2.2.2.2.2.2.2.2.1 s hs
  refine k_look hX hs hN hN' (hc s N hs hN hN') (fun v' Z' f1 f2 f3 f4 f5 f6 f7 => ?_)
  have hX' : LookX v' k0 z0 Z' Qn P D W S Lf := hX.mv f1 f2 (fun s' => by
    by_cases e : s' = s
    · rw [e]
      exact Or.inr f4
    · rw [(f3 s' e).1]
      exact hX.2.2.2.2.2.2.2.2.2.2.2 s')
  refine kk v' Z' f1 hX' ?_ ?_ f3
  · intro s' N2 hs' hN2 hN2' hv
    by_cases e : s' = s
    · subst e
      rw [f1.2.2.1 28 (by decide), hN, nI_eq (by omega) (by omega)] at hN2
      subst hN2
      exact f7.ev f5.symm (fun q hq => (f6 q hq).symm)
    · have hE := f3 s' e
      rw [f1.2.2.1 28 (by decide)] at hN2
      rw [hE.1] at hv
      have := (hc s' N2 hs' hN2 hN2' hv).mv f1.L hE
      exact this.ev hE.2.1.symm (fun q hq => (hE.2.2.1 q hq).symm)
  · intro N2 hN2 hN2'
    rw [f1.2.2.1 28 (by decide), hN, nI_eq (by omega) (by omega)] at hN2
    subst hN2
    rw [(f1.ev s t P D).1, (f1.ev s t P D).2]
    exact f7
/-- how many are known on t: the first ones -/
def isKn (f : Nat → Int32) (t : Int32) (S K : Nat) : Prop := K ≤ S ∧ (∀ s, s < K → f s ≤ t) ∧ (K < S → ¬ f K ≤ t)
theorem k_knownX2 {E : Nat × (Nat → Int32)} {d : Nat} {v : xV} {t : Int32} {S : Nat} {Q : Int32 → xV → Prop} (hS : gI v 25 12 = nI S) (hS2 : S ≤ 20) (kk : ∀ K, isKn (gA v 29) t S K → Q (nI K) v) : KI E d 9 [.ref 25, .int t] v Q := by
  have step : ∀ i, i ≤ S → (∀ s, s < i → gA v 29 s ≤ t) → RI E d 9 4 [(0, .ref 25), (1, .int t), (2, .int (nI i)), (3, .int (nI i))] v Q := by
    intro i hi
    refine lp_up (n := S) (P := fun i => (∀ s, s < i → gA v 29 s ≤ t) → RI E d 9 4 [(0, .ref 25), (1, .int t), (2, .int (nI i)), (3, .int (nI i))] v Q) (fun h => w_X1_knownCount_4 ?_) (fun i hi ih h => w_X1_knownCount_4 ?_) hi
    · rw [hS]
      exact ⟨fun _ => kk S ⟨Nat.le_refl _, h, fun z => absurd z (Nat.lt_irrefl _)⟩, fun z => absurd (nI_le (Nat.le_refl _) (by omega)) z⟩
    · simp (disch := omega) only [nI_add, pk_mul, nI_clamp, nI_leI, nI_ltI, nI_eq, vp_t, true_and, hS, forall_eq]
      refine ⟨fun z => by omega, fun _ => ⟨fun h2 => kk i ⟨by omega, h, fun _ => i_nle.mpr h2⟩, fun h2 => ih (fun s hs => ?_)⟩⟩
      by_cases e : s = i
      · subst e
        exact i_nlt.mp h2
      · exact h s (by omega)
  exact KI.of ok_9 (Nat.le_of_ble_eq_true rfl) (w_X1_knownCount_0 (step 0 (by omega) (fun s hs => by omega)))
theorem k_lookAll {E : Nat × (Nat → Int32)} {d : Nat} {v : xV} {k0 z0 Z Qn P D W S : Nat} {t : Int32} {Lf : Nat → List (List Nat)} {Q : xV → Prop} (hX : LookX v k0 z0 Z Qn P D W S Lf) (hc : CInv v (Lf 0) S)
    (kk : ∀ v' Z' K, isKn (gA v 29) t S K → RdF v v' → LookX v' k0 z0 Z' Qn P D W S Lf → CInv v' (Lf 0) S → (∀ s, s < K → Fresh v' (Lf 0) t P D s) → Q v') : KV E (d + 12) 52 [.ref 49, .int t] v Q := by
  obtain ⟨hS, hS2⟩ := hX.2.2.2.2.2.2.2.2.1
  refine KV.of ok_52 (Nat.le_of_ble_eq_true rfl) (w_X6_lookAll_0 (k_knownX2 hS hS2 (fun K hK => ?_)))
  have step : ∀ i, i ≤ K → ∀ v' Z', RdF v v' → LookX v' k0 z0 Z' Qn P D W S Lf → CInv v' (Lf 0) S → (∀ s, s < i → Fresh v' (Lf 0) t P D s) → RV E (d + 12) 52 11 [(0, .ref 49), (1, .int t), (2, .int (nI K)), (3, .int (nI i))] v' Q := by
    intro i hi
    have hK1 := hK.1
    refine lp_up (n := K) (P := fun i => ∀ v' Z', RdF v v' → LookX v' k0 z0 Z' Qn P D W S Lf → CInv v' (Lf 0) S → (∀ s, s < i → Fresh v' (Lf 0) t P D s) → RV E (d + 12) 52 11 [(0, .ref 49), (1, .int t), (2, .int (nI K)), (3, .int (nI i))] v' Q) (fun v' Z' f1 f2 f3 f4 => w_X6_lookAll_11 ⟨fun _ => kk v' Z' K hK f1 f2 f3 f4, fun z => absurd (nI_le (Nat.le_refl _) (by omega)) z⟩) (fun i hi ih v' Z' f1 f2 f3 f4 => w_X6_lookAll_11 ⟨fun z => ?_, fun _ => ?_⟩) hi
    · exfalso
      rw [nI_leI (by omega) (by omega)] at z
      omega
    · refine k_look2 f2 (by omega) f3 (fun v2 Z2 g1 g2 g3 g4 g5 => ?_)
      rw [nI_add]
      refine ih v2 Z2 (f1.trans g1) g2 g3 (fun s hs => ?_)
      by_cases e : s = i
      · subst e
        exact g4
      · exact (f4 s (by omega)).mv g1 (g5 s e)
  exact step 0 (by omega) v Z (RdF.refl v) hX hc (fun s hs => by omega)

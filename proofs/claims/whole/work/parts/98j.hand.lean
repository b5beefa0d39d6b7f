/-! hand: both sides agree -/
def uV (v : xV) (s : Nat) (t : Int32) : Nat → Int32 := rU v s t (gA v 28 s).toNatClampNeg
theorem uV.bd {v w : xV} (h : BdF v w) (s : Nat) (t : Int32) : uV w s t = uV v s t := by
  have a : ∀ j, j < 68 → gA w j = gA v j := fun j hj => h.2.2.1 j (by omega)
  unfold uV rU
  rw [rW.bd h, h.sl.u, a 28 (by decide)]
  unfold evP
  rw [a 30 (by decide), a 31 (by decide), h.n.2.1]
theorem cnt_pos {f : Nat → Int32} {n : Nat} : cntU f n = 0 ↔ ∀ l, l < n → f l = -1 := by
  induction n with
  | zero => exact ⟨fun _ l hl => absurd hl (Nat.not_lt_zero _), fun _ => rfl⟩
  | succ n ih =>
    show cntU f n + (if f n = -1 then 0 else 1) = 0 ↔ _
    constructor
    · intro h l hl
      by_cases e : l = n
      · subst e
        by_cases q : f l = -1
        · exact q
        · rw [if_neg q] at h
          omega
      · exact ih.mp (by omega) l (by omega)
    · intro h
      rw [if_pos (h n (by omega)), ih.mpr (fun l hl => h l (by omega))]
def OfH (A : Nat → Nat → Int32) (ap : Nat → Nat → Prop) (H : Nat → Int32) (s : Nat) (h : Int32) : Prop := (∀ o, o < s → H o = h → ¬ A s o < nI 0 ∧ ¬ ap s o) ∧ ∃ o, o < s ∧ H o = h ∧ ¬ A s o < nI 2
theorem OfH.cong {A : Nat → Nat → Int32} {ap : Nat → Nat → Prop} {H H' : Nat → Int32} {s : Nat} {h : Int32} (e : ∀ o, o < s → H o = H' o) (hh : OfH A ap H s h) : OfH A ap H' s h := by
  obtain ⟨h1, o, h2, h3, h4⟩ := hh
  exact ⟨fun o ho q => h1 o ho ((e o ho).trans q), o, h2, (e o h2).symm.trans h3, h4⟩
theorem k_ofHandX {E : Nat × (Nat → Int32)} {d : Nat} {v : xV} {A : Nat → Nat → Int32} {cb : Bool} {L G : Nat → Nat} {K s : Nat} {h : Int32} {Q : Int32 → xV → Prop} (hsp : SpX v cb L G) (hK : K ≤ 20) (hs : s < K) (hA : ∀ a b, a < K → b < K → cmpI (fun l => gA v 47 (26 * a + l)) (fun l => gA v 47 (26 * b + l)) = A a b) (k1 : OfH A (ApX cb L G) (gA v 75) s h → Q (nI 1) v) (k0 : ¬ OfH A (ApX cb L G) (gA v 75) s h → Q (nI 0) v) : KI E (d + 1) 15 [.ref 74, .int (nI s), .int h] v Q := by
  refine KI.of ok_15 (Nat.le_of_ble_eq_true rfl) (w_X2_isOfHand_0 ?_)
  refine lp_up (n := s) (P := fun i => ∀ m : Bool, (∀ o, o < i → gA v 75 o = h → ¬ A s o < nI 0 ∧ ¬ ApX cb L G s o) → (m = true ↔ ∃ o, o < i ∧ gA v 75 o = h ∧ ¬ A s o < nI 2) → RI E (d + 1) 15 5 [(0, .ref 74), (1, .int (nI s)), (2, .int h), (3, .int (bB m)), (4, .int (nI i))] v Q) (fun m h1 h2 => w_X2_isOfHand_5 ⟨fun _ => ⟨bB_in, ?_⟩, fun z => absurd (nI_le (Nat.le_refl _) (by omega)) z⟩) (fun i hi ih m h1 h2 => w_X2_isOfHand_5 ⟨fun z => ?_, fun _ => ?_⟩) (Nat.zero_le _) false (fun o ho => absurd ho (Nat.not_lt_zero _)) ⟨fun z => absurd z (by decide), fun ⟨o, ho, _⟩ => absurd ho (Nat.not_lt_zero _)⟩
  · cases m with
    | true => exact k1 ⟨h1, h2.mp rfl⟩
    | false => exact k0 (fun q => absurd (h2.mpr q.2) (by decide))
  · exfalso
    rw [nI_leI (by omega) (by omega)] at z
    omega
  · rw [nI_clamp (by omega), nI_add]
    refine ⟨vp_in_nI (by omega) (by decide), fun q => ?_, fun q => ?_⟩
    · refine ih m (fun o ho e => ?_) ?_
      · by_cases eo : o = i
        · exact absurd (eo ▸ e) q
        · exact h1 o (by omega) e
      · rw [h2]
        constructor
        · intro ⟨o, a, b⟩
          exact ⟨o, by omega, b⟩
        · intro ⟨o, a, b, c⟩
          by_cases eo : o = i
          · exact absurd (eo ▸ b) q
          · exact ⟨o, by omega, b, c⟩
    · refine k_compare (by omega) (by omega) ?_
      rw [hA s i hs (by omega)]
      refine ⟨fun z => k0 (fun r => (r.1 i hi q).1 z), fun z => k_apartX hsp (by omega) (by omega) (fun a => ⟨fun z => absurd z nI_01, fun _ => k0 (fun r => (r.1 i hi q).2 a)⟩) (fun a => ⟨fun _ => ?_, fun z => absurd rfl z⟩)⟩
      have h1' : ∀ o, o < i + 1 → gA v 75 o = h → ¬ A s o < nI 0 ∧ ¬ ApX cb L G s o := by
        intro o ho e
        by_cases eo : o = i
        · subst eo
          exact ⟨z, a⟩
        · exact h1 o (by omega) e
      refine ⟨fun z1 => ih true h1' ⟨fun _ => ?_, fun _ => rfl⟩, fun z1 => ⟨fun z2 => ih false h1' ⟨fun z => absurd z (by decide), fun ⟨o, a, b, c⟩ => ?_⟩, fun z2 => ih true h1' ⟨fun _ => ⟨i, by omega, q, z2⟩, fun _ => rfl⟩⟩⟩
      · have : m = true := by
          cases m with
          | true => rfl
          | false => exact absurd rfl z1
        obtain ⟨o, a, b⟩ := h2.mp this
        exact ⟨o, by omega, b⟩
      · by_cases eo : o = i
        · exact absurd (eo ▸ z2) c
        · have := h2.mpr ⟨o, by omega, b, c⟩
          subst this
          exact absurd z1 nI_01
theorem k_ofHandM {E : Nat × (Nat → Int32)} {d : Nat} {v : xV} {c K s : Nat} {t h : Int32} {cb : Bool} {L G : Nat → Nat} {Q : Int32 → xV → Prop} (hJ : J c v) (hsp : SpM v K cb L G) (hL : ∀ k, k < 52 → L k < 200 ∧ G k < 200) (hK : K ≤ nS v) (hs : s < K) (hF : ∀ s, s < K → FM v s t) (k1 : OfH (fun a b => cmpI (uV v a t) (uV v b t)) (ApX cb L G) (gA v 129) s h → Q (nI 1) v) (k0 : ¬ OfH (fun a b => cmpI (uV v a t) (uV v b t)) (ApX cb L G) (gA v 129) s h → Q (nI 0) v) : KI E (d + 3) 214 [.ref 80, .int (nI s), .int h, .int t] v Q := by
  have hS20 := hJ.num.1.2
  refine KI.of ok_214 (Nat.le_of_ble_eq_true rfl) (w_X12_mayBeOf_0 ?_)
  refine lp_up (n := s) (P := fun i => ∀ m : Bool, (∀ o, o < i → gA v 129 o = h → ¬ cmpI (uV v s t) (uV v o t) < nI 0 ∧ ¬ ApX cb L G s o) → (m = true ↔ ∃ o, o < i ∧ gA v 129 o = h ∧ ¬ cmpI (uV v s t) (uV v o t) < nI 2) → RI E (d + 3) 214 6 [(0, .ref 80), (1, .int (nI s)), (2, .int h), (3, .int t), (4, .int (bB m)), (5, .int (nI i))] v Q) (fun m h1 h2 => w_X12_mayBeOf_6 ⟨fun _ => ⟨bB_in, ?_⟩, fun z => absurd (nI_le (Nat.le_refl _) (by omega)) z⟩) (fun i hi ih m h1 h2 => w_X12_mayBeOf_6 ⟨fun z => ?_, fun _ => ?_⟩) (Nat.zero_le _) false (fun o ho => absurd ho (Nat.not_lt_zero _)) ⟨fun z => absurd z (by decide), fun ⟨o, ho, _⟩ => absurd ho (Nat.not_lt_zero _)⟩
  · cases m with
    | true => exact k1 ⟨h1, h2.mp rfl⟩
    | false => exact k0 (fun q => absurd (h2.mpr q.2) (by decide))
  · exfalso
    rw [nI_leI (by omega) (by omega)] at z
    omega
  · rw [nI_clamp (by omega), nI_add]
    refine ⟨vp_in_nI (by omega) (by decide), fun q => ?_, fun q => ?_⟩
    · obtain ⟨N, hN', hN⟩ := hJ.pl s (by omega)
      obtain ⟨M, hM', hM⟩ := hJ.pl i (by omega)
      have us : uV v s t = rU v s t N := by
        unfold uV
        rw [hN, nI_clamp (by omega)]
      have ui : uV v i t = rU v i t M := by
        unfold uV
        rw [hM, nI_clamp (by omega)]
      refine k_agreement hJ (by omega) (by omega) hN hN' hM hM' (hF s hs) (hF i (by omega)) ?_
      rw [← us, ← ui]
      refine ⟨fun z => k0 (fun r => (r.1 i hi q).1 z), fun z => k_apartM hsp hL (by omega) hs (by omega) (fun a => ⟨fun z => absurd z nI_01, fun _ => k0 (fun r => (r.1 i hi q).2 a)⟩) (fun a => ⟨fun _ => ?_, fun z => absurd rfl z⟩)⟩
      have h1' : ∀ o, o < i + 1 → gA v 129 o = h → ¬ cmpI (uV v s t) (uV v o t) < nI 0 ∧ ¬ ApX cb L G s o := by
        intro o ho e
        by_cases eo : o = i
        · subst eo
          exact ⟨z, a⟩
        · exact h1 o (by omega) e
      refine ⟨fun z2 => ih m h1' ?_, fun z2 => ih true h1' ⟨fun _ => ⟨i, by omega, q, z2⟩, fun _ => rfl⟩⟩
      rw [h2]
      constructor
      · intro ⟨o, a, b⟩
        exact ⟨o, by omega, b⟩
      · intro ⟨o, a, b, c⟩
        by_cases eo : o = i
        · exact absurd (eo ▸ z2) c
        · exact ⟨o, by omega, b, c⟩
    · refine ih m (fun o ho e => ?_) ?_
      · by_cases eo : o = i
        · exact absurd (eo ▸ e) q
        · exact h1 o (by omega) e
      · rw [h2]
        constructor
        · intro ⟨o, a, b⟩
          exact ⟨o, by omega, b⟩
        · intro ⟨o, a, b, c⟩
          by_cases eo : o = i
          · exact absurd (eo ▸ b) q
          · exact ⟨o, by omega, b, c⟩
theorem k_hasUsed {E : Nat × (Nat → Int32)} {d : Nat} {v : xV} {c s : Nat} {t : Int32} {Q : Int32 → xV → Prop} (hJ : J c v) (hs : s < nS v) (hF : FM v s t) (k1 : ¬ cntU (uV v s t) 26 = 0 → Q (nI 1) v) (k0 : cntU (uV v s t) 26 = 0 → Q (nI 0) v) : KI E (d + 2) 213 [.ref 80, .int (nI s), .int t] v Q := by
  obtain ⟨N, hN', hN⟩ := hJ.pl s hs
  have us : uV v s t = rU v s t N := by
    unfold uV
    rw [hN, nI_clamp (by omega)]
  refine KI.of ok_213 (Nat.le_of_ble_eq_true rfl) (w_X12_hasUsed_0 ?_)
  refine lp_up (n := 26) (P := fun i => (∀ l, l < i → uV v s t l = -1) → RI E (d + 2) 213 2 [(0, .ref 80), (1, .int (nI s)), (2, .int t), (3, .int (nI i))] v Q) (fun h => w_X12_hasUsed_2 ⟨fun _ => k0 (cnt_pos.mpr h), fun z => absurd (by decide) z⟩) (fun i hi ih h => w_X12_hasUsed_2 ⟨fun z => ?_, fun _ => k_usedF hJ hs hi hN hN' hF ?_⟩) (Nat.zero_le _) (fun l hl => absurd hl (Nat.not_lt_zero _))
  · exfalso
    rw [nI_leI (by omega) (by omega)] at z
    omega
  · rw [← us, nI_add]
    refine ⟨fun z => ih (fun l hl => ?_), fun z => k1 (fun q => z (cnt_pos.mp q i hi))⟩
    by_cases e : l = i
    · rw [e]
      exact z
    · exact h l (by omega)
/-- hands as they are given, one by one -/
def HR (A : Nat → Nat → Int32) (ap : Nat → Nat → Prop) (us : Nat → Prop) (H : Nat → Int32) (h Cn : Nat → Nat) (K : Nat) : Prop := Cn 0 = 0 ∧ ∀ s, s < K → Cn s ≤ s ∧ (¬ us s → H s = -1 ∧ Cn (s + 1) = Cn s) ∧ (us s → H s = nI (h s) ∧ h s ≤ Cn s ∧ (h s < Cn s → OfH A ap H s (nI (h s))) ∧ (∀ h', h' < h s → ¬ OfH A ap H s (nI h')) ∧ Cn (s + 1) = max (Cn s) (h s + 1))
theorem HR.cn {A : Nat → Nat → Int32} {ap : Nat → Nat → Prop} {us : Nat → Prop} {H : Nat → Int32} {h Cn : Nat → Nat} {K : Nat} (hh : HR A ap us H h Cn K) : ∀ s, s ≤ K → Cn s ≤ s := by
  intro s hs
  cases s with
  | zero => rw [hh.1]; exact Nat.le_refl _
  | succ s =>
    obtain ⟨h1, h2, h3⟩ := hh.2 s (by omega)
    by_cases q : us s
    · have := h3 q
      omega
    · have := h2 q
      omega
theorem HR.more {A : Nat → Nat → Int32} {ap : Nat → Nat → Prop} {us : Nat → Prop} {H H' : Nat → Int32} {h Cn : Nat → Nat} {K x y : Nat} (hh : HR A ap us H h Cn K) (he : ∀ o, o < K → H' o = H o) (h1 : ¬ us K → H' K = -1 ∧ y = Cn K) (h2 : us K → H' K = nI x ∧ x ≤ Cn K ∧ (x < Cn K → OfH A ap H K (nI x)) ∧ (∀ h', h' < x → ¬ OfH A ap H K (nI h')) ∧ y = max (Cn K) (x + 1)) : HR A ap us H' (fun s => if s = K then x else h s) (fun s => if s = K + 1 then y else Cn s) (K + 1) := by
  have hcn := hh.cn
  have e1 : (fun s => if s = K + 1 then y else Cn s) (K + 1) = y := if_pos rfl
  have e2 : ∀ s, s ≤ K → (fun s => if s = K + 1 then y else Cn s) s = Cn s := fun s hs => if_neg (by omega)
  have e3 : (fun s => if s = K then x else h s) K = x := if_pos rfl
  have e4 : ∀ s, s < K → (fun s => if s = K then x else h s) s = h s := fun s hs => if_neg (by omega)
  refine ⟨(e2 0 (by omega)).trans hh.1, fun s hs => ?_⟩
  rw [e2 s (by omega)]
  refine ⟨hcn s (by omega), ?_⟩
  by_cases e : s = K
  · subst e
    rw [e1, e3]
    refine ⟨h1, fun u => ?_⟩
    obtain ⟨a1, a2, a3, a4, a5⟩ := h2 u
    exact ⟨a1, a2, fun q => (a3 q).cong (fun o ho => (he o ho).symm), fun h' q r => a4 h' q (r.cong he), a5⟩
  · rw [e2 (s + 1) (by omega), e4 s (by omega), he s (by omega)]
    obtain ⟨-, b1, b2⟩ := hh.2 s (by omega)
    refine ⟨b1, fun u => ?_⟩
    obtain ⟨a1, a2, a3, a4, a5⟩ := b2 u
    exact ⟨a1, a2, fun q => (a3 q).cong (fun o ho => (he o (by omega)).symm), fun h' q r => a4 h' q (r.cong (fun o ho => he o (by omega))), a5⟩
theorem k_leastHand {E : Nat × (Nat → Int32)} {d : Nat} {v : xV} {A : Nat → Nat → Int32} {cb : Bool} {L G : Nat → Nat} {K s C : Nat} {Q : Int32 → xV → Prop} (hsp : SpX v cb L G) (hK : K ≤ 20) (hs : s < K) (hA : ∀ a b, a < K → b < K → cmpI (fun l => gA v 47 (26 * a + l)) (fun l => gA v 47 (26 * b + l)) = A a b) (hC : gI v 74 4 = nI C) (hC2 : C ≤ 20) (kk : ∀ r, r ≤ C → (r < C → OfH A (ApX cb L G) (gA v 75) s (nI r)) → (∀ h', h' < r → ¬ OfH A (ApX cb L G) (gA v 75) s (nI h')) → Q (nI r) v) : KI E (d + 2) 14 [.ref 74, .int (nI s)] v Q := by
  refine KI.of ok_14 (Nat.le_of_ble_eq_true rfl) (w_X2_leastHand_0 ?_)
  refine lp_up (n := C) (P := fun i => (∀ h', h' < i → ¬ OfH A (ApX cb L G) (gA v 75) s (nI h')) → RI E (d + 2) 14 2 [(0, .ref 74), (1, .int (nI s)), (2, .int (nI i))] v Q) (fun h => w_X2_leastHand_2 ?_) (fun i hi ih h => w_X2_leastHand_2 ?_) (Nat.zero_le _) (fun h' q => absurd q (Nat.not_lt_zero _))
  · rw [hC]
    exact ⟨fun _ => kk C (Nat.le_refl _) (fun q => absurd q (Nat.lt_irrefl _)) h, fun z => absurd (nI_le (Nat.le_refl _) (by omega)) z⟩
  · rw [hC, nI_leI (by omega) (by omega), nI_add]
    refine ⟨fun z => by omega, fun _ => k_ofHandX hsp hK hs hA (fun q => ⟨fun z => absurd z nI_01, fun _ => kk i (by omega) (fun _ => q) h⟩) (fun q => ⟨fun _ => ih (fun h' r => ?_), fun z => absurd rfl z⟩)⟩
    by_cases e : h' = i
    · rw [e]
      exact q
    · exact h h' (by omega)
theorem k_giveHands {E : Nat × (Nat → Int32)} {d : Nat} {v : xV} {A : Nat → Nat → Int32} {us : Nat → Prop} {cb : Bool} {L G : Nat → Nat} {S K : Nat} {t : Int32} {Q : xV → Prop} (hsp : SpX v cb L G) (hS : gI v 25 12 = nI S) (hS2 : S ≤ 20) (hK : isKn (gA v 29) t S K) (hA : ∀ a b, a < K → b < K → cmpI (fun l => gA v 47 (26 * a + l)) (fun l => gA v 47 (26 * b + l)) = A a b) (hus : ∀ s, s < K → (us s ↔ ¬ gA v 48 s ≤ nI 0)) (kk : ∀ w h Cn, ScF v w → HR A (ApX cb L G) us (gA w 75) h Cn K → Q w) : KV E (d + 3) 13 [.ref 74, .int t] v Q := by
  have hK1 := hK.1
  refine KV.of ok_13 (Nat.le_of_ble_eq_true rfl) (w_X2_giveHands_0 (k_knownX2 (v := v_I v 74 4 (nI 0)) (S := S) hS hS2 (fun K' hK' => ?_)))
  have eK : K' = K := hK'.uniq hK
  subst eK
  refine lp_up (n := K') (P := fun i => ∀ w h Cn, ScF v w → SpX w cb L G → gI w 74 4 = nI (Cn i) → HR A (ApX cb L G) us (gA w 75) h Cn i → RV E (d + 3) 13 16 [(0, .ref 74), (2, .int (nI K')), (3, .int (nI i))] w Q) (fun w h Cn s1 s2 s3 s4 => w_X2_giveHands_16 ⟨fun _ => kk w h Cn s1 s4, fun z => absurd (nI_le (Nat.le_refl _) (by omega)) z⟩) (fun i hi ih w h Cn s1 s2 s3 s4 => w_X2_giveHands_16 ⟨fun z => ?_, fun _ => ?_⟩) (Nat.zero_le _) _ (fun _ => 0) (fun _ => 0) (ScF.vI v _ (by omega)) hsp rfl ⟨rfl, fun s hs => absurd hs (Nat.not_lt_zero _)⟩
  · exfalso
    rw [nI_leI (by omega) (by omega)] at z
    omega
  · have hi20 : vp_in (nI i) 20 := vp_in_nI (by omega) (by decide)
    have hcn := s4.cn i (Nat.le_refl _)
    rw [nI_clamp (by omega), s1.2.2.1 48 (by decide), nI_add]
    refine ⟨hi20, hi20, fun z => ?_, fun z => ?_⟩
    · have := ih (v_A w 75 (upd (gA w 75) i (-1))) _ _ (s1.trans (ScF.vA w _ (by omega))) s2 (s3.trans (by rw [if_pos rfl])) (s4.more (H' := upd (gA w 75) i (-1)) (x := 0) (y := Cn i) (fun o ho => upd_n _ _ (by omega)) (fun _ => ⟨upd_s _ _ _, rfl⟩) (fun u => absurd z ((hus i hi).mp u)))
      exact this
    · refine k_leastHand (v := v_A w 75 (upd (gA w 75) i (-1))) (A := A) (K := K') (C := Cn i) s2 (by omega) hi (fun a b ha hb => ?_) s3 (by omega) (fun r r1 r2 r3 => ⟨hi20, hi20, ?_⟩)
      · rw [← hA a b ha hb]
        have : gA (v_A w 75 (upd (gA w 75) i (-1))) 47 = gA v 47 := s1.2.2.1 47 (by decide)
        rw [this]
      · have r2' : r < Cn i → OfH A (ApX cb L G) (gA w 75) i (nI r) := fun q => (r2 q).cong (fun o ho => upd_n _ _ (by omega))
        have r3' : ∀ h', h' < r → ¬ OfH A (ApX cb L G) (gA w 75) i (nI h') := fun h' q c => r3 h' q (c.cong (fun o ho => (upd_n _ _ (by omega)).symm))
        have e1 : gI (v_A w 75 (upd (gA w 75) i (-1))) 74 4 = nI (Cn i) := s3
        have e2 : (if gI (v_A w 75 (upd (gA w 75) i (-1))) 74 4 < upd (gA (v_A w 75 (upd (gA w 75) i (-1))) 75) i (nI r) i + nI 1 then upd (gA (v_A w 75 (upd (gA w 75) i (-1))) 75) i (nI r) i + nI 1 else gI (v_A w 75 (upd (gA w 75) i (-1))) 74 4) = nI (max (Cn i) (r + 1)) := by
          rw [e1, upd_s, nI_add]
          by_cases q : Cn i < r + 1
          · rw [if_pos ((nI_ltI (by omega) (by omega)).mpr q), Nat.max_eq_right (by omega)]
          · rw [if_neg (fun z => q ((nI_ltI (by omega) (by omega)).mp z)), Nat.max_eq_left (by omega)]
        rw [e2]
        refine ih _ _ _ (((s1.trans (ScF.vA w _ (by omega))).trans (ScF.vA _ _ (by omega))).trans (ScF.vI _ _ (by omega))) s2 ?_ (s4.more (x := r) (y := max (Cn i) (r + 1)) (fun o ho => ?_) (fun u => absurd ((hus i hi).mpr z) u) (fun _ => ⟨?_, r1, r2', r3', rfl⟩))
        · rw [if_pos rfl]
          rfl
        · show upd (upd (gA w 75) i (-1)) i (nI r) o = gA w 75 o
          rw [upd_n _ _ (by omega), upd_n _ _ (by omega)]
        · exact upd_s _ _ _

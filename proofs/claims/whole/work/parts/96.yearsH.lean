/-! years, the class: settle -/
theorem albit_0 {B : Nat → Int64} (h : ∀ i, i < 560 → B i = (0 : Int64)) {sl y : Nat} (hsl : sl < 140) (hy : y < 200) : albit B sl y = false := by
  unfold albit
  rw [h _ (by omega)]
  exact BitVec.getLsbD_zero
theorem k_begin {E : Nat × (Nat → Int32)} {d : Nat} {v : xV} {t : Int32} {S : Nat} {Q : xV → Prop} (hS : gI v 25 12 = nI S) (hS2 : S ≤ 20) (kk : ∀ K F T H B, isKn (gA v 29) t S K → LmI v 0 F T → SlI v K (fun f _ => f < 0) H B → Q (ys (v_I v 67 10 (nI K)) (nI 0) F T H B)) : KV E (d + 1) 95 [.ref 67, .int t] v Q := by
  refine KV.of ok_95 (Nat.le_of_ble_eq_true rfl) (w_X10_begin_0 (k_knownX2 hS hS2 (fun K hK => ?_)))
  refine k_fill (by rfl) (by show 52 < 2 ^ 31; decide) (k_fill (by rfl) (by show 52 < 2 ^ 31; decide) (k_fillL (fun B hB => ?_)))
  obtain ⟨F, hF⟩ : ∃ F : Nat → Int32, F = (fun a => if a < 52 then nI 0 else gA v 68 a) := ⟨_, rfl⟩
  obtain ⟨T, hT⟩ : ∃ T : Nat → Int32, T = (fun a => if a < 52 then nI 199 else gA v 69 a) := ⟨_, rfl⟩
  have hF2 : ∀ k, k < 52 → F k = nI 0 := fun k hk => by rw [hF]; exact if_pos hk
  have hT2 : ∀ k, k < 52 → T k = nI 199 := fun k hk => by rw [hT]; exact if_pos hk
  have hL : LmI v 0 F T := by
    intro k y hk hy
    rw [hF2 k hk, hT2 k hk]
    exact ⟨fun _ f hf => by omega, fun _ => ⟨nz_le (by omega), nI_le (by omega) (by decide)⟩⟩
  have main : ∀ i, i ≤ 140 → ∀ H, (∀ j, j < i → H j = nI 0) → RV E (d + 1) 95 45 [(0, .ref 67), (2, .int (nI i))] (ys (v_I v 67 10 (nI K)) (nI 0) F T H B) Q := by
    intro i hi
    refine lp_up (n := 140) (P := fun i => ∀ H, (∀ j, j < i → H j = nI 0) → RV E (d + 1) 95 45 [(0, .ref 67), (2, .int (nI i))] (ys (v_I v 67 10 (nI K)) (nI 0) F T H B) Q) (fun H hH => w_X10_begin_45 ⟨fun _ => kk K F T H B hK hL (fun sl hsl => ⟨Or.inr ⟨hH sl hsl, fun ⟨f, z, _⟩ => by omega⟩, fun y hy => ?_⟩), fun z => absurd (by decide) z⟩) (fun i hi ih H hH => w_X10_begin_45 ?_) hi
    · rw [albit_0 hB hsl hy]
      exact ⟨fun z => (by cases z), fun ⟨f, ⟨z, _⟩, _⟩ => (by omega)⟩
    · have e70 : gA (ys (v_I v 67 10 (nI K)) (nI 0) F T H B) 70 = H := rfl
      simp (disch := omega) only [nI_clamp, vp_t, true_and, nI_leI, nI_add, e70, ys_70]
      refine ⟨fun z => absurd z (by omega), fun _ => ih _ (fun j hj => ?_)⟩
      by_cases e : j = i
      · rw [e, upd_s]
      · rw [upd_n _ _ e]
        exact hH j (by omega)
  have := main 0 (Nat.zero_le _) (gA v 70) (fun j hj => by omega)
  have e : ys (v_I v 67 10 (nI K)) (nI 0) F T (gA v 70) B = v_B (v_A (v_A (v_I (v_I v 67 10 (nI K)) 67 11 (nI 0)) 68 F) 69 T) 71 B := by
    unfold ys
    have : gA v 70 = gA (v_A (v_A (v_I (v_I v 67 10 (nI K)) 67 11 (nI 0)) 68 F) 69 T) 70 := rfl
    rw [this, vAself]
  rw [e, hF, hT] at this
  exact this
def SolD (v : xV) (K n : Nat) (y : Nat → Nat) : Prop := (∀ k, k < 52 → y k < 200 ∧ DomY v K n k (y k)) ∧ ∀ u w, Con v K n u w → y u ≤ y w
/-- what years may change -/
def YrF (v w : xV) : Prop := w.2.1 = v.2.1 ∧ w.2.2.2.2 = v.2.2.2.2 ∧ (∀ a b, a ≠ 67 → gI w a b = gI v a b) ∧ (∀ j, ¬ (68 ≤ j ∧ j ≤ 73) → gA w j = gA v j) ∧ ∀ j, j ≠ 71 → gB w j = gB v j
theorem YrF.ys (v : xV) (x : Int32) (K : Nat) (F T H : Nat → Int32) (B : Nat → Int64) : YrF v (ys (v_I v 67 10 (nI K)) x F T H B) := by
  refine ⟨rfl, rfl, fun a b hab => ?_, fun j hj => ?_, fun j hj => ?_⟩
  · show gI (v_I (v_I v 67 10 (nI K)) 67 11 x) a b = _
    rw [gI_I, if_neg hab, gI_I, if_neg hab]
  · show gA (v_A (v_A (v_A v 68 F) 69 T) 70 H) j = _
    rw [gA_A, if_neg (by omega), gA_A, if_neg (by omega), gA_A, if_neg (by omega)]
  · unfold Jvm.Pilot.CScrawlHouseLaw_law_r1749_da13ed.ys
    rw [gB_B, if_neg hj]
    rfl
theorem SolY.iff {v : xV} {K n : Nat} {x : Int32} {F T H : Nat → Int32} {B : Nat → Int64} (hL : LmI v n F T) (hS : SlI v K (fun f _ => f < n) H B) (y : Nat → Nat) : SolY (ys (v_I v 67 10 (nI K)) x F T H B) K n y ↔ SolD v K n y := by
  have hm : ∀ k z, k < 52 → z < 200 → (mY (ys (v_I v 67 10 (nI K)) x F T H B) k z = true ↔ DomY v K n k z) := fun k z hk hz => mayY_iff hL hS hk hz
  have hc : ∀ u w, Con (ys (v_I v 67 10 (nI K)) x F T H B) K n u w ↔ Con v K n u w := fun u w => Iff.rfl
  constructor
  · rintro ⟨z1, z2⟩
    exact ⟨fun k hk => ⟨(z1 k hk).1, (hm k _ hk (z1 k hk).1).mp (z1 k hk).2⟩, fun u w h => z2 u w ((hc u w).mpr h)⟩
  · rintro ⟨z1, z2⟩
    exact ⟨fun k hk => ⟨(z1 k hk).1, (hm k _ hk (z1 k hk).1).mpr (z1 k hk).2⟩, fun u w h => z2 u w ((hc u w).mp h)⟩
theorem k_settle {E : Nat × (Nat → Int32)} {d : Nat} {v : xV} {t : Int32} {S N : Nat} {Q : xV → Prop} (hS : gI v 25 12 = nI S) (hS2 : S ≤ 20) (hF : gI v 60 6 = nI N) (hN : N ≤ 80) (hHX : ∀ K, isKn (gA v 29) t S K → HearX (v_I v 67 10 (nI K)) K N) (hYX : ∀ K n, isKn (gA v 29) t S K → n ≤ N → YearX (v_I (v_I v 67 10 (nI K)) 67 11 (nI n)) K n)
    (k1 : ∀ K n w L G, isKn (gA v 29) t S K → isKn (gA v 66) t N n → YrF v w → gI w 67 12 = nI 1 → (∀ k, k < 52 → gA w 72 k = nI (L k) ∧ gA w 73 k = nI (G k)) → (SolD v K n L ∧ ∀ y, SolD v K n y → ∀ k, k < 52 → L k ≤ y k) → (SolD v K n G ∧ ∀ y, SolD v K n y → ∀ k, k < 52 → y k ≤ G k) → Q w)
    (k2 : ∀ K n w, isKn (gA v 29) t S K → isKn (gA v 66) t N n → YrF v w → gI w 67 12 = nI 0 → (¬ ∃ y, SolD v K n y) → Q w) : KV E (d + 5) 90 [.ref 67, .int t] v Q := by
  refine KV.of ok_90 (Nat.le_of_ble_eq_true rfl) (w_X10_settle_0 (k_begin hS hS2 (fun K F T H B hK hL hSl => k_factKn (v := ys (v_I v 67 10 (nI K)) (nI 0) F T H B) (F := N) hF hN (fun n hn => ?_))))
  have hn1 := hn.1
  have hX := hHX K hK
  refine lp_up (n := n) (P := fun i => ∀ F T H B, LmI v i F T → SlI v K (fun f _ => f < i) H B → RV E (d + 5) 90 16 [(0, .ref 67), (2, .int (nI n)), (3, .int (nI i))] (ys (v_I v 67 10 (nI K)) (nI i) F T H B) Q) (fun F T H B hL hSl => w_X10_settle_16 ⟨fun _ => ?_, fun z => absurd (nI_le (Nat.le_refl _) (by omega)) z⟩) (fun i hi ih F T H B hL hSl => w_X10_settle_16 ⟨fun z => ?_, fun _ => ?_⟩) (Nat.zero_le _) F T H B hL hSl
  · have hY : YearX (ys (v_I v 67 10 (nI K)) (nI n) F T H B) K n := hYX K n hK hn1
    have hiff := SolY.iff (x := nI n) hL hSl
    refine k_settleLeast hY (fun L f h1 h2 => ⟨vp_in_nI (by decide) (by decide), fun z => absurd z nI_01, fun _ => ?_⟩) (fun f h2 => ⟨vp_in_nI (by decide) (by decide), fun _ => ?_, fun z => absurd rfl z⟩)
    · have hY2 : YearX (v_I (v_A (ys (v_I v 67 10 (nI K)) (nI n) F T H B) 72 f) 67 12 (nI 1)) K n := hY
      refine k_settleGreatest hY2 (y0 := L) h2.1 (fun G g h3 h4 => ?_)
      have hyr := YrF.ys v (nI n) K F T H B
      refine k1 K n _ L G hK hn ⟨hyr.1, hyr.2.1, fun a b hab => ?_, fun j hj => ?_, fun j hj => hyr.2.2.2.2 j hj⟩ rfl (fun k hk => ⟨h1 k hk, h3 k hk⟩) ⟨(hiff L).mp h2.1, fun y hy k hk => h2.2 y ((hiff y).mpr hy) k hk⟩ ⟨(hiff G).mp h4.1, fun y hy k hk => h4.2 y ((hiff y).mpr hy) k hk⟩
      · show gI (v_I (v_A (ys (v_I v 67 10 (nI K)) (nI n) F T H B) 72 f) 67 12 (nI 1)) a b = _
        rw [gI_I, if_neg hab]
        exact hyr.2.2.1 a b hab
      · show gA (v_A (v_A (ys (v_I v 67 10 (nI K)) (nI n) F T H B) 72 f) 73 g) j = _
        rw [gA_A, if_neg (by omega), gA_A, if_neg (by omega)]
        exact hyr.2.2.2.1 j hj
    · have hyr := YrF.ys v (nI n) K F T H B
      refine k2 K n _ hK hn ⟨hyr.1, hyr.2.1, fun a b hab => ?_, fun j hj => ?_, fun j hj => hyr.2.2.2.2 j hj⟩ rfl (fun ⟨y, hy⟩ => h2 ⟨y, (hiff y).mpr hy⟩)
      · rw [gI_I, if_neg hab]
        exact hyr.2.2.1 a b hab
      · show gA (v_A (ys (v_I v 67 10 (nI K)) (nI n) F T H B) 72 f) j = _
        rw [gA_A, if_neg (by omega)]
        exact hyr.2.2.2.1 j hj
  · exfalso
    rw [nI_leI (by omega) (by omega)] at z
    omega
  · refine k_hear (v := v_I v 67 10 (nI K)) hX (show i < N by omega) hL hSl (fun F' T' H' B' hL' hS' => ?_)
    rw [nI_add]
    exact ih F' T' H' B' hL' hS'

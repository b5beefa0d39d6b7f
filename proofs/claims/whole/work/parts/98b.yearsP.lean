/-! years, the reference: what a reading leaves of a scrawl's years -/
def SlD (v : xV) (K n s j y : Nat) : Prop := (∃ f, f < n ∧ aplF v K f (7 * s + j)) → ∃ f, (f < n ∧ aplF v K f (7 * s + j)) ∧ rngF v f y
theorem aplF_0 {v : xV} {K f s : Nat} (hs : s < K) : aplF v K f (7 * s + 0) ↔ stoodF v f s := by
  unfold aplF
  rw [show (7 * s + 0) / 7 = s by omega, show (7 * s + 0) % 7 = 0 by omega]
  exact ⟨fun z => z.2.elim (fun y => y.2) (fun y => absurd y.1 (by omega)), fun z => ⟨hs, Or.inl ⟨rfl, z⟩⟩⟩
theorem aplF_1 {v : xV} {K f s i : Nat} (hs : s < K) (hi : i < 6) : aplF v K f (7 * s + (i + 1)) ↔ thingF v f s i := by
  unfold aplF
  rw [show (7 * s + (i + 1)) / 7 = s by omega, show (7 * s + (i + 1)) % 7 = i + 1 by omega]
  exact ⟨fun z => z.2.elim (fun y => absurd y.1 (by omega)) (fun y => y.2), fun z => ⟨hs, Or.inr ⟨by omega, z⟩⟩⟩
theorem ex_succ {P : Nat → Prop} {i : Nat} : (∃ f, f < i + 1 ∧ P f) ↔ (∃ f, f < i ∧ P f) ∨ P i := by
  constructor
  · rintro ⟨f, hf, h⟩
    by_cases e : f = i
    · rw [e] at h
      exact Or.inr h
    · exact Or.inl ⟨f, by omega, h⟩
  · rintro (⟨f, hf, h⟩ | h)
    · exact ⟨f, by omega, h⟩
    · exact ⟨i, by omega, h⟩
/-- what both sides hold of the reading of a scrawl -/
def RdX (v : xV) (s : Nat) (ws : List Nat) : Prop := (gA v 117 s = nI ws.length ∧ gA v 44 s = nI ws.length ∧ ws.length ≤ 6) ∧ (∀ i w, ws[i]? = some w → gA v 116 (6 * s + i) = nI w ∧ gA v 45 (6 * s + i) = nI w) ∧ (∀ j, j < 3 → gA v 46 (3 * s + j) = fstI (fun w => (gA v 8 w).toNatClampNeg) j ws) ∧ (∀ w, w ∈ ws → w < 80) ∧ gA v 87 = gA v 8 ∧ nW v ≤ 80 ∧ ∀ i, ∃ n, n < 5 ∧ gA v 8 i = nI n
theorem k_zero128 {v : xV} {f g : Nat → Int32} {R : Nat → xV → Prop} (step : ∀ i g, i < 200 → R (i + 1) (v_A (v_A v 127 f) 128 (upd g i (nI 0))) → R i (v_A (v_A v 127 f) 128 g)) (kk : ∀ g', (∀ y, y < 200 → g' y = nI 0) → R 200 (v_A (v_A v 127 f) 128 g')) : R 0 (v_A (v_A v 127 f) 128 g) := by
  refine lp_up (n := 200) (P := fun i => ∀ g, (∀ y, y < i → g y = nI 0) → R i (v_A (v_A v 127 f) 128 g)) (fun g h => kk g h) (fun i hi ih g h => step i g hi (ih _ (fun y hy => ?_))) (Nat.zero_le _) g (fun y hy => by omega)
  by_cases e : y = i
  · rw [e, upd_s]
  · rw [upd_n _ _ e]
    exact h y (by omega)
theorem k_keepRead {E : Nat × (Nat → Int32)} {d : Nat} {v : xV} {t up : Int32} {K N n s : Nat} {ws : List Nat} {f g : Nat → Int32} {Y : Nat → Nat → Bool} {Q : xV → Prop} (hX : RfX v t up K N n) (hR : RdX v s ws) (hs : s < K) (hY : YS f Y) (kk : ∀ f' g' Y', YS f' Y' → (∀ k y, y < 200 → (Y' k y = true ↔ Y k y = true ∧ (k = s → ∀ j, j < 7 → SlD v K n s j y))) → Q (v_A (v_A v 127 f') 128 g')) : KV E (d + 1) 206 [.ref 80, .int (nI s), .int t, .int up] (v_A (v_A v 127 f) 128 g) Q := by
  obtain ⟨⟨x1, x2, x3, x4⟩, -, ⟨z1, z2, z3, -⟩, ⟨-, -, e121, e122, e123, e124, e125⟩, -, hF, -⟩ := id hX
  obtain ⟨⟨r1, r2, r3⟩, r4, r5, r6, r7, r8, r9⟩ := hR
  have h87 : ∀ i, ∃ n, n < 5 ∧ gA v 87 i = nI n := by rw [r7]; exact r9
  have r5' : ∀ j, j < 3 → fstI (fun w => (gA v 87 w).toNatClampNeg) j ws = gA v 46 (3 * s + j) := by
    rw [r7]
    exact fun j hj => (r5 j hj).symm
  -- the words
  have words : ∀ k, k ≤ ws.length → ∀ f1 g1 Y1, YS f1 Y1 → (∀ k' y, y < 200 → (Y1 k' y = true ↔ Y k' y = true ∧ (k' = s → ∀ j, j < k + 1 → SlD v K n s j y))) → RV E (d + 1) 206 142 [(0, .ref 80), (1, .int (nI s)), (2, .int t), (3, .int up), (7, .int (nI k))] (v_A (v_A v 127 f1) 128 g1) Q := by
    intro k hk
    refine lp_up (n := ws.length) (P := fun k => ∀ f1 g1 Y1, YS f1 Y1 → (∀ k' y, y < 200 → (Y1 k' y = true ↔ Y k' y = true ∧ (k' = s → ∀ j, j < k + 1 → SlD v K n s j y))) → RV E (d + 1) 206 142 [(0, .ref 80), (1, .int (nI s)), (2, .int t), (3, .int up), (7, .int (nI k))] (v_A (v_A v 127 f1) 128 g1) Q) (fun f1 g1 Y1 h1 h2 => w_X12_keepByReading_142 ?_) (fun k hk ih f1 g1 Y1 h1 h2 => w_X12_keepByReading_142 ?_) hk
    · have e117 : gA (v_A (v_A v 127 f1) 128 g1) 117 s = nI ws.length := r1
      simp (disch := omega) only [nI_clamp, vp_t, true_and, e117, nI_leI, nI_add, pk_mul]
      refine ⟨fun _ => kk f1 g1 Y1 h1 (fun k' y hy => ?_), fun z => absurd (Nat.le_refl _) z⟩
      rw [h2 k' y hy]
      refine ⟨fun z => ⟨z.1, fun e j hj => ?_⟩, fun z => ⟨z.1, fun e j hj => z.2 e j (by omega)⟩⟩
      by_cases hj2 : j < ws.length + 1
      · exact z.2 e j hj2
      · rintro ⟨fa, q1, q2⟩
        exfalso
        obtain ⟨i, rfl⟩ : ∃ i, j = i + 1 := ⟨j - 1, by omega⟩
        have := ((aplF_1 hs (by omega)).mp q2).2.1
        rw [r2, nI_ltI (by omega) (by omega)] at this
        omega
    · have e117 : gA (v_A (v_A v 127 f1) 128 g1) 117 s = nI ws.length := r1
      obtain ⟨w, hw⟩ : ∃ w, ws[k]? = some w := ⟨ws[k], List.getElem?_eq_getElem hk⟩
      have e116 : gA (v_A (v_A v 127 f1) 128 g1) 116 (6 * s + k) = nI w := (r4 k w hw).1
      have hw80 : w < 80 := r6 w (List.mem_of_getElem? hw)
      have thg : ∀ fa, thingF v fa s k ↔ gA v 61 fa = nI 4 ∧ nI w = gA v 62 fa := by
        intro fa
        unfold thingF
        rw [r2, (r4 k w hw).2, nI_ltI (by omega) (by omega)]
        exact ⟨fun z => ⟨z.1, z.2.2⟩, fun z => ⟨z.1, hk, z.2⟩⟩
      simp (disch := omega) only [nI_clamp, vp_t, true_and, e117, nI_leI, nI_add, pk_mul, e116]
      refine ⟨fun z => absurd z (by omega), fun _ y3 e3 => ?_⟩
      subst e3
      refine k_zero128 (R := fun i v' => RV E (d + 1) 206 173 [(0, .ref 80), (1, .int (nI s)), (2, .int t), (3, .int up), (6, .int (nI 0)), (7, .int (nI k)), (8, .int (nI w)), (9, .int (nI i))] v' Q) (fun i g hi hR => w_X12_keepByReading_173 ⟨fun z => ?_, fun _ => ?_⟩) (fun g' hg' => w_X12_keepByReading_173 ⟨fun _ => ?_, fun z => absurd (by decide) z⟩)
      · exfalso
        rw [nI_leI (by decide) (by omega)] at z
        omega
      · have e : gA (v_A (v_A v 127 f1) 128 g) 128 = g := rfl
        simp (disch := omega) only [nI_clamp, vp_t, true_and, nI_add, e, vA_s]
        exact hR
      · have loop : ∀ i, i ≤ N → ∀ x6 g2, TF x6 (∃ fa, fa < i ∧ fa < n ∧ thingF v fa s k) → (∀ y, y < 200 → TF (g2 y) (∃ fa, fa < i ∧ (fa < n ∧ thingF v fa s k) ∧ rngF v fa y)) → RV E (d + 1) 206 198 [(0, .ref 80), (1, .int (nI s)), (2, .int t), (3, .int up), (6, .int x6), (7, .int (nI k)), (8, .int (nI w)), (9, .int (nI i))] (v_A (v_A v 127 f1) 128 g2) Q := by
          intro i hi
          refine lp_up (n := N) (P := fun i => ∀ x6 g2, TF x6 (∃ fa, fa < i ∧ fa < n ∧ thingF v fa s k) → (∀ y, y < 200 → TF (g2 y) (∃ fa, fa < i ∧ (fa < n ∧ thingF v fa s k) ∧ rngF v fa y)) → RV E (d + 1) 206 198 [(0, .ref 80), (1, .int (nI s)), (2, .int t), (3, .int up), (6, .int x6), (7, .int (nI k)), (8, .int (nI w)), (9, .int (nI i))] (v_A (v_A v 127 f1) 128 g2) Q) (fun x6 g2 q1 q2 => w_X12_keepByReading_198 ?_) (fun i hi ih x6 g2 q1 q2 => w_X12_keepByReading_198 ?_) hi
          · rw [show gI (v_A (v_A v 127 f1) 128 g2) 80 70 = nI N from z1]
            refine ⟨fun _ => ?_, fun z => absurd (nI_le (Nat.le_refl _) (by omega)) z⟩
            rw [nI_add]
            rcases q1 with ⟨rfl, fa, c1, c2⟩ | ⟨rfl, c1⟩
            · refine ⟨fun z => absurd z nI_01, fun _ => k_keepSome (P := fun y => ∃ fa, (fa < n ∧ thingF v fa s k) ∧ rngF v fa y) (by omega) h1 (fun y hy => (q2 y hy).cong ⟨fun ⟨fa, c1, c2⟩ => ⟨fa, c2⟩, fun ⟨fa, c2⟩ => ⟨fa, by omega, c2⟩⟩) (fun f3 Y3 b1 b2 => ih f3 g2 Y3 b1 (fun k' y hy => ?_))⟩
              rw [b2 k' y hy, h2 k' y hy]
              refine ⟨fun z => ⟨z.1.1, fun e j hj => ?_⟩, fun z => ⟨⟨z.1, fun e j hj => z.2 e j (by omega)⟩, fun e => ?_⟩⟩
              · by_cases ej : j = k + 1
                · subst ej
                  intro _
                  obtain ⟨fb, b3, b4⟩ := z.2 e
                  exact ⟨fb, ⟨b3.1, (aplF_1 hs (by omega)).mpr b3.2⟩, b4⟩
                · exact z.1.2 e j (by omega)
              · obtain ⟨fb, ⟨b3, b4⟩, b5⟩ := z.2 e (k + 1) (by omega) ⟨fa, c2.1, (aplF_1 hs (by omega)).mpr c2.2⟩
                exact ⟨fb, ⟨b3, (aplF_1 hs (by omega)).mp b4⟩, b5⟩
            · refine ⟨fun _ => ih f1 g2 Y1 h1 (fun k' y hy => ?_), fun z => absurd rfl z⟩
              rw [h2 k' y hy]
              refine ⟨fun z => ⟨z.1, fun e j hj => ?_⟩, fun z => ⟨z.1, fun e j hj => z.2 e j (by omega)⟩⟩
              by_cases ej : j = k + 1
              · subst ej
                rintro ⟨fb, b3, b4⟩
                exact absurd ⟨fb, by omega, b3, (aplF_1 hs (by omega)).mp b4⟩ c1
              · exact z.2 e j (by omega)
          · have e70 : gI (v_A (v_A v 127 f1) 128 g2) 80 70 = nI N := z1
            rw [e70, nI_leI (by omega) (by omega)]
            refine ⟨fun z => absurd z (by omega), fun _ => ?_⟩
            have hXf : RfX (v_A (v_A v 127 f1) 128 g2) t up K N n := hX
            have skip : ¬ (i < n ∧ thingF v i s k) → RV E (d + 1) 206 198 [(0, .ref 80), (1, .int (nI s)), (2, .int t), (3, .int up), (6, .int x6), (7, .int (nI k)), (8, .int (nI w)), (9, .int (nI (i + 1)))] (v_A (v_A v 127 f1) 128 g2) Q := by
              intro hno
              refine ih x6 g2 (q1.cong ?_) (fun y hy => (q2 y hy).cong ?_)
              · rw [ex_succ]
                exact ⟨Or.inl, fun z => z.elim id (fun y => absurd y hno)⟩
              · rw [ex_succ]
                exact ⟨Or.inl, fun z => z.elim id (fun y => absurd y.1 hno)⟩
            refine k_counts hXf hi (fun c1 c2 => ⟨fun z => absurd z nI_01, fun _ => ?_⟩) (fun c1 => ⟨fun _ => by rw [nI_add]; exact skip (fun z => c1 ⟨z.1, z.2.1⟩), fun z => absurd rfl z⟩)
            have c2 : gA v 61 i = nI 4 := c2
            have e122' : gA (v_A (v_A v 127 f1) 128 g2) 122 = gA v 62 := e122
            have e124' : gA (v_A (v_A v 127 f1) 128 g2) 124 = gA v 64 := e124
            simp (disch := omega) only [nI_clamp, vp_t, true_and, nI_add, e122', e124']
            refine ⟨fun c3 y6 e6 => ?_, fun c3 => skip (fun z => c3 ((thg i).mp z.2).2.symm)⟩
            have hth : thingF v i s k := (thg i).mpr ⟨c2, c3.symm⟩
            obtain ⟨a, b, ea, eb, hab⟩ : ∃ a b, gA v 64 i = nI a ∧ gA v 65 i = nI b ∧ a ≤ b ∧ b < 200 := by
              rcases (hF i hi).2 with h | ⟨h, _⟩ | ⟨_, _, h3, h4, h5⟩
              · rw [c2] at h
                exact absurd h (by decide)
              · rw [c2] at h
                exact absurd h (by decide)
              · obtain ⟨a, ha, ea⟩ := nI_of (i_nlt.mpr h3)
                have h6 : nI 0 ≤ gA v 65 i := by
                  rw [Int32.le_iff_toInt_le] at h3 h4 ⊢
                  omega
                obtain ⟨b, hb, eb⟩ := nI_of (i_nlt.mpr h6)
                rw [ea, eb, nI_leI ha hb] at h4
                rw [eb, nI_ltI hb (by decide)] at h5
                exact ⟨a, b, ea, eb, h4, h5⟩
            rw [ea] at e6
            subst e6
            have rng : ∀ y, y < 200 → (rngF v i y ↔ a ≤ y ∧ y ≤ b) := by
              intro y hy
              unfold rngF
              rw [c2, ea, eb, nI_leI (by omega) (by omega), nI_leI (by omega) (by omega)]
              exact ⟨fun z => z.elim (fun q => absurd q.1 (by decide)) (fun q => q.2), fun z => Or.inr ⟨rfl, z⟩⟩
            refine lp_up (n := b + 1) (P := fun j => a ≤ j → ∀ g3, (∀ y, y < 200 → TF (g3 y) ((∃ fa, fa < i ∧ (fa < n ∧ thingF v fa s k) ∧ rngF v fa y) ∨ (a ≤ y ∧ y < j))) → RV E (d + 1) 206 243 [(0, .ref 80), (1, .int (nI s)), (2, .int t), (3, .int up), (7, .int (nI k)), (8, .int (nI w)), (9, .int (nI i)), (10, .int (nI j))] (v_A (v_A v 127 f1) 128 g3) Q) (fun _ g3 b1 => w_X12_keepByReading_243 ?_) (fun j hj ih2 haj g3 b1 => w_X12_keepByReading_243 ?_) (show a ≤ b + 1 by omega) (Nat.le_refl a) g2 (fun y hy => (q2 y hy).cong ⟨Or.inl, fun z => z.elim id (fun q => by omega)⟩)
            · have e125' : gA (v_A (v_A v 127 f1) 128 g3) 125 i = nI b := by
                show gA v 125 i = nI b
                rw [e125]
                exact eb
              simp (disch := omega) only [nI_clamp, vp_t, true_and, nI_add, e125', nI_ltI]
              refine ⟨fun _ => ih (nI 1) g3 (Or.inl ⟨rfl, i, by omega, c1, hth⟩) (fun y hy => (b1 y hy).cong ?_), fun z => absurd (Nat.lt_succ_self b) z⟩
              rw [ex_succ, rng y hy]
              exact ⟨fun z => z.elim Or.inl (fun q => Or.inr ⟨⟨c1, hth⟩, by omega⟩), fun z => z.elim Or.inl (fun q => Or.inr (by omega))⟩
            · have e125' : gA (v_A (v_A v 127 f1) 128 g3) 125 i = nI b := by
                show gA v 125 i = nI b
                rw [e125]
                exact eb
              have e128 : gA (v_A (v_A v 127 f1) 128 g3) 128 = g3 := rfl
              simp (disch := omega) only [nI_clamp, vp_t, true_and, nI_add, e125', nI_ltI, e128, vA_s]
              refine ⟨fun z => absurd z (by omega), fun _ => ih2 (by omega) _ (fun y hy => ?_)⟩
              by_cases e : y = j
              · subst e
                rw [upd_s]
                exact Or.inl ⟨rfl, Or.inr (by omega)⟩
              · rw [upd_n _ _ e]
                exact (b1 y hy).cong ⟨fun z => z.elim Or.inl (fun q => Or.inr (by omega)), fun z => z.elim Or.inl (fun q => Or.inr (by omega))⟩
        refine loop 0 (Nat.zero_le _) (nI 0) g' (Or.inr ⟨rfl, fun ⟨fa, z, _⟩ => by omega⟩) (fun y hy => Or.inr ⟨hg' y hy, fun ⟨fa, z, _⟩ => by omega⟩)
  -- name and office
  refine KV.of ok_206 (Nat.le_of_ble_eq_true rfl) (w_X12_keepByReading_0 (k_firstM (v := v_A (v_A v 127 f) 128 g) (ws := ws) (by omega) (by decide) r1 r3 (fun i w hw => (r4 i w hw).1) r6 h87 (k_firstM (v := v_A (v_A v 127 f) 128 g) (ws := ws) (by omega) (by decide) r1 r3 (fun i w hw => (r4 i w hw).1) r6 h87 ?_)))
  rw [show fstI (fun w => (gA (v_A (v_A v 127 f) 128 g) 87 w).toNatClampNeg) 0 ws = gA v 46 (3 * s) from r5' 0 (by decide), show fstI (fun w => (gA (v_A (v_A v 127 f) 128 g) 87 w).toNatClampNeg) 2 ws = gA v 46 (3 * s + 2) from r5' 2 (by decide)]
  refine k_zero128 (R := fun i v' => RV E (d + 1) 206 22 [(0, .ref 80), (1, .int (nI s)), (2, .int t), (3, .int up), (4, .int (gA v 46 (3 * s))), (5, .int (gA v 46 (3 * s + 2))), (6, .int (nI 0)), (7, .int (nI i))] v' Q) (fun i g hi hR => w_X12_keepByReading_22 ⟨fun z => ?_, fun _ => ?_⟩) (fun g' hg' => w_X12_keepByReading_22 ⟨fun _ => ?_, fun z => absurd (by decide) z⟩)
  · exfalso
    rw [nI_leI (by decide) (by omega)] at z
    omega
  · have e : gA (v_A (v_A v 127 f) 128 g) 128 = g := rfl
    simp (disch := omega) only [nI_clamp, vp_t, true_and, nI_add, e, vA_s]
    exact hR
  · have fin : ∀ x6 g2, TF x6 (∃ fa, fa < N ∧ fa < n ∧ stoodF v fa s) → (∀ y, y < 200 → TF (g2 y) (∃ fa, fa < N ∧ (fa < n ∧ stoodF v fa s) ∧ rngF v fa y)) → RV E (d + 1) 206 129 [(0, .ref 80), (1, .int (nI s)), (2, .int t), (3, .int up), (6, .int x6)] (v_A (v_A v 127 f) 128 g2) Q := by
      intro x6 g2 q1 q2
      refine w_X12_keepByReading_129 ?_
      rcases q1 with ⟨rfl, fa, c1, c2⟩ | ⟨rfl, c1⟩
      · refine ⟨fun z => absurd z nI_01, fun _ => k_keepSome (P := fun y => ∃ fa, (fa < n ∧ stoodF v fa s) ∧ rngF v fa y) (by omega) hY (fun y hy => (q2 y hy).cong ⟨fun ⟨fa, c1, c2⟩ => ⟨fa, c2⟩, fun ⟨fa, c2⟩ => ⟨fa, by omega, c2⟩⟩) (fun f3 Y3 b1 b2 => words 0 (Nat.zero_le _) f3 g2 Y3 b1 (fun k' y hy => ?_))⟩
        rw [b2 k' y hy]
        refine ⟨fun z => ⟨z.1, fun e j hj => ?_⟩, fun z => ⟨z.1, fun e => ?_⟩⟩
        · obtain rfl : j = 0 := by omega
          intro _
          obtain ⟨fb, b3, b4⟩ := z.2 e
          exact ⟨fb, ⟨b3.1, (aplF_0 hs).mpr b3.2⟩, b4⟩
        · obtain ⟨fb, ⟨b3, b4⟩, b5⟩ := z.2 e 0 (by omega) ⟨fa, c2.1, (aplF_0 hs).mpr c2.2⟩
          exact ⟨fb, ⟨b3, (aplF_0 hs).mp b4⟩, b5⟩
      · refine ⟨fun _ => words 0 (Nat.zero_le _) f g2 Y hY (fun k' y hy => ?_), fun z => absurd rfl z⟩
        refine ⟨fun z => ⟨z, fun e j hj => ?_⟩, fun z => z.1⟩
        obtain rfl : j = 0 := by omega
        rintro ⟨fb, b3, b4⟩
        exact absurd ⟨fb, by omega, b3, (aplF_0 hs).mp b4⟩ c1
    have ns : ∀ fa, fa < N → stoodF v fa s → ¬ gA v 46 (3 * s) = -1 ∧ ¬ gA v 46 (3 * s + 2) = -1 := by
      rintro fa hfa ⟨c1, c2, c3⟩
      rw [c2, c3]
      rcases (hF fa hfa).1 with ⟨h, _⟩ | ⟨h, _⟩ | ⟨h, _⟩ | ⟨h, ⟨a, ha, ea, _⟩, b, hb, eb, _⟩ | ⟨h, _⟩
      · rw [c1] at h
        exact absurd h (by decide)
      · rw [c1] at h
        exact absurd h (by decide)
      · rw [c1] at h
        exact absurd h (by decide)
      · rw [ea, eb]
        exact ⟨m1_ne (by omega), m1_ne (by omega)⟩
      · rw [c1] at h
        exact absurd h (by decide)
    have stop : (∀ fa, fa < N → ¬ stoodF v fa s) → ∀ i, i ≤ N → ∀ x6 g2, TF x6 (∃ fa, fa < i ∧ fa < n ∧ stoodF v fa s) → (∀ y, y < 200 → TF (g2 y) (∃ fa, fa < i ∧ (fa < n ∧ stoodF v fa s) ∧ rngF v fa y)) → RV E (d + 1) 206 129 [(0, .ref 80), (1, .int (nI s)), (2, .int t), (3, .int up), (6, .int x6)] (v_A (v_A v 127 f) 128 g2) Q := by
      intro hno i hi x6 g2 q1 q2
      refine fin x6 g2 (q1.cong ?_) (fun y hy => (q2 y hy).cong ?_)
      · exact ⟨fun ⟨fa, c1, c2, c3⟩ => absurd c3 (hno fa (by omega)), fun ⟨fa, c1, c2, c3⟩ => absurd c3 (hno fa (by omega))⟩
      · exact ⟨fun ⟨fa, c1, ⟨c2, c3⟩, c4⟩ => absurd c3 (hno fa (by omega)), fun ⟨fa, c1, ⟨c2, c3⟩, c4⟩ => absurd c3 (hno fa (by omega))⟩
    have loop : ∀ i, i ≤ N → ∀ x6 g2, TF x6 (∃ fa, fa < i ∧ fa < n ∧ stoodF v fa s) → (∀ y, y < 200 → TF (g2 y) (∃ fa, fa < i ∧ (fa < n ∧ stoodF v fa s) ∧ rngF v fa y)) → RV E (d + 1) 206 47 [(0, .ref 80), (1, .int (nI s)), (2, .int t), (3, .int up), (4, .int (gA v 46 (3 * s))), (5, .int (gA v 46 (3 * s + 2))), (6, .int x6), (7, .int (nI i))] (v_A (v_A v 127 f) 128 g2) Q := by
      intro i hi
      refine lp_up (n := N) (P := fun i => ∀ x6 g2, TF x6 (∃ fa, fa < i ∧ fa < n ∧ stoodF v fa s) → (∀ y, y < 200 → TF (g2 y) (∃ fa, fa < i ∧ (fa < n ∧ stoodF v fa s) ∧ rngF v fa y)) → RV E (d + 1) 206 47 [(0, .ref 80), (1, .int (nI s)), (2, .int t), (3, .int up), (4, .int (gA v 46 (3 * s))), (5, .int (gA v 46 (3 * s + 2))), (6, .int x6), (7, .int (nI i))] (v_A (v_A v 127 f) 128 g2) Q) (fun x6 g2 q1 q2 => w_X12_keepByReading_47 ?_) (fun i hi ih x6 g2 q1 q2 => w_X12_keepByReading_47 ?_) hi
      · rw [show gI (v_A (v_A v 127 f) 128 g2) 80 70 = nI N from z1]
        exact ⟨fun _ => fin x6 g2 q1 q2, fun z => absurd (nI_le (Nat.le_refl _) (by omega)) z⟩
      · have e70 : gI (v_A (v_A v 127 f) 128 g2) 80 70 = nI N := z1
        rw [e70, nI_leI (by omega) (by omega)]
        refine ⟨fun z => absurd z (by omega), fun _ => ⟨fun z => stop (fun fa h1 h2 => (ns fa h1 h2).1 z) i (by omega) x6 g2 q1 q2, fun _ => ⟨fun z => stop (fun fa h1 h2 => (ns fa h1 h2).2 z) i (by omega) x6 g2 q1 q2, fun _ => ?_⟩⟩⟩
        have hXf : RfX (v_A (v_A v 127 f) 128 g2) t up K N n := hX
        have skip : ¬ (i < n ∧ stoodF v i s) → RV E (d + 1) 206 47 [(0, .ref 80), (1, .int (nI s)), (2, .int t), (3, .int up), (4, .int (gA v 46 (3 * s))), (5, .int (gA v 46 (3 * s + 2))), (6, .int x6), (7, .int (nI (i + 1)))] (v_A (v_A v 127 f) 128 g2) Q := by
          intro hno
          refine ih x6 g2 (q1.cong ?_) (fun y hy => (q2 y hy).cong ?_)
          · rw [ex_succ]
            exact ⟨Or.inl, fun z => z.elim id (fun y => absurd y hno)⟩
          · rw [ex_succ]
            exact ⟨Or.inl, fun z => z.elim id (fun y => absurd y.1 hno)⟩
        refine k_counts hXf hi (fun c1 c2 => ⟨fun z => absurd z nI_01, fun _ => ?_⟩) (fun c1 => ⟨fun _ => by rw [nI_add]; exact skip (fun z => c1 ⟨z.1, z.2.1⟩), fun z => absurd rfl z⟩)
        have c2 : gA v 61 i = nI 3 := c2
        obtain ⟨a, ha, ea⟩ : isN 200 (gA v 64 i) := by
          rcases (hF i hi).2 with h | ⟨_, h⟩ | ⟨_, h, _⟩
          · rw [c2] at h
            exact absurd h (by decide)
          · exact h
          · exact absurd c2 h
        have e122' : gA (v_A (v_A v 127 f) 128 g2) 122 = gA v 62 := e122
        have e123' : gA (v_A (v_A v 127 f) 128 g2) 123 = gA v 63 := e123
        have e124' : gA (v_A (v_A v 127 f) 128 g2) 124 i = nI a := by
          show gA v 124 i = nI a
          rw [e124]
          exact ea
        have e128 : gA (v_A (v_A v 127 f) 128 g2) 128 = g2 := rfl
        simp (disch := omega) only [nI_clamp, vp_t, true_and, nI_add, e122', e123', e124', e128, vA_s]
        refine ⟨fun c3 => skip (fun z => c3 z.2.2.1.symm), fun c3 => ⟨fun c4 => ?_, fun c4 => skip (fun z => c4 z.2.2.2.symm)⟩⟩
        have hst : stoodF v i s := ⟨c2, c3.symm, c4.symm⟩
        have rng : ∀ y, y < 200 → (rngF v i y ↔ y = a) := by
          intro y hy
          unfold rngF
          rw [c2, ea]
          have hay : nI a = nI y ↔ a = y := nI_eq (by omega) (by omega)
          exact ⟨fun z => z.elim (fun q => (hay.mp q.2).symm) (fun q => absurd q.1 (by decide)), fun z => Or.inl ⟨rfl, hay.mpr z.symm⟩⟩
        refine ih (nI 1) _ (Or.inl ⟨rfl, i, by omega, c1, hst⟩) (fun y hy => ?_)
        rw [ex_succ, rng y hy]
        by_cases e : y = a
        · subst e
          rw [upd_s]
          exact Or.inl ⟨rfl, Or.inr ⟨⟨c1, hst⟩, rfl⟩⟩
        · rw [upd_n _ _ e]
          exact (q2 y hy).cong ⟨Or.inl, fun z => z.elim id (fun q => absurd q.2 e)⟩
    exact loop 0 (Nat.zero_le _) (nI 0) g' (Or.inr ⟨rfl, fun ⟨fa, z, _⟩ => by omega⟩) (fun y hy => Or.inr ⟨hg' y hy, fun ⟨fa, z, _⟩ => by omega⟩)

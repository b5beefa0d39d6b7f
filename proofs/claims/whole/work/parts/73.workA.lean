/-! the reference: letters and words weighed -/
def Gm (v : xV) (lc : Nat → Nat → Option Nat) (N : Nat) : Cx := (N, (gI v 80 20).toNatClampNeg, fun w => (gA v 86 w).toNatClampNeg, fun w => (gA v 87 w).toNatClampNeg, fun w k => wco lc (fun i => (gA v 85 (10 * w + i)).toNatClampNeg) (gA v 86 w).toNatClampNeg k N)
def WordM (v : xV) (W : Nat) : Prop := gI v 80 20 = nI W ∧ W ≤ 80 ∧ (∀ i, i < W → ∃ n, (1 ≤ n ∧ n ≤ 10) ∧ gA v 86 i = nI n) ∧ (∀ i, ∃ n, n < 26 ∧ gA v 85 i = nI n) ∧ ∀ i, ∃ n, n < 5 ∧ gA v 87 i = nI n
/-- the lore that a cost rests on, the reference's -/
def LoreM (v : xV) (P D : Nat) : Prop := (gI v 80 51 = nI P ∧ P ≤ 60) ∧ (gI v 80 52 = nI D ∧ D ≤ 40) ∧ (∀ i, isO 26 (gA v 111 i)) ∧ (∀ i, ∃ n, n ≤ 3 ∧ gA v 83 i = nI n) ∧ (∀ i, ∃ b, b < 256 ∧ gA v 84 i = nI b) ∧ IvH (gA v 9) (gA v 10) (gA v 93) (gA v 94) (gA v 95)
def LCm (v : xV) (s t : Int32) (P D : Nat) : Nat → Nat → Option Nat := LC (gA v 83) (gA v 84) (gA v 106) (gA v 107) (gA v 111) (gA v 9) (lastI (phP (gA v 104) (gA v 105) s t) P) (fun q => lastI (drP (gA v 108) (gA v 109) (gA v 110) s t q) D)
def wlM (lc : Nat → Nat → Option Nat) (o : Nat → Int32) (n : Nat) : Nat → Int32 := fun i => if i < n then eM (lc (i / 26) (i % 26)) else o i
theorem wlM_0 (lc : Nat → Nat → Option Nat) (o : Nat → Int32) : wlM lc o 0 = o := by funext i; unfold wlM; rw [if_neg (by omega)]
theorem wlM_s (lc : Nat → Nat → Option Nat) (o : Nat → Int32) (n : Nat) : upd (wlM lc o n) n (eM (lc (n / 26) (n % 26))) = wlM lc o (n + 1) := by
  funext i
  rw [upd_i]
  unfold wlM
  by_cases h : i = n
  · subst h
    rw [if_pos rfl, if_pos (by omega)]
  · rw [if_neg h]
    by_cases h2 : i < n
    · rw [if_pos h2, if_pos (by omega)]
    · rw [if_neg h2, if_neg (by omega)]
theorem k_workA {E : Nat × (Nat → Int32)} {d : Nat} {v : xV} {s N P D : Nat} {t : Int32} {Q : xV → Prop} (hL : LoreM v P D) (hN2 : N ≤ 24) (kk : RV E (d + 2) 183 64 [(0, .ref 80), (1, .int (nI s)), (3, .int (nI N)), (4, .int (nI 0))] (v_A v 112 (wlM (LCm v (nI s) t P D) (gA v 112) (26 * N))) Q) : RV E (d + 2) 183 10 [(0, .ref 80), (1, .int (nI s)), (2, .int t), (3, .int (nI N)), (4, .int (nI 0))] v Q := by
  obtain ⟨⟨l1, l1'⟩, ⟨l2, l2'⟩, l3, l4, l5, l6⟩ := hL
  obtain ⟨lc, hlc⟩ : ∃ lc, lc = LCm v (nI s) t P D := ⟨_, rfl⟩
  rw [← hlc] at kk
  have main : RV E (d + 2) 183 10 [(0, .ref 80), (1, .int (nI s)), (2, .int t), (3, .int (nI N)), (4, .int (nI 0))] (v_A v 112 (wlM lc (gA v 112) (26 * 0))) Q := by
    refine lp_up (n := N) (P := fun k => RV E (d + 2) 183 10 [(0, .ref 80), (1, .int (nI s)), (2, .int t), (3, .int (nI N)), (4, .int (nI k))] (v_A v 112 (wlM lc (gA v 112) (26 * k))) Q) (w_X12_workOut_10 ⟨fun _ => kk, fun h => absurd (nI_le (Nat.le_refl _) (by omega)) h⟩) (fun k hk ih => w_X12_workOut_10 ⟨fun h => ?_, fun _ => ?_⟩) (Nat.zero_le _)
    · exfalso
      rw [nI_leI (by omega) (by omega)] at h
      omega
    · refine lp_up (n := 26) (P := fun l => RV E (d + 2) 183 19 [(0, .ref 80), (1, .int (nI s)), (2, .int t), (3, .int (nI N)), (4, .int (nI k)), (5, .int (nI l))] (v_A v 112 (wlM lc (gA v 112) (26 * k + l))) Q) (w_X12_workOut_19 ⟨fun _ => ?_, fun h => absurd (by decide) h⟩) (fun l hl ih2 => w_X12_workOut_19 ⟨fun h => ?_, fun _ => ?_⟩) (Nat.zero_le _)
      · rw [nI_add]
        exact ih
      · exfalso
        rw [nI_leI (by decide) (by omega)] at h
        omega
      · obtain ⟨n, hn, en⟩ := l4 l
        refine k_costOf (v := v_A v 112 (wlM lc (gA v 112) (26 * k + l))) (P := P) (D := D) l1 l1' l2 l2' l3 (by omega) hl en hn l5 l6 ?_
        simp (disch := omega) only [nI_add, pk_mul, nI_clamp, nI_leI, nI_ltI, nI_eq, vp_t, true_and]
        have e : upd (gA (v_A v 112 (wlM lc (gA v 112) (26 * k + l))) 112) (26 * k + l) (eM (lc k l)) = wlM lc (gA v 112) (26 * k + (l + 1)) := by
          have := wlM_s lc (gA v 112) (26 * k + l)
          rw [show (26 * k + l) / 26 = k by omega, show (26 * k + l) % 26 = l by omega] at this
          exact this
        have e2 : LC (gA (v_A v 112 (wlM lc (gA v 112) (26 * k + l))) 83) (gA (v_A v 112 (wlM lc (gA v 112) (26 * k + l))) 84) (gA (v_A v 112 (wlM lc (gA v 112) (26 * k + l))) 106) (gA (v_A v 112 (wlM lc (gA v 112) (26 * k + l))) 107) (gA (v_A v 112 (wlM lc (gA v 112) (26 * k + l))) 111) (gA (v_A v 112 (wlM lc (gA v 112) (26 * k + l))) 9) (lastI (phP (gA (v_A v 112 (wlM lc (gA v 112) (26 * k + l))) 104) (gA (v_A v 112 (wlM lc (gA v 112) (26 * k + l))) 105) (nI s) t) P) (fun q => lastI (drP (gA (v_A v 112 (wlM lc (gA v 112) (26 * k + l))) 108) (gA (v_A v 112 (wlM lc (gA v 112) (26 * k + l))) 109) (gA (v_A v 112 (wlM lc (gA v 112) (26 * k + l))) 110) (nI s) t q) D) k l = lc k l := by
          rw [hlc]
          rfl
        rw [e2, e, vA_s]
        exact ih2
  rw [Nat.mul_zero, wlM_0, vAself] at main
  exact main
/-- word costs as the reference holds them -/
def WC (G : Cx) (B : Nat → Int32) : Prop := ∀ w k, w < cW G → k < cN G → B (24 * w + k) = eM (cc G w k)
theorem k_workB {E : Nat × (Nat → Int32)} {d : Nat} {v : xV} {s N W : Nat} {lc : Nat → Nat → Option Nat} {Q : xV → Prop} (hW : WordM v W) (hN2 : N ≤ 24) (h112 : ∀ k l, k < N → l < 26 → gA v 112 (26 * k + l) = eM (lc k l)) (hlc : ∀ k l x, lc k l = some x → x ≤ 16) (kk : ∀ B, WC (Gm v lc N) B → RV E (d + 1) 183 215 [(0, .ref 80), (1, .int (nI s)), (3, .int (nI N)), (4, .int (nI 100000000)), (5, .int (nI 0))] (v_A v 113 B) Q) : RV E (d + 1) 183 64 [(0, .ref 80), (1, .int (nI s)), (3, .int (nI N)), (4, .int (nI 0))] v Q := by
  obtain ⟨hW1, hW2, hW3, hW4, hW5⟩ := hW
  have hcW : cW (Gm v lc N) = W := by
    show (gI v 80 20).toNatClampNeg = W
    rw [hW1, nI_clamp (by omega)]
  have outer : ∀ w, w ≤ W → ∀ B, (∀ w' k, w' < w → k < N → B (24 * w' + k) = eM (cc (Gm v lc N) w' k)) → RV E (d + 1) 183 64 [(0, .ref 80), (1, .int (nI s)), (3, .int (nI N)), (4, .int (nI w))] (v_A v 113 B) Q := by
    intro w hw
    refine lp_up (n := W) (P := fun w => ∀ B, (∀ w' k, w' < w → k < N → B (24 * w' + k) = eM (cc (Gm v lc N) w' k)) → RV E (d + 1) 183 64 [(0, .ref 80), (1, .int (nI s)), (3, .int (nI N)), (4, .int (nI w))] (v_A v 113 B) Q) (fun B hB => w_X12_workOut_64 ?_) (fun w hw ih B hB => w_X12_workOut_64 ?_) hw
    · rw [show gI (v_A v 113 B) 80 20 = nI W from hW1]
      refine ⟨fun _ => kk B (fun w' k h1 h2 => hB w' k (by rw [hcW] at h1; exact h1) h2), fun h => absurd (nI_le (Nat.le_refl _) (by omega)) h⟩
    · rw [show gI (v_A v 113 B) 80 20 = nI W from hW1, nI_leI (by omega) (by omega)]
      refine ⟨fun h => by omega, fun _ => ?_⟩
      obtain ⟨n, hn, en⟩ := hW3 w hw
      have inner : ∀ k, k ≤ N → ∀ B, (∀ w' k', w' < w → k' < N → B (24 * w' + k') = eM (cc (Gm v lc N) w' k')) → (∀ k', k' < k → B (24 * w + k') = eM (cc (Gm v lc N) w k')) → RV E (d + 1) 183 76 [(0, .ref 80), (1, .int (nI s)), (3, .int (nI N)), (4, .int (nI w)), (5, .int (nI k))] (v_A v 113 B) Q := by
        intro k hk
        refine lp_up (n := N) (P := fun k => ∀ B, (∀ w' k', w' < w → k' < N → B (24 * w' + k') = eM (cc (Gm v lc N) w' k')) → (∀ k', k' < k → B (24 * w + k') = eM (cc (Gm v lc N) w k')) → RV E (d + 1) 183 76 [(0, .ref 80), (1, .int (nI s)), (3, .int (nI N)), (4, .int (nI w)), (5, .int (nI k))] (v_A v 113 B) Q) (fun B hB hB2 => w_X12_workOut_76 ⟨fun _ => ?_, fun h => absurd (nI_le (Nat.le_refl _) (by omega)) h⟩) (fun k hk ih2 B hB hB2 => w_X12_workOut_76 ⟨fun h => ?_, fun _ => ?_⟩) hk
        · rw [nI_add]
          refine ih B (fun w' k h1 h2 => ?_)
          by_cases e : w' = w
          · subst e
            exact hB2 k h2
          · exact hB w' k (by omega) h2
        · exfalso
          rw [nI_leI (by omega) (by omega)] at h
          omega
        · -- the sum is stored
          have store : ∀ x, eM x = eM (cc (Gm v lc N) w k) → (∀ y, x = some y → y ≤ 160) → RV E (d + 1) 183 166 [(0, .ref 80), (1, .int (nI s)), (3, .int (nI N)), (4, .int (nI w)), (5, .int (nI k)), (6, .int (eM x))] (v_A v 113 B) Q := by
            intro x hx hy
            refine w_X12_workOut_166 ?_
            simp (disch := omega) only [pk_mul, nI_add, nI_clamp, vp_t, true_and, vA_s]
            have nx : ∀ z : Int32, z = eM (cc (Gm v lc N) w k) → RV E (d + 1) 183 76 [(0, .ref 80), (1, .int (nI s)), (3, .int (nI N)), (4, .int (nI w)), (5, .int (nI (k + 1)))] (v_A v 113 (upd (gA (v_A v 113 B) 113) (24 * w + k) z)) Q := by
              intro z hz
              refine ih2 _ (fun w' k' h1 h2 => ?_) (fun k' h1 => ?_)
              · show upd B (24 * w + k) z _ = _
                rw [upd_n _ _ (by omega)]
                exact hB w' k' h1 h2
              · show upd B (24 * w + k) z _ = _
                by_cases e : k' = k
                · rw [e, upd_s, hz]
                · rw [upd_n _ _ (by omega)]
                  exact hB2 k' (by omega)
            cases x with
            | none => exact ⟨fun _ => nx _ hx, fun h => absurd (by decide) h⟩
            | some y =>
              have := hy y rfl
              refine ⟨fun h => ?_, fun _ => nx _ hx⟩
              exfalso
              have h : nI 100000000 ≤ nI y := h
              rw [nI_leI (by decide) (by omega)] at h
              omega
          have e86 : gA (v_A v 113 B) 86 w = nI n := en
          simp (disch := omega) only [nI_add, nI_clamp, vp_t, true_and, e86, nI_leI]
          have ecc : cc (Gm v lc N) w k = wco lc (fun i => (gA v 85 (10 * w + i)).toNatClampNeg) n k N := by
            show wco lc (fun i => (gA v 85 (10 * w + i)).toNatClampNeg) (gA v 86 w).toNatClampNeg k N = _
            rw [en, nI_clamp (by omega)]
          refine ⟨fun hle => ?_, fun hle => ?_⟩
          · unfold wco at ecc
            rw [if_pos hle] at ecc
            have sum : ∀ i, i ≤ n → RV E (d + 1) 183 108 [(0, .ref 80), (1, .int (nI s)), (3, .int (nI N)), (4, .int (nI w)), (5, .int (nI k)), (6, .int (eM (wsum lc (fun i => (gA v 85 (10 * w + i)).toNatClampNeg) k i))), (7, .int (nI i))] (v_A v 113 B) Q := by
              intro i hi
              refine lp_up (n := n) (P := fun i => RV E (d + 1) 183 108 [(0, .ref 80), (1, .int (nI s)), (3, .int (nI N)), (4, .int (nI w)), (5, .int (nI k)), (6, .int (eM (wsum lc (fun i => (gA v 85 (10 * w + i)).toNatClampNeg) k i))), (7, .int (nI i))] (v_A v 113 B) Q) (w_X12_workOut_108 ?_) (fun i hi ih3 => w_X12_workOut_108 ?_) hi
              · simp (disch := omega) only [nI_clamp, vp_t, true_and, e86, nI_leI]
                refine ⟨fun _ => store _ (by rw [ecc]) (fun y hy => ?_), fun h => absurd (Nat.le_refl _) h⟩
                have := wsum_le hlc n y hy
                omega
              · simp (disch := omega) only [nI_clamp, vp_t, true_and, e86, nI_leI]
                refine ⟨fun h => by omega, fun _ => ?_⟩
                cases e1 : wsum lc (fun i => (gA v 85 (10 * w + i)).toNatClampNeg) k i with
                | none =>
                  refine ⟨fun _ => store none ?_ (fun y hy => by cases hy), fun h => absurd (by decide) h⟩
                  rw [ecc, wsum_nn e1 (by omega)]
                | some x =>
                  have hx := wsum_le hlc i x e1
                  obtain ⟨l, hl, el⟩ := hW4 (10 * w + i)
                  have el : gA (v_A v 113 B) 85 (10 * w + i) = nI l := el
                  have el2 : (gA v 85 (10 * w + i)).toNatClampNeg = l := by rw [show gA v 85 (10 * w + i) = nI l from el, nI_clamp (by omega)]
                  have e112 : gA (v_A v 113 B) 112 (26 * (k + i) + l) = eM (lc (k + i) l) := h112 (k + i) l (by omega) hl
                  have hne : ¬ nI 100000000 ≤ eM (some x) := by
                    show ¬ nI 100000000 ≤ nI x
                    rw [nI_leI (by decide) (by omega)]
                    omega
                  refine ⟨fun h => absurd h hne, fun _ => ?_⟩
                  simp (disch := omega) only [pk_mul, nI_add, nI_clamp, vp_t, true_and, el, e112, forall_eq]
                  cases e2 : lc (k + i) l with
                  | none =>
                    -- too dear: the loop ends at the next turn
                    have hn2 : wsum lc (fun i => (gA v 85 (10 * w + i)).toNatClampNeg) k (i + 1) = none := wsum_n (by rw [el2]; exact e2)
                    refine w_X12_workOut_108 ?_
                    have e3 : eM (some x) + eM none = nI (x + 100000000) := nI_add _ _
                    rw [e3]
                    simp (disch := omega) only [nI_clamp, vp_t, true_and, e86, nI_leI]
                    have st2 : RV E (d + 1) 183 166 [(0, .ref 80), (1, .int (nI s)), (3, .int (nI N)), (4, .int (nI w)), (5, .int (nI k)), (6, .int (nI (x + 100000000)))] (v_A v 113 B) Q := by
                      refine w_X12_workOut_166 ⟨fun _ => ?_, fun h => absurd (nI_le (by omega) (by omega)) h⟩
                      have := store none (by rw [ecc, wsum_nn hn2 (by omega)]) (fun y hy => by cases hy)
                      simp (disch := omega) only [pk_mul, nI_add, nI_clamp, vp_t, true_and, vA_s]
                      refine ih2 _ (fun w' k' h1 h2 => ?_) (fun k' h1 => ?_)
                      · show upd B (24 * w + k) _ _ = _
                        rw [upd_n _ _ (by omega)]
                        exact hB w' k' h1 h2
                      · show upd B (24 * w + k) _ _ = _
                        by_cases e : k' = k
                        · rw [e, upd_s, ecc, wsum_nn hn2 (by omega)]
                          rfl
                        · rw [upd_n _ _ (by omega)]
                          exact hB2 k' (by omega)
                    exact ⟨fun _ => st2, fun _ => ⟨fun _ => st2, fun h => absurd (by omega) h⟩⟩
                  | some y =>
                    rw [wsum_s e1 (by rw [el2]; exact e2)] at ih3
                    rw [show eM (some x) + eM (some y) = eM (some (x + y)) from nI_add _ _]
                    exact ih3
            exact sum 0 (by omega)
          · unfold wco at ecc
            rw [if_neg hle] at ecc
            refine w_X12_workOut_108 ?_
            simp (disch := omega) only [nI_clamp, vp_t, true_and, e86, nI_leI]
            refine ⟨fun h => by omega, fun _ => ⟨fun _ => store none (by rw [ecc]) (fun y hy => by cases hy), fun h => absurd (Nat.le_refl _) h⟩⟩
      exact inner 0 (by omega) B hB (fun k' h => by omega)
  have := outer 0 (by omega) (gA v 113) (fun w' k h => by omega)
  rw [vAself] at this
  exact this

/-! what the reader may change; a search begun -/
def RdF (v v' : xV) : Prop := (∀ a b, a ≠ 49 → gI v' a b = gI v a b) ∧ (∀ a b, gL v' a b = gL v a b) ∧ (∀ j, (j < 39 ∨ (60 ≤ j ∧ j < 140)) → gA v' j = gA v j) ∧ ∀ j, j < 140 → gB v' j = gB v j
theorem RdF.refl (v : xV) : RdF v v := ⟨fun _ _ _ => rfl, fun _ _ => rfl, fun _ _ => rfl, fun _ _ => rfl⟩
theorem RdF.trans {u v w : xV} (h : RdF u v) (h' : RdF v w) : RdF u w := ⟨fun a b hn => (h'.1 a b hn).trans (h.1 a b hn), fun a b => (h'.2.1 a b).trans (h.2.1 a b), fun j hj => (h'.2.2.1 j hj).trans (h.2.2.1 j hj), fun j hj => (h'.2.2.2 j hj).trans (h.2.2.2 j hj)⟩
theorem RdF.A (v : xV) {j : Nat} (hj : (39 ≤ j ∧ j < 60) ∨ 140 ≤ j) (f : Nat → Int32) : RdF v (v_A v j f) := ⟨fun _ _ _ => rfl, fun _ _ => rfl, fun i hi => by rw [gA_A, if_neg (by omega)], fun _ _ => rfl⟩
theorem RdF.I (v : xV) (k : Nat) (x : Int32) : RdF v (v_I v 49 k x) := ⟨fun a b hn => by rw [gI_I, if_neg hn], fun _ _ => rfl, fun _ _ => rfl, fun _ _ => rfl⟩
theorem RdF.grow {v : xV} (h : 140 ≤ gn v) (N : Nat) : RdF v (v_grow v N) := by
  refine ⟨fun _ _ _ => rfl, fun _ _ => rfl, fun j hj => ?_, fun j hj => ?_⟩
  · show xu1 (xu1 (xu1 v.2.2.1 (gn v) (fun _ => 0)) (gn v + 1) (fun _ => 0)) (gn v + 2) (fun _ => 0) j = _
    exact (xu1_n _ _ (by omega)).trans ((xu1_n _ _ (by omega)).trans (xu1_n _ _ (by omega)))
  · show xu1 (xu1 (xu1 v.2.2.2.1 (gn v) (fun _ => 0)) (gn v + 1) (fun _ => 0)) (gn v + 2) (fun _ => 0) j = _
    exact (xu1_n _ _ (by omega)).trans ((xu1_n _ _ (by omega)).trans (xu1_n _ _ (by omega)))
theorem grow_l {v : xV} (h : 140 ≤ gn v) (N : Nat) {j : Nat} (hj : j < 140) : gA (v_grow v N) j = gA v j := by
  show xu1 (xu1 (xu1 v.2.2.1 (gn v) (fun _ => 0)) (gn v + 1) (fun _ => 0)) (gn v + 2) (fun _ => 0) j = _
  exact (xu1_n _ _ (by omega)).trans ((xu1_n _ _ (by omega)).trans (xu1_n _ _ (by omega)))
theorem grow_N {v : xV} (h : 140 ≤ gn v) (N : Nat) : gN (v_grow v N) (gn v) = N ∧ gN (v_grow v N) (gn v + 1) = N ∧ gN (v_grow v N) (gn v + 2) = N := by
  refine ⟨?_, ?_, ?_⟩
  · unfold gN
    rw [if_neg (by omega)]
    show xu1 (xu1 (xu1 v.2.2.2.2.1 (gn v) N) (gn v + 1) N) (gn v + 2) N (gn v) = N
    rw [xu1_n _ _ (by omega), xu1_n _ _ (by omega), xu1_s]
  · unfold gN
    rw [if_neg (by omega)]
    show xu1 (xu1 (xu1 v.2.2.2.2.1 (gn v) N) (gn v + 1) N) (gn v + 2) N (gn v + 1) = N
    rw [xu1_n _ _ (by omega), xu1_s]
  · unfold gN
    rw [if_neg (by omega)]
    show xu1 (xu1 (xu1 v.2.2.2.2.1 (gn v) N) (gn v + 1) N) (gn v + 2) N (gn v + 2) = N
    rw [xu1_s]
theorem grow_K {v : xV} (h : 140 ≤ gn v) (N : Nat) : gK (v_grow v N) (gn v) = 100 ∧ gK (v_grow v N) (gn v + 1) = 100 ∧ gK (v_grow v N) (gn v + 2) = 100 := by
  refine ⟨?_, ?_, ?_⟩
  · unfold gK
    rw [if_neg (by omega), if_pos (by show _ < gn v + 3; omega)]
  · unfold gK
    rw [if_neg (by omega), if_pos (by show _ < gn v + 3; omega)]
  · unfold gK
    rw [if_neg (by omega), if_pos (by show _ < gn v + 3; omega)]
/-- the arrays that grow: how often they grew, their length -/
def DynX (k0 z0 : Nat) (v : xV) (Z : Nat) : Prop := ∃ g, gn v = 140 + 3 * g ∧ gk v = k0 + 3 * g ∧ gz v ≤ z0 + 6 * Z ∧ ((g = 0 ∧ gb v = 57 ∧ Z = 0) ∨ (1 ≤ g ∧ gb v + 3 = gn v ∧ 25 * 2 ^ (g - 1) ≤ Z)) ∧ Z ≤ 25600 ∧ (gK v (gb v) = 100 ∧ gK v (gb v + 1) = 100 ∧ gK v (gb v + 2) = 100) ∧ (gN v (gb v) = Z ∧ gN v (gb v + 1) = Z ∧ gN v (gb v + 2) = Z)
theorem DynX_gb {k0 z0 Z : Nat} {v : xV} (h : DynX k0 z0 v Z) : 57 ≤ gb v ∧ (gb v = 57 ∨ 140 ≤ gb v) := by
  obtain ⟨g, h1, _, _, h2, _⟩ := h
  rcases h2 with h2 | h2
  · omega
  · omega
theorem DynX_g {k0 z0 Z g : Nat} {v : xV} (h2 : (g = 0 ∧ gb v = 57 ∧ Z = 0) ∨ (1 ≤ g ∧ gb v + 3 = gn v ∧ 25 * 2 ^ (g - 1) ≤ Z)) (hZ : Z ≤ 25600) : g ≤ 11 := by
  rcases h2 with h2 | h2
  · omega
  · by_cases hg : g ≤ 11
    · exact hg
    · exfalso
      have : 2 ^ 11 ≤ 2 ^ (g - 1) := Nat.pow_le_pow_right (by decide) (by omega)
      omega
theorem DynX_A {k0 z0 Z : Nat} {v : xV} (h : DynX k0 z0 v Z) (j : Nat) (f : Nat → Int32) : DynX k0 z0 (v_A v j f) Z := h
theorem DynX_I {k0 z0 Z : Nat} {v : xV} (h : DynX k0 z0 v Z) (j k : Nat) (x : Int32) : DynX k0 z0 (v_I v j k x) Z := h
theorem k_startSearch {E : Nat × (Nat → Int32)} {d : Nat} {v : xV} {k0 z0 Z Qn : Nat} {Q : xV → Prop} (hD : DynX k0 z0 v Z) (hQ : gI v 21 3 = nI Qn) (hQ2 : 1 ≤ Qn ∧ Qn ≤ 512)
    (kk : ∀ w Z' f, RdF v w → (∀ j, j < 57 → gA w j = gA v j) → gI w = gI v → DynX k0 z0 w Z' → 25 * Qn ≤ Z' → gA w (gb w) = f → (∀ i, i < 25 * Qn → f i = -2) → Q w) : KV E (d + 3) 61 [.ref 49] v Q := by
  obtain ⟨g, h1, h2, h3, h4, h5, ⟨K1, K2, K3⟩, N1, N2, N3⟩ := id hD
  have hg11 := DynX_g (k0 := k0) (z0 := z0) h4 h5
  have hgb := DynX_gb hD
  refine KV.of ok_61 (Nat.le_of_ble_eq_true rfl) (w_X6_startSearch_0 ?_)
  have fillk : ∀ w Z', RdF v w → (∀ j, j < 57 → gA w j = gA v j) → gI w = gI v → DynX k0 z0 w Z' → 25 * Qn ≤ Z' → RV E (d + 3) 61 53 [(0, .ref 49), (1, .int (nI (25 * Qn)))] w Q := by
    intro w Z' r1 r2 r3 r4 r5
    have hgw := DynX_gb r4
    obtain ⟨g', g1, g2, g3, g4, g5, ⟨L1, L2, L3⟩, M1, M2, M3⟩ := id r4
    refine w_X6_startSearch_53 (k_fillR L1 (by omega) (by omega) (by omega) ?_)
    refine kk _ Z' _ (r1.trans (RdF.A w (by omega) _)) (fun j hj => ?_) r3 r4 r5 rfl (fun i hi => ?_)
    · rw [gA_A, if_neg (by omega)]
      exact r2 j hj
    · show gA (v_A w (gb w) _) (gb w) i = -2
      rw [gA_A, if_pos rfl, if_pos ⟨by omega, hi⟩]
  intro y ey
  have ey : y = nI (25 * Qn) := by rw [ey, hQ, pk_mul, Nat.mul_comm]
  subst ey
  rw [N1, ofN, nI_leI (by omega) (by omega)]
  refine ⟨K1, fun hle => fillk v Z (RdF.refl v) (fun _ _ => rfl) rfl hD hle, fun hle => ⟨K1, fun y4 e4 => ?_⟩⟩
  have e4 : y4 = nI (max (25 * Qn) (2 * Z)) := by
    rw [e4, pk_mul]
    by_cases hlt : 25 * Qn < 2 * Z
    · rw [if_pos ((nI_ltI (by omega) (by omega)).mpr hlt), Nat.max_eq_right (by omega)]
    · rw [if_neg (fun z => hlt ((nI_ltI (by omega) (by omega)).mp z)), Nat.max_eq_left (by omega)]
  refine ⟨max (25 * Qn) (2 * Z), e4, by omega, by show _ < 1000000; omega, by omega, ?_⟩
  have hn : 140 ≤ gn v := by omega
  refine fillk _ (max (25 * Qn) (2 * Z)) (RdF.grow hn _) (fun j hj => grow_l hn _ (by omega)) rfl ⟨g + 1, ?_, ?_, ?_, Or.inr ⟨by omega, rfl, ?_⟩, by omega, grow_K hn _, grow_N hn _⟩ (by omega)
  · show gn v + 3 = _
    omega
  · show gk v + 3 = _
    omega
  · show gz v + 3 * _ ≤ _
    omega
  · rw [Nat.add_sub_cancel]
    rcases h4 with h4 | h4
    · rw [h4.1]
      omega
    · have : 2 ^ g = 2 * 2 ^ (g - 1) := by
        have h41 := h4.1
        clear h4
        cases g with
        | zero => omega
        | succ g =>
          rw [Nat.add_sub_cancel, Nat.pow_succ]
          omega
      omega
/-! evidence -/
theorem k_isSame {E : Nat × (Nat → Int32)} {d : Nat} {v : xV} {s : Nat} {Q : Int32 → xV → Prop} (hs : s < 20) (hv : gA v 39 s = nI 0 ∨ gA v 39 s = nI 1) (k1 : gA v 39 s = nI 1 → gA v 40 s = gI v 49 14 → (∀ q, q < 4 → gA v 41 (4 * s + q) = gA v 50 q) → Q (nI 1) v) (k2 : Q (nI 0) v) : KI E d 55 [.ref 49, .int (nI s)] v Q := by
  refine KI.of ok_55 (Nat.le_of_ble_eq_true rfl) (w_X6_isSameEvidence_0 ?_)
  simp (disch := omega) only [nI_add, pk_mul, nI_clamp, nI_leI, nI_ltI, nI_eq, vp_t, true_and]
  refine ⟨fun _ => k2, fun h0 => ⟨fun h1 => ?_, fun _ => k2⟩⟩
  have h0 : gA v 39 s = nI 1 := hv.elim (fun h => absurd h h0) id
  have step : ∀ i, i ≤ 4 → (∀ q, q < i → gA v 41 (4 * s + q) = gA v 50 q) → RI E d 55 32 [(0, .ref 49), (1, .int (nI s)), (2, .int (nI i))] v Q := by
    intro i hi
    refine lp_up (n := 4) (P := fun i => (∀ q, q < i → gA v 41 (4 * s + q) = gA v 50 q) → RI E d 55 32 [(0, .ref 49), (1, .int (nI s)), (2, .int (nI i))] v Q) (fun h => w_X6_isSameEvidence_32 ⟨fun _ => k1 h0 h1 h, fun h => absurd (by decide) h⟩) (fun i hi ih h => w_X6_isSameEvidence_32 ?_) hi
    simp (disch := omega) only [nI_add, pk_mul, nI_clamp, nI_leI, nI_ltI, nI_eq, vp_t, true_and, Nat.mul_comm s 4]
    refine ⟨fun h => by omega, fun _ => ⟨fun h2 => ih (fun q hq => ?_), fun _ => k2⟩⟩
    by_cases e : q = i
    · subst e
      exact h2
    · exact h q (by omega)
  exact step 0 (by omega) (fun q hq => by omega)
def evF (o dr : Nat → Int32) (s n : Nat) : Nat → Int32 := fun j => if 4 * s ≤ j ∧ j < 4 * s + n then dr (j - 4 * s) else o j
theorem k_keepEv {E : Nat × (Nat → Int32)} {d : Nat} {v : xV} {s : Nat} {Q : xV → Prop} (hs : s < 20) (k : Q (v_A (v_A (v_A v 39 (upd (gA v 39) s (nI 1))) 40 (upd (gA v 40) s (gI v 49 14))) 41 (evF (gA v 41) (gA v 50) s 4))) : KV E d 56 [.ref 49, .int (nI s)] v Q := by
  refine KV.of ok_56 (Nat.le_of_ble_eq_true rfl) (w_X6_keepEvidence_0 ?_)
  simp (disch := omega) only [nI_add, pk_mul, nI_clamp, nI_leI, nI_ltI, nI_eq, vp_t, true_and]
  have e0 : v_A (v_A v 39 (upd (gA v 39) s (nI 1))) 40 (upd (gA v 40) s (gI v 49 14)) = v_A (v_A (v_A v 39 (upd (gA v 39) s (nI 1))) 40 (upd (gA v 40) s (gI v 49 14))) 41 (evF (gA v 41) (gA v 50) s 0) := by
    have : evF (gA v 41) (gA v 50) s 0 = gA (v_A (v_A v 39 (upd (gA v 39) s (nI 1))) 40 (upd (gA v 40) s (gI v 49 14))) 41 := by
      funext j
      unfold evF
      rw [if_neg (by omega)]
      rfl
    rw [this, vAself]
  rw [e0]
  refine lp_up (n := 4) (P := fun i => RV E d 56 25 [(0, .ref 49), (1, .int (nI s)), (2, .int (nI i))] (v_A (v_A (v_A v 39 (upd (gA v 39) s (nI 1))) 40 (upd (gA v 40) s (gI v 49 14))) 41 (evF (gA v 41) (gA v 50) s i)) Q) (w_X6_keepEvidence_25 ⟨fun _ => k, fun h => absurd (by decide) h⟩) (fun i hi ih => w_X6_keepEvidence_25 ?_) (Nat.zero_le _)
  simp (disch := omega) only [nI_add, pk_mul, nI_clamp, nI_leI, nI_ltI, nI_eq, vp_t, true_and, Nat.mul_comm s 4, vA_s]
  refine ⟨fun h => by omega, fun _ => ?_⟩
  have e1 : upd (gA (v_A (v_A (v_A v 39 (upd (gA v 39) s (nI 1))) 40 (upd (gA v 40) s (gI v 49 14))) 41 (evF (gA v 41) (gA v 50) s i)) 41) (4 * s + i) (gA v 50 i) = evF (gA v 41) (gA v 50) s (i + 1) := by
    show upd (evF (gA v 41) (gA v 50) s i) (4 * s + i) (gA v 50 i) = _
    funext j
    rw [upd_i]
    unfold evF
    by_cases h : j = 4 * s + i
    · subst h
      rw [if_pos rfl, if_pos (by omega), Nat.add_sub_cancel_left]
    · rw [if_neg h]
      by_cases h2 : 4 * s ≤ j ∧ j < 4 * s + i
      · rw [if_pos h2, if_pos (by omega)]
      · rw [if_neg h2, if_neg (by omega)]
  exact e1 ▸ ih
def clrF (o : Nat → Int32) (a b : Nat) : Nat → Int32 := fun i => if a ≤ i ∧ i < b then -1 else o i
theorem k_clear {E : Nat × (Nat → Int32)} {d : Nat} {v : xV} {s : Nat} {Q : xV → Prop} (hs : s < 20) (k : Q (v_A (v_A (v_A (v_A (v_A (v_A v 42 (upd (gA v 42) s (-1))) 43 (upd (gA v 43) s (-1))) 44 (upd (gA v 44) s (nI 0))) 48 (upd (gA v 48) s (nI 0))) 46 (clrF (gA v 46) (3 * s) (3 * s + 3))) 47 (clrF (gA v 47) (26 * s) (26 * s + 26)))) : KV E (d + 3) 73 [.ref 38, .int (nI s)] v Q := by
  refine KV.of ok_73 (Nat.le_of_ble_eq_true rfl) (w_X7_clear_0 ?_)
  simp (disch := omega) only [nI_add, pk_mul, nI_clamp, nI_leI, nI_ltI, nI_eq, vp_t, true_and, Nat.mul_comm s 3, Nat.mul_comm s 26, show (s + 1) * 3 = 3 * s + 3 by omega, show (s + 1) * 26 = 26 * s + 26 by omega]
  exact k_fillR (by rfl) (by show 60 < 2 ^ 31; decide) (by omega) (by show _ ≤ 60; omega) (k_fillR (by rfl) (by show 520 < 2 ^ 31; decide) (by omega) (by show _ ≤ 520; omega) k)

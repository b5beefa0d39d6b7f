/-! where the law's loop begins -/
def vv (S : xS) : xV := (x_I S, x_L S, x_A S, x_B S, fun _ => 0, 57, 140, 140, 133535)
theorem v0_vv : v0 = vv x_S1 := rfl
def okS1 (S : xS) : Prop := (∀ q ∈ x_ints, x_I S q.1 q.2.1 = q.2.2) ∧ (∀ a, a < 12 → ∀ b, b < 12 → x_A S 12 (12 * a + b) = if a = b then nI 0 else nI 1000000) ∧ (∀ a, a < 5 → x_A S 23 a = -1) ∧ ∀ i, i = 12 ∨ i = 23 ∨ x_A S i = fun _ => 0
section VV
variable {S : xS}
theorem vv_A (hS : okS1 S) {i : Nat} (h1 : i ≠ 12) (h2 : i ≠ 23) : gA (vv S) i = fun _ => nI 0 := by
  rcases hS.2.2.2 i with e | e | e
  · exact absurd e h1
  · exact absurd e h2
  · exact e
theorem vv_I (hS : okS1 S) {a b : Nat} {x : Int32} (h : (a, b, x) ∈ x_ints) : gI (vv S) a b = x := hS.1 (a, b, x) h
theorem vv_a (hS : okS1 S) (i k : Nat) (h1 : i ≠ 12) (h2 : i ≠ 23) : gA (vv S) i k = nI 0 := by rw [vv_A hS h1 h2]
theorem vv_nS (hS : okS1 S) : nS (vv S) = 0 := by unfold nS; rw [vv_I hS (x := nI 0) (by decide +kernel)]; rfl
theorem vv_nW (hS : okS1 S) : nW (vv S) = 0 := by unfold nW; rw [vv_I hS (x := nI 0) (by decide +kernel)]; rfl
theorem vv_nR (hS : okS1 S) : nR (vv S) = 0 := by unfold nR; rw [vv_I hS (x := nI 0) (by decide +kernel)]; rfl
theorem vv_nF (hS : okS1 S) : nF (vv S) = 0 := by unfold nF; rw [vv_I hS (x := nI 0) (by decide +kernel)]; rfl
theorem vv_nT (hS : okS1 S) : nT (vv S) = 0 := by unfold nT; rw [vv_I hS (x := nI 0) (by decide +kernel)]; rfl
theorem vv_D (hS : okS1 S) {N a b c d : Nat} (h1 : (a, b, nI 0) ∈ x_ints) (h2 : (c, d, nI 0) ∈ x_ints) : IvD N (gI (vv S) a b) (gI (vv S) c d) := ⟨0, Nat.zero_le _, vv_I hS h1, vv_I hS h2⟩
theorem vv_e (hS : okS1 S) {i j : Nat} (h1 : i ≠ 12 ∧ i ≠ 23) (h2 : j ≠ 12 ∧ j ≠ 23) : gA (vv S) i = gA (vv S) j := (vv_A hS h1.1 h1.2).trans (vv_A hS h2.1 h2.2).symm
theorem vv_lt (hS : okS1 S) {N i : Nat} (hN : 0 < N) (h : i ≠ 12 ∧ i ≠ 23) : ∀ k, ∃ n, n < N ∧ gA (vv S) i k = nI n := fun k => ⟨0, hN, vv_a hS i k h.1 h.2⟩
theorem vv_le (hS : okS1 S) {N i : Nat} (h : i ≠ 12 ∧ i ≠ 23) : ∀ k, ∃ n, n ≤ N ∧ gA (vv S) i k = nI n := fun k => ⟨0, Nat.zero_le _, vv_a hS i k h.1 h.2⟩
theorem vv_Inv (hS : okS1 S) (c : Nat) : Inv c (vv S) := by
  refine ⟨⟨vv_e hS (by decide) (by decide), ⟨0, by decide, vv_I hS (by decide +kernel), vv_I hS (by decide +kernel)⟩, vv_lt hS (by decide) (by decide)⟩, vv_D hS (by decide +kernel) (by decide +kernel), ⟨vv_D hS (by decide +kernel) (by decide +kernel), vv_e hS (by decide) (by decide)⟩, ?_, ?_, ?_, ?_, ?_, ?_⟩
  · exact ⟨⟨vv_e hS (by decide) (by decide), vv_e hS (by decide) (by decide)⟩, vv_le hS (by decide), vv_lt hS (by decide) (by decide)⟩
  · exact ⟨vv_D hS (by decide +kernel) (by decide +kernel), ⟨vv_e hS (by decide) (by decide), vv_e hS (by decide) (by decide), vv_e hS (by decide) (by decide)⟩, vv_le hS (by decide), vv_lt hS (by decide) (by decide), vv_lt hS (by decide) (by decide)⟩
  · exact ⟨vv_D hS (by decide +kernel) (by decide +kernel), ⟨vv_e hS (by decide) (by decide), vv_e hS (by decide) (by decide)⟩, vv_lt hS (by decide) (by decide), vv_le hS (by decide)⟩
  · refine ⟨vv_D hS (by decide +kernel) (by decide +kernel), ⟨vv_e hS (by decide) (by decide), vv_e hS (by decide) (by decide), vv_e hS (by decide) (by decide), vv_e hS (by decide) (by decide)⟩, vv_lt hS (by decide) (by decide), vv_lt hS (by decide) (by decide), vv_le hS (by decide), ?_⟩
    exact vv_le hS (by decide)
  · refine ⟨vv_D hS (by decide +kernel) (by decide +kernel), ⟨vv_e hS (by decide) (by decide), vv_e hS (by decide) (by decide), vv_e hS (by decide) (by decide), vv_e hS (by decide) (by decide)⟩, vv_lt hS (by decide) (by decide), vv_le hS (by decide), ?_⟩
    exact ⟨vv_lt hS (by decide) (by decide), vv_lt hS (by decide) (by decide)⟩
  · exact ⟨vv_D hS (by decide +kernel) (by decide +kernel), ⟨vv_e hS (by decide) (by decide), vv_e hS (by decide) (by decide), vv_e hS (by decide) (by decide), vv_e hS (by decide) (by decide)⟩, vv_lt hS (by decide) (by decide), vv_lt hS (by decide) (by decide), vv_le hS (by decide), fun i => Or.inr ⟨0, by decide, vv_a hS _ i (by decide) (by decide)⟩⟩
theorem vv_path {i j c : Nat} (h : path (edge (gA (vv S) 88) (gA (vv S) 89) (gA (vv S) 90) 0) i j c) : i = j ∧ c = 0 := by
  obtain ⟨n, h⟩ := h
  cases n with
  | zero => exact h
  | succ n =>
    obtain ⟨m, e, c', ⟨_, k, hk, _⟩, _⟩ := h
    exact absurd hk (Nat.not_lt_zero _)
theorem vv_Ext (hS : okS1 S) (c : Nat) : Ext c (vv S) := by
  refine ⟨?_, ⟨vv_D hS (by decide +kernel) (by decide +kernel), ⟨vv_e hS (by decide) (by decide), vv_e hS (by decide) (by decide), vv_e hS (by decide) (by decide), vv_e hS (by decide) (by decide), vv_e hS (by decide) (by decide), vv_e hS (by decide) (by decide)⟩, fun i hi => ?_, fun i j _ hj => ?_, fun i hi => ?_⟩, ⟨fun i hi => ?_, fun i j _ hj => ?_, fun i hi => ?_, fun w hw => ?_⟩, ⟨⟨vv_D hS (by decide +kernel) (by decide +kernel), fun k hk => ?_, ?_⟩, vv_D hS (by decide +kernel) (by decide +kernel), vv_D hS (by decide +kernel) (by decide +kernel), ?_, 1, fun _ => [], vv_I hS (by decide +kernel), ?_, ?_⟩, ExC.zero (fun s => vv_a hS 39 s (by decide) (by decide)), ⟨1, 0, by omega, vv_I hS (by decide +kernel), vv_I hS (by decide +kernel), fun e => absurd e (by decide)⟩, ?_⟩
  · refine ⟨vv_e hS (by decide) (by decide), vv_le hS (by decide), vv_lt hS (by decide) (by decide), fun dd a b h1 h2 h3 => ?_⟩
    rw [vv_a hS 9 _ (by decide) (by decide)]
    constructor
    · intro h
      rw [show (nI 0).toNatClampNeg = 0 from rfl, Nat.zero_testBit] at h
      exact absurd h (by decide)
    · intro h
      unfold hab at h
      rw [vv_a hS 10 _ (by decide) (by decide)] at h
      obtain ⟨k, hk, _⟩ := h
      exact absurd hk (Nat.not_lt_zero _)
  · rw [vv_nF hS] at hi
    exact absurd hi (Nat.not_lt_zero _)
  · rw [vv_nF hS] at hj
    exact absurd hj (Nat.not_lt_zero _)
  · rw [vv_nF hS] at hi
    exact absurd hi (Nat.not_lt_zero _)
  · rw [vv_nS hS] at hi
    exact absurd hi (Nat.not_lt_zero _)
  · rw [vv_nS hS] at hj
    exact absurd hj (Nat.not_lt_zero _)
  · rw [vv_nS hS] at hi
    exact absurd hi (Nat.not_lt_zero _)
  · rw [vv_nW hS] at hw
    exact absurd hw (Nat.not_lt_zero _)
  · rw [vv_nT hS] at hk
    exact absurd hk (Nat.not_lt_zero _)
  · rw [vv_nT hS]
    intro i j hi hj
    have e : gA (vv S) 12 (12 * i + j) = if i = j then nI 0 else nI 1000000 := hS.2.1 i hi j hj
    by_cases q : i = j
    · rw [if_pos q] at e
      exact ⟨0, by decide, e, fun _ => ⟨0, q, rfl⟩, fun c _ => Nat.zero_le _⟩
    · rw [if_neg q] at e
      exact ⟨1000000, by decide, e, fun z => absurd z (by decide), fun c hc => absurd (vv_path hc).1 q⟩
  · rw [vv_nR hS]
    exact ⟨vv_I hS (by decide +kernel), by decide, fun r hr => absurd hr (Nat.not_lt_zero _)⟩
  · refine ⟨by decide, fun q hq => ⟨List.nodup_nil, ?_, fun s hs => Or.inl ⟨?_, rfl⟩⟩⟩
    · rw [vv_a hS 24 q (by decide) (by decide)]
      rfl
    · obtain rfl : q = 0 := by omega
      have := hS.2.2.1 s hs
      rw [Nat.mul_zero, Nat.zero_add]
      exact this
  · rw [vv_nR hS]
    exact List.Perm.refl _
  · refine ⟨140, 133535, 0, ⟨0, rfl, rfl, Nat.le_refl _, Or.inl ⟨rfl, rfl, rfl⟩, by decide, ⟨(gK_s (v := vv S) (i := 57) (by decide)).trans (by decide +kernel), (gK_s (v := vv S) (i := 58) (by decide)).trans (by decide +kernel), (gK_s (v := vv S) (i := 59) (by decide)).trans (by decide +kernel)⟩, (gN_s (v := vv S) (i := 57) (by decide)).trans (by decide +kernel), (gN_s (v := vv S) (i := 58) (by decide)).trans (by decide +kernel), (gN_s (v := vv S) (i := 59) (by decide)).trans (by decide +kernel)⟩, by omega, by omega⟩
theorem vv_J (hS : okS1 S) : J 0 (vv S) := ⟨vv_Inv hS 0, vv_Ext hS 0⟩
end VV
theorem v0_J : J 0 v0 := by
  have h := x_S1_all
  rw [v0_vv]
  exact vv_J ⟨h.2.2.1, h.2.2.2.2.1, h.2.2.2.2.2, x_S1_Z.1⟩

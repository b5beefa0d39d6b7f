/-! words at a place, the class -/
def wsum (lc : Nat → Nat → Option Nat) (lt : Nat → Nat) (k : Nat) : Nat → Option Nat
  | 0 => some 0
  | i + 1 => match wsum lc lt k i, lc (k + i) (lt i) with
    | some a, some b => some (a + b)
    | _, _ => none
theorem wsum_s {lc : Nat → Nat → Option Nat} {lt : Nat → Nat} {k i a b : Nat} (h1 : wsum lc lt k i = some a) (h2 : lc (k + i) (lt i) = some b) : wsum lc lt k (i + 1) = some (a + b) := by
  show (match wsum lc lt k i, lc (k + i) (lt i) with | some a, some b => some (a + b) | _, _ => none) = _
  rw [h1, h2]
theorem wsum_n {lc : Nat → Nat → Option Nat} {lt : Nat → Nat} {k i : Nat} (h2 : lc (k + i) (lt i) = none) : wsum lc lt k (i + 1) = none := by
  show (match wsum lc lt k i, lc (k + i) (lt i) with | some a, some b => some (a + b) | _, _ => none) = _
  rw [h2]
  cases wsum lc lt k i <;> rfl
theorem wsum_n1 {lc : Nat → Nat → Option Nat} {lt : Nat → Nat} {k i : Nat} (h : wsum lc lt k i = none) : wsum lc lt k (i + 1) = none := by
  show (match wsum lc lt k i, lc (k + i) (lt i) with | some a, some b => some (a + b) | _, _ => none) = _
  rw [h]
theorem wsum_nn {lc : Nat → Nat → Option Nat} {lt : Nat → Nat} {k i n : Nat} (h : wsum lc lt k i = none) (hn : i ≤ n) : wsum lc lt k n = none := by
  induction n with
  | zero =>
    obtain rfl : i = 0 := by omega
    exact h
  | succ n ih =>
    by_cases e : i = n + 1
    · subst e
      exact h
    · exact wsum_n1 (ih (by omega))
theorem wsum_le {lc : Nat → Nat → Option Nat} {lt : Nat → Nat} {k N : Nat} (hl : ∀ k l x, lc k l = some x → x ≤ N) (n : Nat) : ∀ x, wsum lc lt k n = some x → x ≤ N * n := by
  induction n with
  | zero =>
    intro x h
    cases h
    omega
  | succ n ih =>
    intro x h
    cases e1 : wsum lc lt k n with
    | none => rw [wsum_n1 e1] at h; cases h
    | some a =>
      cases e2 : lc (k + n) (lt n) with
      | none => rw [wsum_n e2] at h; cases h
      | some b =>
        rw [wsum_s e1 e2] at h
        cases h
        have := ih a e1
        have := hl _ _ _ e2
        rw [Nat.mul_succ]
        omega
def wco (lc : Nat → Nat → Option Nat) (lt : Nat → Nat) (n k N : Nat) : Option Nat := if k + n ≤ N then wsum lc lt k n else none
/-- the words as the class holds them -/
def Gx (v : xV) (lc : Nat → Nat → Option Nat) (N : Nat) : Cx := (N, (gI v 3 7).toNatClampNeg, fun w => (gA v 7 w).toNatClampNeg, fun w => (gA v 8 w).toNatClampNeg, fun w k => wco lc (fun i => (gA v 6 (10 * w + i)).toNatClampNeg) (gA v 7 w).toNatClampNeg k N)
def wlF (lc : Nat → Nat → Option Nat) (o : Nat → Int32) (n : Nat) : Nat → Int32 := fun i => if i < n then eX (lc (i / 26) (i % 26)) else o i
theorem wlF_0 (lc : Nat → Nat → Option Nat) (o : Nat → Int32) : wlF lc o 0 = o := by funext i; unfold wlF; rw [if_neg (by omega)]
theorem wlF_s (lc : Nat → Nat → Option Nat) (o : Nat → Int32) (n : Nat) : upd (wlF lc o n) n (eX (lc (n / 26) (n % 26))) = wlF lc o (n + 1) := by
  funext i
  rw [upd_i]
  unfold wlF
  by_cases h : i = n
  · subst h
    rw [if_pos rfl, if_pos (by omega)]
  · rw [if_neg h]
    by_cases h2 : i < n
    · rw [if_pos h2, if_pos (by omega)]
    · rw [if_neg h2, if_neg (by omega)]
/-- the lore that a cost rests on -/
def LoreX (v : xV) : Prop := (∀ i, isO 26 (gA v 37 i)) ∧ (∀ i, ∃ a, a < 2 ^ 26 ∧ gA v 9 i = nI a) ∧ (∀ i, ∃ n, n ≤ 3 ∧ gA v 5 i = nI n) ∧ (∀ i, ∃ b, b < 256 ∧ gA v 4 i = nI b)
def LCx (v : xV) (p : Int32) (dr : Nat → Int32) : Nat → Nat → Option Nat := LC (gA v 5) (gA v 4) (gA v 32) (gA v 33) (gA v 37) (gA v 9) p dr
theorem k_weighLetters {E : Nat × (Nat → Int32)} {d : Nat} {v : xV} {N : Nat} {Q : xV → Prop} (hL : LoreX v) (hp : isO 60 (gI v 49 14)) (hd : ∀ q, q < 4 → isO 40 (gA v 50 q)) (hN : gI v 49 15 = nI N) (hN2 : N ≤ 24) (kk : Q (v_A (v_A v 51 (wlF (LCx v (gI v 49 14) (gA v 50)) (gA v 51) (26 * N))) 52 (zto N (gA v 52)))) : KV E (d + 3) 60 [.ref 49] v Q := by
  refine KV.of ok_60 (Nat.le_of_ble_eq_true rfl) (w_X6_weighLetters_0 ?_)
  have e0 : v = v_A (v_A v 51 (wlF (LCx v (gI v 49 14) (gA v 50)) (gA v 51) (26 * 0))) 52 (zto 0 (gA v 52)) := by
    rw [Nat.mul_zero, wlF_0, zto_0, vAself, vAself]
  have main : RV E (d + 3) 60 2 [(0, .ref 49), (1, .int (nI 0))] (v_A (v_A v 51 (wlF (LCx v (gI v 49 14) (gA v 50)) (gA v 51) (26 * 0))) 52 (zto 0 (gA v 52))) Q := by
    refine lp_up (n := N) (P := fun k => RV E (d + 3) 60 2 [(0, .ref 49), (1, .int (nI k))] (v_A (v_A v 51 (wlF (LCx v (gI v 49 14) (gA v 50)) (gA v 51) (26 * k))) 52 (zto k (gA v 52))) Q) (w_X6_weighLetters_2 ?_) (fun k hk ih => w_X6_weighLetters_2 ?_) (Nat.zero_le _)
    · rw [show gI (v_A (v_A v 51 (wlF (LCx v (gI v 49 14) (gA v 50)) (gA v 51) (26 * N))) 52 (zto N (gA v 52))) 49 15 = nI N from hN]
      exact ⟨fun _ => kk, fun h => absurd (nI_le (Nat.le_refl _) (by omega)) h⟩
    · rw [show gI (v_A (v_A v 51 (wlF (LCx v (gI v 49 14) (gA v 50)) (gA v 51) (26 * k))) 52 (zto k (gA v 52))) 49 15 = nI N from hN, nI_leI (by omega) (by omega)]
      refine ⟨fun h => by omega, fun _ => ?_⟩
      refine lp_up (n := 26) (P := fun l => RV E (d + 3) 60 12 [(0, .ref 49), (1, .int (nI k)), (2, .int (nI l))] (v_A (v_A v 51 (wlF (LCx v (gI v 49 14) (gA v 50)) (gA v 51) (26 * k + l))) 52 (zto k (gA v 52))) Q) (w_X6_weighLetters_12 ⟨fun _ => ⟨vp_in_nI (by omega) (by decide), ?_⟩, fun h => absurd (by decide) h⟩) (fun l hl ih2 => w_X6_weighLetters_12 ⟨fun h => ?_, fun _ => ?_⟩) (Nat.zero_le _)
      · rw [nI_add, nI_clamp (by omega), vA_s]
        have e : upd (gA (v_A (v_A v 51 (wlF (LCx v (gI v 49 14) (gA v 50)) (gA v 51) (26 * k + 26))) 52 (zto k (gA v 52))) 52) k (nI 0) = zto (k + 1) (gA v 52) := zto_s _ _
        rw [e]
        exact ih
      · exfalso
        rw [nI_leI (by decide) (by omega)] at h
        omega
      · obtain ⟨n, hn, en⟩ := hL.2.2.1 l
        refine k_letterCost (v := v_A (v_A v 51 (wlF (LCx v (gI v 49 14) (gA v 50)) (gA v 51) (26 * k + l))) 52 (zto k (gA v 52))) hp hd hL.1 hL.2.1 (by omega) hl en hn hL.2.2.2 ?_
        rw [nI_add]
        simp (disch := omega) only [nI_add, pk_mul, nI_clamp, nI_leI, nI_ltI, nI_eq, vp_t, true_and]
        rw [Nat.mul_comm k 26, vA_c _ (by decide), vA_s]
        have e : upd (gA (v_A (v_A v 51 (wlF (LCx v (gI v 49 14) (gA v 50)) (gA v 51) (26 * k + l))) 52 (zto k (gA v 52))) 51) (26 * k + l) (eX (LCx v (gI v 49 14) (gA v 50) k l)) = wlF (LCx v (gI v 49 14) (gA v 50)) (gA v 51) (26 * k + (l + 1)) := by
          have := wlF_s (LCx v (gI v 49 14) (gA v 50)) (gA v 51) (26 * k + l)
          rw [show (26 * k + l) / 26 = k by omega, show (26 * k + l) % 26 = l by omega] at this
          exact this
        exact e ▸ ih2
  rw [← e0] at main
  exact main
/-- letters of words -/
def WordX (v : xV) (W : Nat) : Prop := gI v 3 7 = nI W ∧ W ≤ 80 ∧ (∀ i, i < W → ∃ n, (1 ≤ n ∧ n ≤ 10) ∧ gA v 7 i = nI n) ∧ (∀ i, ∃ n, n < 26 ∧ gA v 6 i = nI n) ∧ ∀ i, ∃ n, n < 5 ∧ gA v 8 i = nI n
theorem k_wordCost {E : Nat × (Nat → Int32)} {d : Nat} {v : xV} {lc : Nat → Nat → Option Nat} {N W w k : Nat} {Q : Int32 → xV → Prop} (hW : WordX v W) (hN : gI v 49 15 = nI N) (hN2 : N ≤ 24) (h51 : ∀ k l, k < N → l < 26 → gA v 51 (26 * k + l) = eX (lc k l)) (hlc : ∀ k l x, lc k l = some x → x ≤ 16) (hw : w < W) (hk : k < N) (kk : Q (eX (cc (Gx v lc N) w k)) v) : KI E d 65 [.ref 49, .int (nI w), .int (nI k)] v Q := by
  obtain ⟨h1, h2, h3, h4, h5⟩ := hW
  obtain ⟨n, hn, en⟩ := h3 w hw
  have kk : Q (eX (wco lc (fun i => (gA v 6 (10 * w + i)).toNatClampNeg) (gA v 7 w).toNatClampNeg k N)) v := kk
  rw [en, nI_clamp (by omega)] at kk
  refine KI.of ok_65 (Nat.le_of_ble_eq_true rfl) (w_X6_wordCost_0 ?_)
  simp (disch := omega) only [nI_add, pk_mul, nI_clamp, nI_leI, nI_ltI, nI_eq, vp_t, true_and, forall_eq, en, hN]
  refine ⟨fun h => ?_, fun h => ?_⟩
  · unfold wco at kk
    rw [if_pos h] at kk
    have step : ∀ i, i ≤ n → ∀ x, wsum lc (fun i => (gA v 6 (10 * w + i)).toNatClampNeg) k i = some x → RI E d 65 28 [(0, .ref 49), (1, .int (nI w)), (2, .int (nI k)), (3, .int (nI n)), (4, .int (nI x)), (5, .int (nI i))] v Q := by
      intro i hi
      refine lp_up (n := n) (P := fun i => ∀ x, wsum lc (fun i => (gA v 6 (10 * w + i)).toNatClampNeg) k i = some x → RI E d 65 28 [(0, .ref 49), (1, .int (nI w)), (2, .int (nI k)), (3, .int (nI n)), (4, .int (nI x)), (5, .int (nI i))] v Q) (fun x hx => w_X6_wordCost_28 ⟨fun _ => ?_, fun h => absurd (nI_le (Nat.le_refl _) (by omega)) h⟩) (fun i hi ih x hx => w_X6_wordCost_28 ?_) hi
      · rw [hx] at kk
        exact kk
      · obtain ⟨l, hl, el⟩ := h4 (10 * w + i)
        have e51 := h51 (k + i) l (by omega) hl
        simp (disch := omega) only [nI_add, pk_mul, nI_clamp, nI_leI, nI_ltI, nI_eq, vp_t, true_and, Nat.mul_comm w 10, el, Nat.mul_comm (k + i) 26, e51, forall_eq]
        refine ⟨fun h => by omega, fun _ => ?_⟩
        have el2 : (gA v 6 (10 * w + i)).toNatClampNeg = l := by rw [el, nI_clamp (by omega)]
        cases e : lc (k + i) l with
        | none =>
          refine ⟨fun h => absurd h m1_nle, fun _ => ?_⟩
          rw [wsum_nn (wsum_n (by rw [el2]; exact e)) (show i + 1 ≤ n by omega)] at kk
          exact kk
        | some y =>
          have hy := hlc _ _ _ e
          have hx2 := wsum_le hlc i x hx
          refine ⟨fun _ => ?_, fun h => absurd (nz_le (by omega)) h⟩
          rw [show nI x + eX (some y) = nI (x + y) from nI_add _ _]
          exact ih (x + y) (wsum_s hx (by rw [el2]; exact e))
    exact step 0 (by omega) 0 rfl
  · unfold wco at kk
    rw [if_neg h] at kk
    exact kk
/-- one kind of words at a place -/
def fitR (M : Nat) (b c e : Nat → Int32) (j : Nat) : Vl → Prop
  | none => c j = nI 0
  | some (x, n, p) => b j = nI x ∧ c j = nI n ∧ e j = nI p ∧ 1 ≤ n ∧ n ≤ M ∧ x ≤ 160 ∧ p < M
theorem fitR.up {M M' : Nat} {b c e : Nat → Int32} {j : Nat} {x : Vl} (h : fitR M b c e j x) (hM : M ≤ M') : fitR M' b c e j x := by
  match x, h with
  | none, h => exact h
  | some (x, n, p), ⟨h1, h2, h3, h4, h5, h6, h7⟩ => exact ⟨h1, h2, h3, h4, by omega, h6, by omega⟩
theorem fitR.eq {M : Nat} {b c e b' c' e' : Nat → Int32} {j : Nat} {x : Vl} (h : fitR M b c e j x) (h1 : b' j = b j) (h2 : c' j = c j) (h3 : e' j = e j) : fitR M b' c' e' j x := by
  match x, h with
  | none, h => exact h2.trans h
  | some (x, n, p), ⟨g1, g2, g3, g4⟩ => exact ⟨h1.trans g1, h2.trans g2, h3.trans g3, g4⟩
def FVn (G : Cx) (s n k : Nat) : Nat → Vl := vS (fun w => if cs G w = s ∧ cl G w = n then vone w (cc G w k) else none)

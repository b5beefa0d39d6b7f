/-! the state of a search; words listed at a place -/
def sv (v : xV) (a b c e f g h : Nat → Int32) : xV := v_A (v_A (v_A (v_A (v_A (v_A (v_A v 52 a) 53 b) 54 c) 55 e) (gb v) f) (gb v + 1) g) (gb v + 2) h
theorem sv_gb (v : xV) (a b c e f g h : Nat → Int32) : gb (sv v a b c e f g h) = gb v := rfl
theorem sv_gN (v : xV) (a b c e f g h : Nat → Int32) : gN (sv v a b c e f g h) = gN v := rfl
theorem sv_gK (v : xV) (a b c e f g h : Nat → Int32) : gK (sv v a b c e f g h) = gK v := rfl
theorem sv_gI (v : xV) (a b c e f g h : Nat → Int32) : gI (sv v a b c e f g h) = gI v := rfl
theorem sv_h (v : xV) (a b c e f g h : Nat → Int32) : gA (sv v a b c e f g h) (gb v + 2) = h := by unfold sv; rw [gA_A, if_pos rfl]
theorem sv_g (v : xV) (a b c e f g h : Nat → Int32) : gA (sv v a b c e f g h) (gb v + 1) = g := by unfold sv; rw [gA_A, if_neg (by omega), gA_A, if_pos rfl]
theorem sv_f (v : xV) (a b c e f g h : Nat → Int32) : gA (sv v a b c e f g h) (gb v) = f := by unfold sv; rw [gA_A, if_neg (by omega), gA_A, if_neg (by omega), gA_A, if_pos rfl]
theorem sv_l {v : xV} (hg : 57 ≤ gb v) {j : Nat} (hj : j < 57) (a b c e f g h : Nat → Int32) : gA (sv v a b c e f g h) j = gA (v_A (v_A (v_A (v_A v 52 a) 53 b) 54 c) 55 e) j := by unfold sv; rw [gA_A, if_neg (by omega), gA_A, if_neg (by omega), gA_A, if_neg (by omega)]
theorem sv_52 {v : xV} (hg : 57 ≤ gb v) (a b c e f g h : Nat → Int32) : gA (sv v a b c e f g h) 52 = a := by rw [sv_l hg (by decide)]; rfl
theorem sv_53 {v : xV} (hg : 57 ≤ gb v) (a b c e f g h : Nat → Int32) : gA (sv v a b c e f g h) 53 = b := by rw [sv_l hg (by decide)]; rfl
theorem sv_54 {v : xV} (hg : 57 ≤ gb v) (a b c e f g h : Nat → Int32) : gA (sv v a b c e f g h) 54 = c := by rw [sv_l hg (by decide)]; rfl
theorem sv_55 {v : xV} (hg : 57 ≤ gb v) (a b c e f g h : Nat → Int32) : gA (sv v a b c e f g h) 55 = e := by rw [sv_l hg (by decide)]; rfl
theorem sv_o {v : xV} (hg : 57 ≤ gb v) {j : Nat} (hj : j < 52) (a b c e f g h : Nat → Int32) : gA (sv v a b c e f g h) j = gA v j := by
  rw [sv_l hg (by omega), gA_A, if_neg (by omega), gA_A, if_neg (by omega), gA_A, if_neg (by omega), gA_A, if_neg (by omega)]
theorem sv_uh (v : xV) (a b c e f g h h' : Nat → Int32) : v_A (sv v a b c e f g h) (gb v + 2) h' = sv v a b c e f g h' := by unfold sv; rw [vA_s]
theorem sv_ug (v : xV) (a b c e f g h g' : Nat → Int32) : v_A (sv v a b c e f g h) (gb v + 1) g' = sv v a b c e f g' h := by unfold sv; rw [vA_c _ (by omega), vA_s]
theorem sv_uf (v : xV) (a b c e f g h f' : Nat → Int32) : v_A (sv v a b c e f g h) (gb v) f' = sv v a b c e f' g h := by unfold sv; rw [vA_c _ (i := gb v) (j := gb v + 2) (by omega), vA_c _ (i := gb v) (j := gb v + 1) (by omega), vA_s]
theorem sv_u55 {v : xV} (hg : 57 ≤ gb v) (a b c e f g h e' : Nat → Int32) : v_A (sv v a b c e f g h) 55 e' = sv v a b c e' f g h := by unfold sv; rw [vA_c _ (i := 55) (j := gb v + 2) (by omega), vA_c _ (i := 55) (j := gb v + 1) (by omega), vA_c _ (i := 55) (j := gb v) (by omega), vA_s]
theorem sv_u54 {v : xV} (hg : 57 ≤ gb v) (a b c e f g h c' : Nat → Int32) : v_A (sv v a b c e f g h) 54 c' = sv v a b c' e f g h := by unfold sv; rw [vA_c _ (i := 54) (j := gb v + 2) (by omega), vA_c _ (i := 54) (j := gb v + 1) (by omega), vA_c _ (i := 54) (j := gb v) (by omega), vA_c _ (i := 54) (j := 55) (by decide), vA_s]
theorem sv_u53 {v : xV} (hg : 57 ≤ gb v) (a b c e f g h b' : Nat → Int32) : v_A (sv v a b c e f g h) 53 b' = sv v a b' c e f g h := by unfold sv; rw [vA_c _ (i := 53) (j := gb v + 2) (by omega), vA_c _ (i := 53) (j := gb v + 1) (by omega), vA_c _ (i := 53) (j := gb v) (by omega), vA_c _ (i := 53) (j := 55) (by decide), vA_c _ (i := 53) (j := 54) (by decide), vA_s]
theorem sv_u52 {v : xV} (hg : 57 ≤ gb v) (a b c e f g h a' : Nat → Int32) : v_A (sv v a b c e f g h) 52 a' = sv v a' b c e f g h := by unfold sv; rw [vA_c _ (i := 52) (j := gb v + 2) (by omega), vA_c _ (i := 52) (j := gb v + 1) (by omega), vA_c _ (i := 52) (j := gb v) (by omega), vA_c _ (i := 52) (j := 55) (by decide), vA_c _ (i := 52) (j := 54) (by decide), vA_c _ (i := 52) (j := 53) (by decide), vA_s]
theorem sv_self (v : xV) : sv v (gA v 52) (gA v 53) (gA v 54) (gA v 55) (gA v (gb v)) (gA v (gb v + 1)) (gA v (gb v + 2)) = v := by
  unfold sv
  rw [vAself, vAself, vAself, vAself, vAself, vAself, vAself]
/-- what a search rests on; it does not change it -/
def SearchX (v : xV) (lc : Nat → Nat → Option Nat) (N W : Nat) : Prop := 57 ≤ gb v ∧ WordX v W ∧ gI v 49 15 = nI N ∧ N ≤ 24 ∧ (∀ k l, k < N → l < 26 → gA v 51 (26 * k + l) = eX (lc k l)) ∧ ∀ k l x, lc k l = some x → x ≤ 16
def SFits (G : Cx) (a b c e : Nat → Int32) : Prop := ∀ k, k < cN G → a k = nI 0 ∨ (a k = nI 1 ∧ ∀ s m, s < 5 → m < 10 → fitR 80 b c e (50 * k + 10 * s + m) (FV G s (m + 1) k))
theorem Gx_sv (v : xV) (hg : 57 ≤ gb v) (lc : Nat → Nat → Option Nat) (N : Nat) (a b c e f g h : Nat → Int32) : Gx (sv v a b c e f g h) lc N = Gx v lc N := by
  unfold Gx
  rw [sv_gI, sv_o hg (by decide), sv_o hg (by decide), sv_o hg (by decide)]
theorem Gx_le {v : xV} {lc : Nat → Nat → Option Nat} {N W w k x : Nat} (hW : WordX v W) (hlc : ∀ k l x, lc k l = some x → x ≤ 16) (hw : w < W) (h : cc (Gx v lc N) w k = some x) : x ≤ 16 * cl (Gx v lc N) w ∧ x ≤ 160 ∧ k + cl (Gx v lc N) w ≤ N := by
  obtain ⟨n, hn, en⟩ := hW.2.2.1 w hw
  have h : wco lc (fun i => (gA v 6 (10 * w + i)).toNatClampNeg) (gA v 7 w).toNatClampNeg k N = some x := h
  have hcl : cl (Gx v lc N) w = n := by
    show (gA v 7 w).toNatClampNeg = n
    rw [en, nI_clamp (by omega)]
  rw [en, nI_clamp (by omega)] at h
  rw [hcl]
  unfold wco at h
  split at h
  · have := wsum_le hlc n x h
    omega
  · cases h
theorem k_listFits {E : Nat × (Nat → Int32)} {d : Nat} {v : xV} {lc : Nat → Nat → Option Nat} {N W k : Nat} {a b c e f g h : Nat → Int32} {Q : xV → Prop} (hX : SearchX v lc N W) (hk : k < N) (hF : SFits (Gx v lc N) a b c e)
    (kk : ∀ a' b' c' e', SFits (Gx v lc N) a' b' c' e' → a' k = nI 1 → (∀ j, a j = nI 1 → a' j = nI 1) → Q (sv v a' b' c' e' f g h)) : KV E (d + 3) 64 [.ref 49, .int (nI k)] (sv v a b c e f g h) Q := by
  obtain ⟨hg, hW, hN, hN2, h51, hlc⟩ := hX
  obtain ⟨hW1, hW2, hW3, hW4, hW5⟩ := id hW
  refine KV.of ok_64 (Nat.le_of_ble_eq_true rfl) (w_X6_listFits_0 ?_)
  rw [sv_52 hg, nI_clamp (by omega), pk_mul, nI_add, pk_mul]
  refine ⟨vp_in_nI (by omega) (by decide), fun h0 => ⟨vp_in_nI (by omega) (by decide), ?_⟩, fun h0 => ?_⟩
  rotate_left
  · rcases hF k hk with h1 | h1
    · exact absurd h1 h0
    · exact kk a b c e hF h1.1 (fun _ h => h)
  rw [sv_u52 hg]
  refine k_fillR (by rfl) (by show 1200 < 2 ^ 31; decide) (by omega) (by show _ ≤ 1200; omega) ?_
  rw [sv_54 hg, sv_u54 hg]
  -- the loop over words
  have loop : ∀ w, w ≤ W → ∀ b' c' e', (∀ s m, s < 5 → m < 10 → fitR w b' c' e' (50 * k + 10 * s + m) (FVn (Gx v lc N) s (m + 1) k w)) → (∀ j, ¬ (50 * k ≤ j ∧ j < 50 * k + 50) → b' j = b j ∧ c' j = c j ∧ e' j = e j) → RV E (d + 3) 64 37 [(0, .ref 49), (1, .int (nI k)), (2, .int (nI w))] (sv v (upd a k (nI 1)) b' c' e' f g h) Q := by
    intro w hw
    refine lp_up (n := W) (P := fun w => ∀ b' c' e', (∀ s m, s < 5 → m < 10 → fitR w b' c' e' (50 * k + 10 * s + m) (FVn (Gx v lc N) s (m + 1) k w)) → (∀ j, ¬ (50 * k ≤ j ∧ j < 50 * k + 50) → b' j = b j ∧ c' j = c j ∧ e' j = e j) → RV E (d + 3) 64 37 [(0, .ref 49), (1, .int (nI k)), (2, .int (nI w))] (sv v (upd a k (nI 1)) b' c' e' f g h) Q) ?_ ?_ hw
    · intro b' c' e' hr ho
      refine w_X6_listFits_37 ?_
      rw [sv_gI, hW1]
      refine ⟨fun _ => kk _ _ _ _ ?_ (upd_s _ _ _) ?_, fun h => absurd (nI_le (Nat.le_refl _) (by omega)) h⟩
      · intro k' hk'
        by_cases ek : k' = k
        · subst ek
          refine Or.inr ⟨upd_s _ _ _, fun s m hs hm => ?_⟩
          have hcw : cW (Gx v lc N) = W := by
            show (gI v 3 7).toNatClampNeg = W
            rw [hW1, nI_clamp (by omega)]
          have e1 : FV (Gx v lc N) s (m + 1) k' = FVn (Gx v lc N) s (m + 1) k' W := by
            unfold FV FVn
            rw [hcw]
          rw [e1]
          exact (hr s m hs hm).up hW2
        · rw [upd_n _ _ ek]
          rcases hF k' hk' with h1 | h1
          · exact Or.inl h1
          · refine Or.inr ⟨h1.1, fun s m hs hm => ?_⟩
            obtain ⟨o1, o2, o3⟩ := ho (50 * k' + 10 * s + m) (by omega)
            exact (h1.2 s m hs hm).eq o1 o2 o3
      · intro j hj
        by_cases ej : j = k
        · rw [ej, upd_s]
        · rw [upd_n _ _ ej]
          exact hj
    · intro w hw ih b' c' e' hr ho
      refine w_X6_listFits_37 ?_
      rw [sv_gI, hW1, nI_leI (by omega) (by omega)]
      refine ⟨fun h => by omega, fun _ => ?_⟩
      have hWs : WordX (sv v (upd a k (nI 1)) b' c' e' f g h) W := by
        unfold WordX
        rw [sv_gI, sv_o hg (by decide), sv_o hg (by decide), sv_o hg (by decide)]
        exact hW
      refine k_wordCost (lc := lc) hWs hN hN2 (by rw [sv_o hg (by decide)]; exact h51) hlc hw hk ?_
      rw [Gx_sv v hg]
      obtain ⟨n, hn, en⟩ := hW3 w hw
      obtain ⟨s0, hs0, es0⟩ := hW5 w
      have hcl : cl (Gx v lc N) w = n := by
        show (gA v 7 w).toNatClampNeg = n
        rw [en, nI_clamp (by omega)]
      have hcs : cs (Gx v lc N) w = s0 := by
        show (gA v 8 w).toNatClampNeg = s0
        rw [es0, nI_clamp (by omega)]
      rw [sv_o hg (by decide), sv_o hg (by decide)]
      simp (disch := omega) only [nI_clamp, en, es0, pk_mul, nI_add, nI_sub, forall_eq, vp_t, true_and]
      have ej : k * 50 + s0 * 10 + n - 1 = 50 * k + 10 * s0 + (n - 1) := by omega
      rw [ej]
      have hFn : ∀ s m, FVn (Gx v lc N) s (m + 1) k (w + 1) = vadd (FVn (Gx v lc N) s (m + 1) k w) (if s0 = s ∧ n = m + 1 then vone w (cc (Gx v lc N) w k) else none) := by
        intro s m
        unfold FVn
        rw [vS_s, hcs, hcl]
      have hoth : ∀ s m, m < 10 → ¬ (s0 = s ∧ n = m + 1) → FVn (Gx v lc N) s (m + 1) k (w + 1) = FVn (Gx v lc N) s (m + 1) k w := by
        intro s m hm hne
        rw [hFn, if_neg hne, vadd_n]
      have hcur : FVn (Gx v lc N) s0 n k (w + 1) = vadd (FVn (Gx v lc N) s0 n k w) (vone w (cc (Gx v lc N) w k)) := by
        have := hFn s0 (n - 1)
        rw [show n - 1 + 1 = n by omega, if_pos ⟨rfl, rfl⟩] at this
        exact this
      have hr0 := hr s0 (n - 1) hs0 (by omega)
      rw [show n - 1 + 1 = n by omega] at hr0
      -- new entries at the word's own kind
      have put : ∀ b'' c'' e'', (∀ j, j ≠ 50 * k + 10 * s0 + (n - 1) → b'' j = b' j ∧ c'' j = c' j ∧ e'' j = e' j) → fitR (w + 1) b'' c'' e'' (50 * k + 10 * s0 + (n - 1)) (FVn (Gx v lc N) s0 n k (w + 1)) → RV E (d + 3) 64 37 [(0, .ref 49), (1, .int (nI k)), (2, .int (nI w + nI 1))] (sv v (upd a k (nI 1)) b'' c'' e'' f g h) Q := by
        intro b'' c'' e'' h1 h2
        rw [nI_add]
        refine ih b'' c'' e'' (fun s m hs hm => ?_) (fun j hj => ?_)
        · by_cases e1 : s0 = s ∧ n = m + 1
          · obtain ⟨rfl, rfl⟩ := e1
            exact h2
          · rw [hoth s m hm e1]
            obtain ⟨o1, o2, o3⟩ := h1 (50 * k + 10 * s + m) (by omega)
            exact ((hr s m hs hm).up (by omega)).eq o1 o2 o3
        · obtain ⟨o1, o2, o3⟩ := h1 j (by omega)
          obtain ⟨p1, p2, p3⟩ := ho j hj
          exact ⟨o1.trans p1, o2.trans p2, o3.trans p3⟩
      cases ec : cc (Gx v lc N) w k with
      | none =>
        refine ⟨fun _ => w_X6_listFits_135 ⟨fun _ => ?_, fun h => absurd m1_lt h⟩, fun h => absurd m1_lt h⟩
        refine put b' c' e' (fun _ _ => ⟨rfl, rfl, rfl⟩) ?_
        rw [hcur, ec]
        show fitR _ _ _ _ _ (vadd _ none)
        rw [vadd_n]
        exact hr0.up (by omega)
      | some x =>
        have hx := (Gx_le (v := v) hW hlc hw ec).2.1
        rw [ec] at hcur
        have hcur : FVn (Gx v lc N) s0 n k (w + 1) = vadd (FVn (Gx v lc N) s0 n k w) (some (x, 1, w)) := hcur
        refine ⟨fun h => absurd h (nz_lt (by omega)), fun _ => ?_⟩
        rw [sv_54 hg, sv_53 hg]
        have fresh : (FVn (Gx v lc N) s0 n k (w + 1) = some (x, 1, w)) → RV E (d + 3) 64 111 [(0, .ref 49), (1, .int (nI k)), (2, .int (nI w)), (3, .int (eX (some x))), (4, .int (nI (50 * k + 10 * s0 + (n - 1))))] (sv v (upd a k (nI 1)) b' c' e' f g h) Q := by
          intro hv
          refine w_X6_listFits_111 ?_
          rw [sv_53 hg, sv_54 hg, sv_55 hg, sv_u53 hg, sv_u54 hg, sv_u55 hg, nI_clamp (by omega)]
          refine ⟨vp_in_nI (by omega) (by decide), vp_in_nI (by omega) (by decide), vp_in_nI (by omega) (by decide), w_X6_listFits_135 ⟨fun h => absurd h (nz_lt (by omega)), fun _ => ?_⟩⟩
          rw [sv_53 hg, sv_54 hg, sv_u54 hg, nI_clamp (by omega), upd_s, upd_s]
          refine ⟨vp_in_nI (by omega) (by decide), fun h => absurd rfl h, fun _ => ⟨vp_in_nI (by omega) (by decide), vp_in_nI (by omega) (by decide), ?_⟩⟩
          refine put (upd b' _ _) (upd (upd c' _ _) _ _) (upd e' _ _) (fun j hj => ⟨upd_n _ _ hj, ?_, upd_n _ _ hj⟩) ?_
          · rw [upd_n _ _ hj, upd_n _ _ hj]
          · rw [hv]
            exact ⟨upd_s _ _ _, (upd_s _ _ _).trans (nI_add 0 1), upd_s _ _ _, by omega, by omega, by omega, by omega⟩
        match e1 : FVn (Gx v lc N) s0 n k w, hr0 with
        | none, hr0 =>
          rw [e1] at hcur
          have hr0 : c' (50 * k + 10 * s0 + (n - 1)) = nI 0 := hr0
          exact ⟨fun _ => fresh hcur, fun h => absurd hr0 h⟩
        | some (y, q, p), hr0 =>
          rw [e1] at hcur
          obtain ⟨r1, r2, r3, r4, r5, r6, r7⟩ := hr0
          rw [r2, r1]
          refine ⟨fun h => ?_, fun _ => ?_⟩
          · exfalso
            rw [nI_eq (by omega) (by decide)] at h
            omega
          · show (nI y ≤ nI x → _) ∧ (¬ nI y ≤ nI x → _)
            rw [nI_leI (by omega) (by omega)]
            refine ⟨fun h1 => w_X6_listFits_135 ⟨fun h => absurd h (nz_lt (by omega)), fun _ => ?_⟩, fun h1 => fresh (by rw [hcur, vadd_gt (by omega)])⟩
            rw [sv_53 hg, sv_54 hg, sv_u54 hg, nI_clamp (by omega), r1, r2]
            refine ⟨vp_in_nI (by omega) (by decide), fun h => ?_, fun h => ⟨vp_in_nI (by omega) (by decide), vp_in_nI (by omega) (by decide), ?_⟩⟩
            · refine put b' c' e' (fun _ _ => ⟨rfl, rfl, rfl⟩) ?_
              have hne : ¬ nI x = nI y := h
              rw [nI_eq (by omega) (by omega)] at hne
              rw [hcur, vadd_lt (by omega)]
              exact ⟨r1, r2, r3, r4, by omega, r6, by omega⟩
            · have he : nI x = nI y := h
              rw [nI_eq (by omega) (by omega)] at he
              subst he
              refine put b' (upd c' _ _) e' (fun j hj => ⟨rfl, upd_n _ _ hj, rfl⟩) ?_
              rw [hcur, vadd_eq, Nat.min_eq_left (by omega)]
              exact ⟨r1, (upd_s _ _ _).trans (nI_add q 1), r3, by omega, by omega, r6, by omega⟩
  refine loop 0 (by omega) b _ e (fun s m hs hm => ?_) (fun j hj => ⟨rfl, ?_, rfl⟩)
  · show (if k * 50 ≤ 50 * k + 10 * s + m ∧ 50 * k + 10 * s + m < (k + 1) * 50 then nI 0 else c _) = nI 0
    rw [if_pos (by omega)]
  · show (if k * 50 ≤ j ∧ j < (k + 1) * 50 then nI 0 else c j) = c j
    rw [if_neg (by omega)]

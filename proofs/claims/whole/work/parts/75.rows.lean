/-! the reference: all rows, the least cost, rivals -/
theorem fr_fr (v : xV) (C F C' F' : Nat → Int32) : fr (fr v C F) C' F' = fr v C' F' := by
  show v_A (v_A (fr v C F) 114 C') 115 F' = _
  rw [fr_114, fr_115]
def RowsM (v : xV) (R : Nat) : Prop := gI v 80 30 = nI R ∧ R ≤ 256 ∧ ∀ r, r < R → ∃ n, n ≤ 6 ∧ gA v 96 r = nI n ∧ ∀ i, i < n → ∃ z, z < 5 ∧ gA v 97 (6 * r + i) = nI z
def rw1 (v : xV) (r : Nat) : List Nat := rowL (gA v 96) (gA v 97) r
def TabOK (v : xV) (G : Cx) (C F : Nat → Int32) (r : Nat) : Prop := ∀ i k, i ≤ (rw1 v r).length → k ≤ cN G → cellM C F (175 * r + 25 * i + k) (vt G ((rw1 v r).drop i) k)
theorem vc_add {a b : Vl} (ha : ∀ c n p, a = some (c, n, p) → c ≤ 384) (hb : ∀ c n p, b = some (c, n, p) → c ≤ 384) : (eM (vc a) ≤ eM (vc b) → eM (vc (vadd a b)) = eM (vc a)) ∧ (¬ eM (vc a) ≤ eM (vc b) → eM (vc (vadd a b)) = eM (vc b)) := by
  match a, b with
  | none, none => exact ⟨fun _ => rfl, fun _ => rfl⟩
  | none, some (c, n, p) =>
    have := hb c n p rfl
    refine ⟨fun h => ?_, fun _ => rfl⟩
    exfalso
    have h : nI 100000000 ≤ nI c := h
    rw [nI_leI (by decide) (by omega)] at h
    omega
  | some (c, n, p), none =>
    have := ha c n p rfl
    refine ⟨fun _ => rfl, fun h => absurd ?_ h⟩
    show nI c ≤ nI 100000000
    exact nI_le (by omega) (by decide)
  | some (c, n, p), some (c', n', p') =>
    have := ha c n p rfl
    have := hb c' n' p' rfl
    show (nI c ≤ nI c' → _ = nI c) ∧ (¬ nI c ≤ nI c' → _ = nI c')
    rw [nI_leI (by omega) (by omega)]
    refine ⟨fun h => ?_, fun h => ?_⟩
    · by_cases e : c = c'
      · subst e
        rw [vadd_eq]
        rfl
      · rw [vadd_lt (by omega)]
        rfl
    · rw [vadd_gt (by omega)]
      rfl
def cE (c : Nat) (f : Nat → Vl) : Nat → Nat
  | 0 => 0
  | n + 1 => cE c f n + (match f n with | some (c', m, _) => if c' = c then m else 0 | none => 0)
theorem cE_s (c : Nat) (f : Nat → Vl) (n : Nat) : cE c f (n + 1) = cE c f n + (match f n with | some (c', m, _) => if c' = c then m else 0 | none => 0) := rfl
theorem cE_eq (f : Nat → Vl) (n : Nat) : (vS f n = none → ∀ c, cE c f n = 0) ∧ ∀ c m p, vS f n = some (c, m, p) → cE c f n = m ∧ ∀ c', c' < c → cE c' f n = 0 := by
  induction n with
  | zero => exact ⟨fun _ _ => rfl, fun c m p h => by cases h⟩
  | succ n ih =>
    match e1 : vS f n, e2 : f n with
    | none, none =>
      have h0 := ih.1 e1
      refine ⟨fun _ c => ?_, fun c m p h => ?_⟩
      · rw [cE_s, e2, h0]
        rfl
      · rw [vS_s, e1, e2] at h
        cases h
    | none, some (b, mb, pb) =>
      have h0 := ih.1 e1
      refine ⟨fun h => ?_, fun c m p h => ?_⟩
      · rw [vS_s, e1, e2] at h
        cases h
      · rw [vS_s, e1, e2, n_vadd] at h
        simp only [Option.some.injEq, Prod.mk.injEq] at h
        obtain ⟨rfl, rfl, rfl⟩ := h
        refine ⟨?_, fun c' hc' => ?_⟩
        · rw [cE_s, e2, h0]
          show 0 + (if b = b then mb else 0) = mb
          rw [if_pos rfl, Nat.zero_add]
        · rw [cE_s, e2, h0]
          show 0 + (if b = c' then mb else 0) = 0
          rw [if_neg (by omega)]
    | some (a, ma, pa), none =>
      obtain ⟨h1, h2⟩ := ih.2 a ma pa e1
      refine ⟨fun h => ?_, fun c m p h => ?_⟩
      · rw [vS_s, e1, e2] at h
        cases h
      · rw [vS_s, e1, e2, vadd_n] at h
        simp only [Option.some.injEq, Prod.mk.injEq] at h
        obtain ⟨rfl, rfl, rfl⟩ := h
        exact ⟨by rw [cE_s, e2, h1]; rfl, fun c' hc' => by rw [cE_s, e2, h2 c' hc']; rfl⟩
    | some (a, ma, pa), some (b, mb, pb) =>
      obtain ⟨h1, h2⟩ := ih.2 a ma pa e1
      have hs : ∀ c, cE c f (n + 1) = cE c f n + (if b = c then mb else 0) := by
        intro c
        rw [cE_s, e2]
      refine ⟨fun h => ?_, fun c m p h => ?_⟩
      · rw [vS_s, e1, e2, vadd_s] at h
        split at h
        · cases h
        · split at h <;> cases h
      · rw [vS_s, e1, e2, vadd_s] at h
        split at h
        · simp only [Option.some.injEq, Prod.mk.injEq] at h
          obtain ⟨rfl, rfl, rfl⟩ := h
          exact ⟨by rw [hs, h1, if_neg (by omega)]; rfl, fun c' hc' => by rw [hs, h2 c' hc', if_neg (by omega)]⟩
        · split at h
          · simp only [Option.some.injEq, Prod.mk.injEq] at h
            obtain ⟨rfl, rfl, rfl⟩ := h
            exact ⟨by rw [hs, h2 b (by omega), if_pos rfl, Nat.zero_add], fun c' hc' => by rw [hs, h2 c' (by omega), if_neg (by omega)]⟩
          · simp only [Option.some.injEq, Prod.mk.injEq] at h
            obtain ⟨rfl, rfl, rfl⟩ := h
            obtain rfl : b = a := by omega
            exact ⟨by rw [hs, h1, if_pos rfl], fun c' hc' => by rw [hs, h2 c' hc', if_neg (by omega)]⟩
def lf (v : xV) (A B : Nat → Int32) : xV := v_A (v_A v 119 A) 120 B
theorem lf_119 (v : xV) (A B A' : Nat → Int32) : v_A (lf v A B) 119 A' = lf v A' B := by unfold lf; rw [vA_c _ (i := 119) (j := 120) (by decide), vA_s]
theorem lf_120 (v : xV) (A B B' : Nat → Int32) : v_A (lf v A B) 120 B' = lf v A B' := by unfold lf; rw [vA_s]
theorem k_rivals {E : Nat × (Nat → Int32)} {d : Nat} {v : xV} {s N R c : Nat} {f : Nat → Vl} {Q : xV → Prop} (hs : s < 20) (hR : gI v 80 30 = nI R) (hR2 : R ≤ 256) (hc : c ≤ 384) (hf : ∀ r, r < R → cellM (gA v 114) (gA v 115) (175 * r) (f r)) (hfb : ∀ r, r < R → ∀ c n p, f r = some (c, n, p) → c ≤ 384)
    (kk : ∀ H, (∀ r, r < R → H r = bB (decide (vc (f r) = some c))) → KV E d 185 [.ref 80, .int (nI s), .int (nI N), .int (nI c)] (lf v (upd (gA v 119) s (nI (min (cE c f R) 1000))) H) Q) : RV E (d + 1) 183 295 [(0, .ref 80), (1, .int (nI s)), (3, .int (nI N)), (4, .int (nI c)), (5, .int (nI 0))] (v_A v 119 (upd (gA v 119) s (nI 0))) Q := by
  have loop : ∀ r, r ≤ R → ∀ H, (∀ r', r' < r → H r' = bB (decide (vc (f r') = some c))) → RV E (d + 1) 183 295 [(0, .ref 80), (1, .int (nI s)), (3, .int (nI N)), (4, .int (nI c)), (5, .int (nI r))] (lf v (upd (gA v 119) s (nI (min (cE c f r) 1000))) H) Q := by
    intro r hr
    refine lp_up (n := R) (P := fun r => ∀ H, (∀ r', r' < r → H r' = bB (decide (vc (f r') = some c))) → RV E (d + 1) 183 295 [(0, .ref 80), (1, .int (nI s)), (3, .int (nI N)), (4, .int (nI c)), (5, .int (nI r))] (lf v (upd (gA v 119) s (nI (min (cE c f r) 1000))) H) Q) (fun H hH => w_X12_workOut_295 ?_) (fun r hr ih H hH => w_X12_workOut_295 ?_) hr
    · rw [show gI (lf v (upd (gA v 119) s (nI (min (cE c f R) 1000))) H) 80 30 = nI R from hR]
      exact ⟨fun _ => kk H hH, fun h => absurd (nI_le (Nat.le_refl _) (by omega)) h⟩
    · rw [show gI (lf v (upd (gA v 119) s (nI (min (cE c f r) 1000))) H) 80 30 = nI R from hR, nI_leI (by omega) (by omega)]
      refine ⟨fun h => by omega, fun _ => KI.of ok_181 (Nat.le_of_ble_eq_true rfl) (w_X12_cellOf_0 ?_)⟩
      obtain ⟨c1, c2⟩ := hf r hr
      have e114 : gA (lf v (upd (gA v 119) s (nI (min (cE c f r) 1000))) H) 114 (175 * r) = eM (vc (f r)) := c1
      have e120 : gA (lf v (upd (gA v 119) s (nI (min (cE c f r) 1000))) H) 120 = H := rfl
      have e119 : gA (lf v (upd (gA v 119) s (nI (min (cE c f r) 1000))) H) 119 = upd (gA v 119) s (nI (min (cE c f r) 1000)) := rfl
      simp (disch := omega) only [pk_mul, nI_add, nI_clamp, vp_t, true_and, Nat.mul_zero, Nat.add_zero, e114, e120, upd_s, lf_120]
      have hE : (eM (vc (f r)) = nI c ↔ vc (f r) = some c) := by
        match ef : f r with
        | none =>
          refine ⟨fun h => ?_, fun h => by cases h⟩
          exfalso
          have h : nI 100000000 = nI c := h
          rw [nI_eq (by decide) (by omega)] at h
          omega
        | some (c', n', p') =>
          have := hfb r hr c' n' p' ef
          show nI c' = nI c ↔ some c' = some c
          rw [nI_eq (by omega) (by omega), Option.some.injEq]
      have next : ∀ x : Int32, x = nI (min (cE c f (r + 1)) 1000) → ∀ H', (∀ r', r' < r + 1 → H' r' = bB (decide (vc (f r') = some c))) → RV E (d + 1) 183 295 [(0, .ref 80), (1, .int (nI s)), (3, .int (nI N)), (4, .int (nI c)), (5, .int (nI (r + 1)))] (lf v (upd (gA v 119) s x) H') Q := by
        intro x hx H' hH'
        rw [hx]
        exact ih H' hH'
      have hHn : ∀ z : Int32, z = bB (decide (vc (f r) = some c)) → ∀ r', r' < r + 1 → upd H r z r' = bB (decide (vc (f r') = some c)) := by
        intro z hz r' hr'
        by_cases e : r' = r
        · rw [e, upd_s, hz]
        · rw [upd_n _ _ e]
          exact hH r' (by omega)
      refine ⟨fun hne => ⟨fun _ => ?_, fun h => absurd trivial h⟩, fun heq => ⟨fun h => absurd h nI_01, fun _ => KI.of ok_181 (Nat.le_of_ble_eq_true rfl) (w_X12_cellOf_0 ?_)⟩⟩
      · have hne2 : ¬ vc (f r) = some c := fun z => hne (hE.mpr z)
        have hcE : cE c f (r + 1) = cE c f r := by
          rw [cE_s]
          match ef : f r with
          | none => rfl
          | some (c', n', p') =>
            rw [ef] at hne2
            show _ + (if c' = c then n' else 0) = _
            rw [if_neg (fun z => hne2 (by rw [z]; rfl))]
            rfl
        refine w_X12_workOut_364 ?_
        have e119' : gA (lf v (upd (gA v 119) s (nI (min (cE c f r) 1000))) (upd H r (nI 0))) 119 = upd (gA v 119) s (nI (min (cE c f r) 1000)) := rfl
        simp (disch := omega) only [nI_clamp, vp_t, true_and, e119', upd_s, nI_leI, nI_add]
        refine ⟨fun _ => next _ (by rw [hcE]) _ (hHn _ ?_), fun h => absurd (by omega) h⟩
        rw [decide_eq_false hne2]
        rfl
      · have heq2 : vc (f r) = some c := hE.mp heq
        match ef : f r with
        | none =>
          rw [ef] at heq2
          cases heq2
        | some (c', n', p') =>
          rw [ef] at heq2
          have hcc : c' = c := by
            have heq2 : some c' = some c := heq2
            rw [Option.some.injEq] at heq2
            exact heq2
          have hcE : cE c f (r + 1) = cE c f r + n' := by
            rw [cE_s, ef]
            show _ + (if c' = c then n' else 0) = _
            rw [if_pos hcc]
          rw [ef] at c2
          have e115 : gA (lf v (upd (gA v 119) s (nI (min (cE c f r) 1000))) (upd H r (nI 1))) 115 (175 * r) = nI (min n' 1000) := c2
          have e119' : gA (lf v (upd (gA v 119) s (nI (min (cE c f r) 1000))) (upd H r (nI 1))) 119 = upd (gA v 119) s (nI (min (cE c f r) 1000)) := rfl
          simp (disch := omega) only [pk_mul, nI_add, nI_clamp, vp_t, true_and, Nat.mul_zero, Nat.add_zero, e115, e119, e119', upd_s, lf_119, upd_upd]
          refine w_X12_workOut_364 ?_
          have e119'' : gA (lf v (upd (gA v 119) s (nI (min (cE c f r) 1000 + min n' 1000))) (upd H r (nI 1))) 119 = upd (gA v 119) s (nI (min (cE c f r) 1000 + min n' 1000)) := rfl
          simp (disch := omega) only [nI_clamp, vp_t, true_and, e119'', upd_s, nI_leI, nI_add, lf_119, upd_upd]
          have hz : nI 1 = bB (decide (vc (f r) = some c)) := by
            rw [ef, decide_eq_true heq2]
            rfl
          refine ⟨fun h => next _ ?_ _ (hHn _ hz), fun h => next _ ?_ _ (hHn _ hz)⟩
          · rw [hcE]
            congr 1
            omega
          · rw [hcE]
            congr 1
            omega
  have := loop 0 (Nat.zero_le _) (gA v 120) (fun r h => by omega)
  have e : lf v (upd (gA v 119) s (nI (min (cE c f 0) 1000))) (gA v 120) = v_A v 119 (upd (gA v 119) s (nI 0)) := by
    unfold lf
    exact vAself (v_A v 119 (upd (gA v 119) s (nI 0))) 120
  rw [e] at this
  exact this
theorem k_rows {E : Nat × (Nat → Int32)} {d : Nat} {v : xV} {s N R W : Nat} {lc : Nat → Nat → Option Nat} {Q : xV → Prop} (hs : s < 20) (hW : WordM v W) (hG : Gok (Gm v lc N)) (hN2 : N ≤ 24) (hR : RowsM v R) (hWC : WC (Gm v lc N) (gA v 113))
    (k1 : ∀ C F, (∀ r, r < R → TabOK v (Gm v lc N) C F r) → vS (fun r => vt (Gm v lc N) (rw1 v r) 0) R = none → Q (v_A (fr v C F) 118 (upd (gA v 118) s (nI 100000000))))
    (k2 : ∀ C F c n p, (∀ r, r < R → TabOK v (Gm v lc N) C F r) → vS (fun r => vt (Gm v lc N) (rw1 v r) 0) R = some (c, n, p) → ∀ H, (∀ r, r < R → H r = bB (decide (vc (vt (Gm v lc N) (rw1 v r) 0) = some c))) → KV E (d + 1) 185 [.ref 80, .int (nI s), .int (nI N), .int (nI c)] (lf (v_A (fr v C F) 118 (upd (gA v 118) s (nI c))) (upd (gA v 119) s (nI (min n 1000))) H) Q) : RV E (d + 2) 183 215 [(0, .ref 80), (1, .int (nI s)), (3, .int (nI N)), (4, .int (nI 100000000)), (5, .int (nI 0))] v Q := by
  obtain ⟨hR1, hR2, hR3⟩ := hR
  obtain ⟨f, hf⟩ : ∃ f, f = (fun r => vt (Gm v lc N) (rw1 v r) 0) := ⟨_, rfl⟩
  have hfr : ∀ r, f r = vt (Gm v lc N) (rw1 v r) 0 := fun r => by rw [hf]
  have hfb : ∀ r, ∀ c n p, f r = some (c, n, p) → c ≤ 384 := by
    intro r c n p e
    rw [hfr] at e
    have := vt_bd hG (Nat.zero_le _) e
    have : c ≤ 16 * (N - 0) := this
    omega
  have hSb : ∀ r, ∀ c n p, vS f r = some (c, n, p) → c ≤ 384 := by
    intro r c n p e
    obtain ⟨i, _, m', p', e'⟩ := vS_mem c n p e
    exact hfb i c m' p' e'
  rw [← hf] at k1 k2
  have len : ∀ r, r < R → ∃ n, n ≤ 6 ∧ gA v 96 r = nI n ∧ (rw1 v r).length = n ∧ ∀ i, i < n → ∃ z, z < 5 ∧ gA v 97 (6 * r + i) = nI z := by
    intro r hr
    obtain ⟨n, h1, h2, h3⟩ := hR3 r hr
    exact ⟨n, h1, h2, rowL_len h2 h1, h3⟩
  have loop : ∀ r, r ≤ R → ∀ C F, (∀ r', r' < r → TabOK v (Gm v lc N) C F r') → RV E (d + 2) 183 215 [(0, .ref 80), (1, .int (nI s)), (3, .int (nI N)), (4, .int (eM (vc (vS f r)))), (5, .int (nI r))] (fr v C F) Q := by
    intro r hr
    refine lp_up (n := R) (P := fun r => ∀ C F, (∀ r', r' < r → TabOK v (Gm v lc N) C F r') → RV E (d + 2) 183 215 [(0, .ref 80), (1, .int (nI s)), (3, .int (nI N)), (4, .int (eM (vc (vS f r)))), (5, .int (nI r))] (fr v C F) Q) (fun C F hT => w_X12_workOut_215 ?_) (fun r hr ih C F hT => w_X12_workOut_215 ?_) hr
    · rw [show gI (fr v C F) 80 30 = nI R from hR1]
      refine ⟨fun _ => ⟨vp_in_nI hs (by decide), ?_⟩, fun h => absurd (nI_le (Nat.le_refl _) (by omega)) h⟩
      have e118 : gA (fr v C F) 118 = gA v 118 := rfl
      have e119 : gA (v_A (fr v C F) 118 (upd (gA v 118) s (eM (vc (vS f R))))) 119 = gA v 119 := rfl
      rw [nI_clamp (by omega), e118]
      match eS : vS f R with
      | none =>
        refine ⟨fun h => absurd h (by decide), fun _ => k1 C F hT eS⟩
      | some (c, n, p) =>
        have hc := hSb R c n p eS
        refine ⟨fun _ => ⟨vp_in_nI hs (by decide), ?_⟩, fun h => absurd ?_ h⟩
        · refine k_rivals (v := v_A (fr v C F) 118 (upd (gA v 118) s (nI c))) (f := f) hs hR1 hR2 hc (fun r hr => ?_) (fun r hr => hfb r) (fun H hH => ?_)
          · have := hT r hr 0 0 (Nat.zero_le _) (Nat.zero_le _)
            rw [hfr]
            exact this
          · have := k2 C F c n p hT eS H (fun r hr => by rw [hH r hr, hfr])
            rw [((cE_eq f R).2 c n p eS).1]
            exact this
        · show nI c < nI 100000000
          rw [nI_ltI (by omega) (by decide)]
          omega
    · rw [show gI (fr v C F) 80 30 = nI R from hR1, nI_leI (by omega) (by omega)]
      obtain ⟨n, l1, l2, l3, l4⟩ := len r hr
      refine ⟨fun h => by omega, fun _ => k_fillRow (v := fr v C F) (lc := lc) hW hG hN2 (by omega) l2 l1 l4 hWC (fun C' F' hT' hFr => ?_)⟩
      rw [fr_fr]
      have hTr : TabOK v (Gm v lc N) C' F' r := by
        intro i k hi hk
        exact hT' i k (by omega) hk
      have hT2 : ∀ r', r' < r + 1 → TabOK v (Gm v lc N) C' F' r' := by
        intro r' hr'
        by_cases e : r' = r
        · rw [e]
          exact hTr
        · intro i k hi hk
          obtain ⟨n', m1, m2, m3, m4⟩ := len r' (by omega)
          have hk' : k ≤ N := hk
          obtain ⟨o1, o2⟩ := hFr (175 * r' + 25 * i + k) (by omega)
          obtain ⟨q1, q2⟩ := hT r' (by omega) i k hi hk
          exact ⟨o1.trans q1, o2.trans q2⟩
      have c0 : gA (fr v C' F') 114 (175 * r) = eM (vc (f r)) := by
        have := (hTr 0 0 (Nat.zero_le _) (Nat.zero_le _)).1
        rw [hfr]
        exact this
      obtain ⟨a1, a2⟩ := vc_add (hSb r) (hfb r)
      refine KI.of ok_181 (Nat.le_of_ble_eq_true rfl) (w_X12_cellOf_0 ?_)
      simp (disch := omega) only [pk_mul, nI_add, nI_clamp, vp_t, true_and, Nat.mul_zero, Nat.add_zero, c0]
      refine ⟨fun h => ?_, fun h => KI.of ok_181 (Nat.le_of_ble_eq_true rfl) (w_X12_cellOf_0 ?_)⟩
      · have := ih C' F' hT2
        rw [vS_s, a1 h] at this
        exact this
      · simp (disch := omega) only [pk_mul, nI_add, nI_clamp, vp_t, true_and, Nat.mul_zero, Nat.add_zero, c0, forall_eq]
        have := ih C' F' hT2
        rw [vS_s, a2 h] at this
        exact this
  have := loop 0 (Nat.zero_le _) (gA v 114) (gA v 115) (fun r h => by omega)
  rw [fr_self] at this
  exact this

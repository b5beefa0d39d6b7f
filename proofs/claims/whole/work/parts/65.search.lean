/-! the search, the class -/
theorem vS_mem {f : Nat → Vl} {n : Nat} : ∀ c m p, vS f n = some (c, m, p) → ∃ i, i < n ∧ ∃ m' p', f i = some (c, m', p') := by
  induction n with
  | zero =>
    intro c m p h
    cases h
  | succ n ih =>
    intro c m p h
    rw [vS_s] at h
    cases e1 : vS f n with
    | none =>
      rw [e1, n_vadd] at h
      exact ⟨n, by omega, m, p, h⟩
    | some x =>
      obtain ⟨a, ma, pa⟩ := x
      rw [e1] at h
      obtain ⟨i, hi, m', p', e⟩ := ih a ma pa e1
      cases e2 : f n with
      | none =>
        rw [e2, vadd_n] at h
        simp only [Option.some.injEq, Prod.mk.injEq] at h
        exact ⟨i, by omega, m', p', by rw [e, h.1]⟩
      | some y =>
        obtain ⟨b, mb, pb⟩ := y
        rw [e2, vadd_s] at h
        split at h
        · simp only [Option.some.injEq, Prod.mk.injEq] at h
          exact ⟨i, by omega, m', p', by rw [e, h.1]⟩
        · split at h
          · simp only [Option.some.injEq, Prod.mk.injEq] at h
            exact ⟨n, by omega, mb, pb, by rw [e2, h.1]⟩
          · simp only [Option.some.injEq, Prod.mk.injEq] at h
            exact ⟨i, by omega, m', p', by rw [e, h.1]⟩
/-- every word has its places -/
def Gok (G : Cx) : Prop := ∀ w, w < cW G → (cs G w < 5 ∧ 1 ≤ cl G w ∧ cl G w ≤ 10) ∧ ∀ k x, cc G w k = some x → x ≤ 16 * cl G w ∧ k + cl G w ≤ cN G
theorem UL_bd {G : Cx} (hG : Gok G) : ∀ (r k : Nat) (L : List (List Nat)) (c n p : Nat), k + r = cN G → (∀ t, t ∈ L → t.length ≤ r) ∨ True → UL G L k = some (c, n, p) → c ≤ 16 * (cN G - k) := by
  intro r
  induction r using Nat.strongRecOn with
  | _ r ih =>
    intro k L c n p hk _ h
    by_cases hkN : k < cN G
    · obtain ⟨h1, cw, b, m, q, e1, e2, e3⟩ := UL_pick hkN h
      obtain ⟨⟨_, g1, _⟩, g2⟩ := hG p h1
      obtain ⟨g3, g4⟩ := g2 k cw e1
      have := ih (cN G - (k + cl G p)) (by omega) (k + cl G p) _ b m q (by omega) (Or.inr trivial) e2
      omega
    · obtain rfl : k = cN G := by omega
      have : ∀ L : List (List Nat), ∀ c n p, UL G L (cN G) = some (c, n, p) → c = 0 := by
        intro L
        induction L with
        | nil =>
          intro c n p h
          cases h
        | cons t L ihL =>
          intro c n p h
          rw [UL_cons] at h
          cases t with
          | nil =>
            rw [vt_0, if_pos rfl] at h
            cases e : UL G L (cN G) with
            | none =>
              rw [e, vadd_n] at h
              simp only [Option.some.injEq, Prod.mk.injEq] at h
              omega
            | some x =>
              obtain ⟨a, ma, pa⟩ := x
              have ha := ihL a ma pa e
              subst ha
              rw [e, vadd_eq] at h
              simp only [Option.some.injEq, Prod.mk.injEq] at h
              omega
          | cons a u =>
            rw [vt_s, if_neg (by omega), n_vadd] at h
            exact ihL c n p h
      have := this L c n p h
      omega
/-- the states of the patterns: their steps, ends and what they still allow -/
def DFA (st en : Nat → Int32) (Qn : Nat) (Lf : Nat → List (List Nat)) : Prop := (1 ≤ Qn ∧ Qn ≤ 512) ∧ ∀ q, q < Qn → (Lf q).Nodup ∧ en q = bB (decide ([] ∈ Lf q)) ∧ ∀ s, s < 5 → (st (5 * q + s) = -1 ∧ der s (Lf q) = []) ∨ ∃ q', q' < Qn ∧ st (5 * q + s) = nI q' ∧ (Lf q').Perm (der s (Lf q)) ∧ der s (Lf q) ≠ []
/-- a cell that holds a value -/
def cellR (f g h : Nat → Int32) (i : Nat) : Vl → Prop
  | none => f i = -1
  | some (c, n, p) => f i = nI c ∧ g i = nI (min n 1000) ∧ h i = nI p ∧ c ≤ 384 ∧ p < 80
def cellE (f g : Nat → Int32) (i : Nat) : Vl → Prop
  | none => f i = -1
  | some (c, n, _) => f i = nI c ∧ g i = nI (min n 1000) ∧ c ≤ 384
theorem m2_ne1 : ¬ (-1 : Int32) = -2 := by decide
theorem m2_ne {n : Nat} (h : n < 2 ^ 31) : ¬ nI n = (-2 : Int32) := fun e => nz_lt h (by rw [e]; decide)
theorem cellR.ne {f g h : Nat → Int32} {i : Nat} {x : Vl} (H : cellR f g h i x) : ¬ f i = -2 := by
  match x, H with
  | none, H => rw [show f i = -1 from H]; exact m2_ne1
  | some (c, n, p), H => rw [H.1]; exact m2_ne (by have := H.2.2.2.1; omega)
theorem cellE.ne {f g : Nat → Int32} {i : Nat} {x : Vl} (H : cellE f g i x) : ¬ f i = -2 := by
  match x, H with
  | none, H => rw [show f i = -1 from H]; exact m2_ne1
  | some (c, n, p), H => rw [H.1]; exact m2_ne (by have := H.2.2; omega)
theorem cellR.eq {f g h f' g' h' : Nat → Int32} {i : Nat} {x : Vl} (H : cellR f g h i x) (h1 : f' i = f i) (h2 : g' i = g i) (h3 : h' i = h i) : cellR f' g' h' i x := by
  match x, H with
  | none, H => exact h1.trans H
  | some (c, n, p), ⟨g1, g2, g3, g4⟩ => exact ⟨h1.trans g1, h2.trans g2, h3.trans g3, g4⟩
theorem cellE.eq {f g f' g' : Nat → Int32} {i : Nat} {x : Vl} (H : cellE f g i x) (h1 : f' i = f i) (h2 : g' i = g i) : cellE f' g' i x := by
  match x, H with
  | none, H => exact h1.trans H
  | some (c, n, p), ⟨g1, g2, g4⟩ => exact ⟨h1.trans g1, h2.trans g2, g4⟩
theorem cellR.e {f g h : Nat → Int32} {i : Nat} {x : Vl} (H : cellR f g h i x) : cellE f g i x := by
  match x, H with
  | none, H => exact H
  | some (c, n, p), ⟨g1, g2, _, g4, _⟩ => exact ⟨g1, g2, g4⟩
def vc : Vl → Option Nat
  | none => none
  | some (c, _, _) => some c
theorem cellE.v {f g : Nat → Int32} {i : Nat} {x : Vl} (H : cellE f g i x) : f i = eX (vc x) := by
  match x, H with
  | none, H => exact H
  | some (c, n, p), H => exact H.1
/-- a cell that is done: its value, and the cells behind it are done -/
def cellD (G : Cx) (st : Nat → Int32) (Lf : Nat → List (List Nat)) (f g h : Nat → Int32) (q k : Nat) : Prop := cellE f g (25 * q + k) (UL G (Lf q) k) ∧ (k < cN G → cellR f g h (25 * q + k) (UL G (Lf q) k) ∧ ∀ s m q', s < 5 → m < 10 → st (5 * q + s) = nI q' → q' < 512 → ¬ FV G s (m + 1) k = none → ¬ f (25 * q' + (k + (m + 1))) = -2)
def SCells (G : Cx) (st : Nat → Int32) (Qn : Nat) (Lf : Nat → List (List Nat)) (k0 : Nat) (f g h : Nat → Int32) : Prop := ∀ q k, q < Qn → k0 ≤ k → k ≤ cN G → f (25 * q + k) = -2 ∨ cellD G st Lf f g h q k
theorem cap_eq (m n c : Nat) (hm : 1 ≤ m) : min (min c 1000 + m * min n 1000) 1000 = min (c + m * n) 1000 := by
  by_cases h : n ≤ 1000
  · rw [show min n 1000 = n by omega]
    omega
  · rw [show min n 1000 = 1000 by omega]
    have h1 : 1000 ≤ m * 1000 := Nat.le_mul_of_pos_left _ hm
    have h2 : 1000 ≤ m * n := Nat.le_trans (by omega : 1000 ≤ n) (Nat.le_mul_of_pos_left _ hm)
    omega
theorem k_weigh {E : Nat × (Nat → Int32)} {d : Nat} {v : xV} {i j r Z : Nat} {a b c e f g h : Nat → Int32} {x : Vl} {fx fm fw bc bn bq : Nat} {Q : xV → Prop} (hg : 57 ≤ gb v) (hK : gK v (gb v) = 100 ∧ gK v (gb v + 1) = 100 ∧ gK v (gb v + 2) = 100) (hZ : gN v (gb v) = Z ∧ gN v (gb v + 1) = Z ∧ gN v (gb v + 2) = Z) (hZ2 : Z < 2 ^ 31) (hi : i < Z) (hj : j < 1200) (hr : r < Z) (hri : r ≠ i)
    (hc : cellR f g h i x) (hf : fitR 80 b c e j (some (fx, fm, fw))) (hb : cellE f g r (some (bc, bn, bq))) (hs : fx + bc ≤ 384)
    (kk : ∀ f' g' h', cellR f' g' h' i (vadd x (some (fx + bc, fm * bn, fw))) → (∀ r, r ≠ i → f' r = f r ∧ g' r = g r ∧ h' r = h r) → Q (sv v a b c e f' g' h')) : KV E (d + 1) 63 [.ref 49, .int (nI i), .int (nI j), .int (nI r)] (sv v a b c e f g h) Q := by
  obtain ⟨f1, f2, f3, f4, f5, f6, f7⟩ := hf
  obtain ⟨b1, b2, b3⟩ := hb
  have iI : vp_in (nI i) Z := vp_in_nI hi hZ2
  have iR : vp_in (nI r) Z := vp_in_nI hr hZ2
  have iJ : vp_in (nI j) 1200 := vp_in_nI hj (by decide)
  have last : ∀ f g h : Nat → Int32, ∀ n0 p0, f i = nI (fx + bc) → g i = nI (min n0 1000) → h i = nI p0 → p0 < 80 → g r = nI (min bn 1000) → (∀ f' g' h', cellR f' g' h' i (some (fx + bc, n0 + fm * bn, min p0 fw)) → (∀ r, r ≠ i → f' r = f r ∧ g' r = g r ∧ h' r = h r) → Q (sv v a b c e f' g' h')) → RV E (d + 1) 63 63 [(0, .ref 49), (1, .int (nI i)), (2, .int (nI j)), (3, .int (nI r)), (4, .int (nI (fx + bc)))] (sv v a b c e f g h) Q := by
    intro f g h n0 p0 e1 e2 e3 hp e4 k2
    refine w_X6_weigh_63 ?_
    simp only [sv_gb, sv_gK, sv_gN, hK, hZ, sv_f, sv_g, sv_h, sv_54 hg, sv_ug, sv_55 hg, sv_uh, nI_clamp (show i < 2 ^ 31 by omega), nI_clamp (show j < 2 ^ 31 by omega), nI_clamp (show r < 2 ^ 31 by omega), e1, e2, e3, e4, f2, f3, forall_eq, iI, iR, iJ, true_and, not_true_eq_false, false_implies, forall_const, pk_mul, nI_add]
    have h0 : fm * min bn 1000 ≤ 80 * 1000 := Nat.mul_le_mul f5 (Nat.min_le_right _ _)
    have g1 : (if nI (min n0 1000 + fm * min bn 1000) < nI 1000 then nI (min n0 1000 + fm * min bn 1000) else nI 1000) = nI (min (n0 + fm * bn) 1000) := by
      rw [← cap_eq fm bn n0 f4]
      by_cases hlt : min n0 1000 + fm * min bn 1000 < 1000
      · rw [if_pos ((nI_ltI (by omega) (by decide)).mpr hlt), show min (min n0 1000 + fm * min bn 1000) 1000 = min n0 1000 + fm * min bn 1000 by omega]
      · rw [if_neg (fun q => hlt ((nI_ltI (by omega) (by decide)).mp q)), show min (min n0 1000 + fm * min bn 1000) 1000 = 1000 by omega]
    have g2 : (if nI fw < nI p0 then nI fw else nI p0) = nI (min p0 fw) := by
      by_cases hlt : fw < p0
      · rw [if_pos ((nI_ltI (by omega) (by omega)).mpr hlt), Nat.min_eq_right (by omega)]
      · rw [if_neg (fun q => hlt ((nI_ltI (by omega) (by omega)).mp q)), Nat.min_eq_left (by omega)]
    rw [g1, g2]
    refine k2 _ _ _ ⟨e1, upd_s _ _ _, upd_s _ _ _, hs, by omega⟩ (fun r hr => ⟨rfl, upd_n _ _ hr, upd_n _ _ hr⟩)
  have over : ∀ (k2 : ∀ f' g' h', cellR f' g' h' i (some (fx + bc, fm * bn, fw)) → (∀ r, r ≠ i → f' r = f r ∧ g' r = g r ∧ h' r = h r) → Q (sv v a b c e f' g' h')), RV E (d + 1) 63 36 [(0, .ref 49), (1, .int (nI i)), (2, .int (nI j)), (3, .int (nI r)), (4, .int (nI (fx + bc)))] (sv v a b c e f g h) Q := by
    intro k2
    refine w_X6_weigh_36 ?_
    simp only [sv_gb, sv_gK, sv_gN, hK, hZ, sv_f, sv_g, sv_h, sv_uf, sv_ug, sv_55 hg, sv_uh, nI_clamp (show i < 2 ^ 31 by omega), nI_clamp (show j < 2 ^ 31 by omega), f3, forall_eq, iI, iJ, true_and]
    refine last _ _ _ 0 fw (upd_s _ _ _) (by rw [upd_s]; rfl) (upd_s _ _ _) f7 (by rw [upd_n _ _ hri]; exact b2) (fun f' g' h' h1 h2 => k2 f' g' h' ?_ (fun r hr => ?_))
    · rw [Nat.zero_add, Nat.min_self] at h1
      exact h1
    · obtain ⟨o1, o2, o3⟩ := h2 r hr
      rw [upd_n _ _ hr] at o1 o2 o3
      exact ⟨o1, o2, o3⟩
  refine KV.of ok_63 (Nat.le_of_ble_eq_true rfl) (w_X6_weigh_0 ?_)
  simp only [sv_gb, sv_gK, sv_gN, hK, hZ, sv_f, sv_53 hg, nI_clamp (show i < 2 ^ 31 by omega), nI_clamp (show j < 2 ^ 31 by omega), nI_clamp (show r < 2 ^ 31 by omega), f1, b1, forall_eq, iI, iR, iJ, true_and, nI_add]
  match x, hc with
  | none, hc =>
    have hc : f i = -1 := hc
    exact ⟨fun _ => over kk, fun h => absurd hc h⟩
  | some (c0, n0, p0), ⟨c1, c2, c3, c4, c5⟩ =>
    rw [c1, nI_leI (by omega) (by omega)]
    refine ⟨fun h => absurd h (m1_ne (by omega)), fun _ => ⟨fun hle => ?_, fun hle => over (fun f' g' h' h1 h2 => kk f' g' h' (by rw [vadd_gt (by omega)]; exact h1) h2)⟩⟩
    by_cases he : c0 = fx + bc
    · subst he
      exact last f g h n0 p0 c1 c2 c3 c5 b2 (fun f' g' h' h1 h2 => kk f' g' h' (by rw [vadd_eq]; exact h1) h2)
    · refine w_X6_weigh_63 ?_
      simp only [sv_gb, sv_gK, sv_gN, hK, hZ, sv_f, nI_clamp (show i < 2 ^ 31 by omega), c1, iI, true_and]
      refine ⟨fun _ => kk f g h (by rw [vadd_lt (by omega)]; exact ⟨c1, c2, c3, c4, c5⟩) (fun _ _ => ⟨rfl, rfl, rfl⟩), fun h => ?_⟩
      rw [nI_eq (by omega) (by omega)] at h
      omega

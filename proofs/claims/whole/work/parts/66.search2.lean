/-! the search: its contract -/
theorem ofN (n : Nat) : Int32.ofNat n = nI n := rfl
theorem Gx_W {v : xV} {lc : Nat → Nat → Option Nat} {N W : Nat} (hW : WordX v W) : cW (Gx v lc N) = W := by
  show (gI v 3 7).toNatClampNeg = W
  rw [hW.1, nI_clamp (by have := hW.2.1; omega)]
theorem Gx_ok {v : xV} {lc : Nat → Nat → Option Nat} {N W : Nat} (hX : SearchX v lc N W) : Gok (Gx v lc N) := by
  obtain ⟨hg, hW, hN, hN2, h51, hlc⟩ := hX
  intro w hw
  rw [Gx_W hW] at hw
  refine ⟨?_, fun k x h => ?_⟩
  · obtain ⟨n, hn, en⟩ := hW.2.2.1 w hw
    obtain ⟨s, hs, es⟩ := hW.2.2.2.2 w
    have e1 : cl (Gx v lc N) w = n := by
      show (gA v 7 w).toNatClampNeg = n
      rw [en, nI_clamp (by omega)]
    have e2 : cs (Gx v lc N) w = s := by
      show (gA v 8 w).toNatClampNeg = s
      rw [es, nI_clamp (by omega)]
    omega
  · have := Gx_le hW hlc hw h
    exact ⟨this.1, this.2.2⟩
theorem FV_some {G : Cx} (hG : Gok G) {s m k x n p : Nat} (h : FV G s (m + 1) k = some (x, n, p)) : x ≤ 16 * (m + 1) ∧ k + (m + 1) ≤ cN G := by
  obtain ⟨w, hw, m', p', e⟩ := vS_mem x n p h
  split at e
  · rename_i hc
    cases e2 : cc G w k with
    | none => rw [e2] at e; cases e
    | some y =>
      rw [e2] at e
      have e : some (y, 1, w) = some (x, m', p') := e
      simp only [Option.some.injEq, Prod.mk.injEq] at e
      have := (hG w hw).2 k y e2
      rw [hc.2] at this
      omega
  · cases e
def MachX (v : xV) (Qn : Nat) (Lf : Nat → List (List Nat)) (Z : Nat) : Prop := DFA (gA v 23) (gA v 24) Qn Lf ∧ (gK v (gb v) = 100 ∧ gK v (gb v + 1) = 100 ∧ gK v (gb v + 2) = 100) ∧ (gN v (gb v) = Z ∧ gN v (gb v + 1) = Z ∧ gN v (gb v + 2) = Z) ∧ 25 * Qn ≤ Z ∧ Z < 2 ^ 31
/-- what a search leaves -/
def SPost (G : Cx) (st : Nat → Int32) (Qn : Nat) (Lf : Nat → List (List Nat)) (k : Nat) (a f g h a' b' c' e' f' g' h' : Nat → Int32) : Prop :=
  SFits G a' b' c' e' ∧ SCells G st Qn Lf k f' g' h' ∧ (∀ j, a j = nI 1 → a' j = nI 1) ∧ (∀ q k', k' < k → f' (25 * q + k') = f (25 * q + k') ∧ g' (25 * q + k') = g (25 * q + k') ∧ h' (25 * q + k') = h (25 * q + k')) ∧ ∀ i, ¬ f i = -2 → ¬ f' i = -2
theorem cellD.tr {G : Cx} {st : Nat → Int32} {Lf : Nat → List (List Nat)} {f g h f' g' h' : Nat → Int32} {q k : Nat} (H : cellD G st Lf f g h q k) (h1 : f' (25 * q + k) = f (25 * q + k)) (h2 : g' (25 * q + k) = g (25 * q + k)) (h3 : h' (25 * q + k) = h (25 * q + k)) (mo : ∀ i, ¬ f i = -2 → ¬ f' i = -2) : cellD G st Lf f' g' h' q k :=
  ⟨H.1.eq h1 h2, fun hk => ⟨(H.2 hk).1.eq h1 h2 h3, fun s m q' hs hm e hq hF => mo _ ((H.2 hk).2 s m q' hs hm e hq hF)⟩⟩
theorem SCells.mix {G : Cx} {st : Nat → Int32} {Qn : Nat} {Lf : Nat → List (List Nat)} {k0 k1 : Nat} {f g h f' g' h' : Nat → Int32} (H : SCells G st Qn Lf k0 f g h) (H' : SCells G st Qn Lf k1 f' g' h') (fr : ∀ q k', k0 ≤ k' → k' < k1 → f' (25 * q + k') = f (25 * q + k') ∧ g' (25 * q + k') = g (25 * q + k') ∧ h' (25 * q + k') = h (25 * q + k')) (mo : ∀ i, ¬ f i = -2 → ¬ f' i = -2) : SCells G st Qn Lf k0 f' g' h' := by
  intro q k hq h0 hN
  by_cases h1 : k1 ≤ k
  · exact H' q k hq h1 hN
  · obtain ⟨e1, e2, e3⟩ := fr q k h0 (by omega)
    rcases H q k hq h0 hN with e | e
    · exact Or.inl (e1.trans e)
    · exact Or.inr (e.tr e1 e2 e3 mo)
/-- the parts of a cell's sum that are done -/
def part (G : Cx) (L : List (List Nat)) (k s m : Nat) : Vl := vadd (vS (fun s => vS (fun j => vmul (FV G s (j + 1) k) (UL G (der s L) (k + (j + 1)))) 10) s) (vS (fun j => vmul (FV G s (j + 1) k) (UL G (der s L) (k + (j + 1)))) m)
theorem part_00 (G : Cx) (L : List (List Nat)) (k : Nat) : part G L k 0 0 = none := rfl
theorem part_s (G : Cx) (L : List (List Nat)) (k s m : Nat) : part G L k s (m + 1) = vadd (part G L k s m) (vmul (FV G s (m + 1) k) (UL G (der s L) (k + (m + 1)))) := by
  unfold part
  rw [vS_s, ← vadd_assoc]
theorem part_n (G : Cx) (L : List (List Nat)) (k s : Nat) : part G L k (s + 1) 0 = part G L k s 10 := by
  unfold part
  rw [vS_s]
  exact vadd_n _
theorem part_e (G : Cx) (L : List (List Nat)) (k s m : Nat) (h : der s L = []) : part G L k s m = part G L k s 0 := by
  unfold part
  congr 1
  show _ = none
  rw [h]
  exact vS_none (fun i _ => vmul_n _)
def LInv (G : Cx) (st : Nat → Int32) (Qn : Nat) (Lf : Nat → List (List Nat)) (q k s m : Nat) (a0 f0 g0 h0 a b c e f g h : Nat → Int32) : Prop :=
  (SFits G a b c e ∧ a k = nI 1 ∧ ∀ j, a0 j = nI 1 → a j = nI 1) ∧ SCells G st Qn Lf (k + 1) f g h ∧ cellR f g h (25 * q + k) (part G (Lf q) k s m) ∧ (∀ q' k', k' ≤ k → ¬ (q' = q ∧ k' = k) → f (25 * q' + k') = f0 (25 * q' + k') ∧ g (25 * q' + k') = g0 (25 * q' + k') ∧ h (25 * q' + k') = h0 (25 * q' + k')) ∧ (∀ i, ¬ f0 i = -2 → ¬ f i = -2) ∧ ∀ s' j q', s' < 5 → j < 10 → (s' < s ∨ (s' = s ∧ j < m)) → st (5 * q + s') = nI q' → q' < 512 → ¬ FV G s' (j + 1) k = none → ¬ f (25 * q' + (k + (j + 1))) = -2
theorem k_searchB {E : Nat × (Nat → Int32)} {d dep q k N W Qn Z : Nat} {v : xV} {lc : Nat → Nat → Option Nat} {Lf : Nat → List (List Nat)} (hX : SearchX v lc N W) (hM : MachX v Qn Lf Z) (hdep : dep ≤ 6) (hq : q < Qn) (hk : k ≤ N)
    (rec : ∀ s q' k', s < 5 → q' < Qn → gA v 23 (5 * q + s) = nI q' → (Lf q').Perm (der s (Lf q)) → der s (Lf q) ≠ [] → k < k' → k' ≤ N → ∀ (a b c e f g h : Nat → Int32) (Q : Int32 → xV → Prop), SFits (Gx v lc N) a b c e → SCells (Gx v lc N) (gA v 23) Qn Lf k' f g h → (∀ a' b' c' e' f' g' h', SPost (Gx v lc N) (gA v 23) Qn Lf k' a f g h a' b' c' e' f' g' h' → cellD (Gx v lc N) (gA v 23) Lf f' g' h' q' k' → Q (eX (vc (UL (Gx v lc N) (Lf q') k'))) (sv v a' b' c' e' f' g' h')) → KI E (d + 3) 62 [.ref 49, .int (nI q'), .int (nI k'), .int (nI (dep + 1))] (sv v a b c e f g h) Q)
    {a b c e f g h : Nat → Int32} {Q : Int32 → xV → Prop} (hF : SFits (Gx v lc N) a b c e) (hC : SCells (Gx v lc N) (gA v 23) Qn Lf k f g h) (kk : ∀ a' b' c' e' f' g' h', SPost (Gx v lc N) (gA v 23) Qn Lf k a f g h a' b' c' e' f' g' h' → cellD (Gx v lc N) (gA v 23) Lf f' g' h' q k → Q (eX (vc (UL (Gx v lc N) (Lf q) k))) (sv v a' b' c' e' f' g' h')) : KI E (d + 4) 62 [.ref 49, .int (nI q), .int (nI k), .int (nI dep)] (sv v a b c e f g h) Q := by
  have hG := Gx_ok hX
  obtain ⟨hg, hW, hN, hN2, h51, hlc⟩ := id hX
  obtain ⟨hD, ⟨K1, K2, K3⟩, ⟨Z1, Z2, Z3⟩, hZ, hZ2⟩ := id hM
  obtain ⟨hD1, hD2⟩ := hD
  obtain ⟨hnd, hen, hst⟩ := hD2 q hq
  have hW80 := hW.2.1
  have hcN : cN (Gx v lc N) = N := rfl
  have hi : 25 * q + k < Z := by omega
  have iI : vp_in (nI (25 * q + k)) Z := vp_in_nI hi hZ2
  refine KI.of ok_62 (Nat.le_of_ble_eq_true rfl) (w_X6_search_0 ?_)
  simp (disch := omega) only [forall_eq, pk_mul, nI_add, Nat.mul_comm q 25, sv_gb, sv_gK, sv_gN, sv_gI, K1, K2, K3, Z1, Z2, Z3, hN, ofN, nI_ltI, nI_eq, nI_clamp, iI, true_and, sv_f, sv_g, sv_h, sv_uf, sv_ug, sv_uh, sv_o hg (show 24 < 52 by decide)]
  refine ⟨fun h => by omega, fun _ => ⟨fun h => by omega, fun _ => ⟨fun h => by omega, fun _ => ⟨fun h => by omega, fun _ => ⟨fun _ => ⟨fun h2 => ⟨fun hkN => ?_, fun hkN => ?_⟩, fun h2 => ?_⟩, fun h => absurd hi h⟩⟩⟩⟩⟩
  · have hkN : k < N := by omega
    have hk2 : k < cN (Gx v lc N) := hkN
    -- from the invariant to the end
    have fin : ∀ a' b' c' e' f' g' h', LInv (Gx v lc N) (gA v 23) Qn Lf q k 5 0 a f g h a' b' c' e' f' g' h' → Q (f' (25 * q + k)) (sv v a' b' c' e' f' g' h') := by
      intro a' b' c' e' f' g' h' ⟨⟨i1, i2, i3⟩, i4, i5, i6, i7, i8⟩
      have hU : part (Gx v lc N) (Lf q) k 5 0 = UL (Gx v lc N) (Lf q) k := by
        rw [UL_cls hk2 (fun w hw => (hG w hw).1)]
        exact vadd_n _
      rw [hU] at i5
      have hD : cellD (Gx v lc N) (gA v 23) Lf f' g' h' q k := ⟨i5.e, fun _ => ⟨i5, fun s m q' hs hm e1 e2 e3 => i8 s m q' hs hm (Or.inl hs) e1 e2 e3⟩⟩
      have := kk a' b' c' e' f' g' h' ⟨i1, ?_, i3, fun q' k' hk' => i6 q' k' (by omega) (by omega), i7⟩ hD
      · rw [← i5.e.v] at this
        exact this
      · intro q' k' hq' h1 h3
        by_cases hk' : k' = k
        · subst hk'
          by_cases hqq : q' = q
          · subst hqq
            exact Or.inr hD
          · obtain ⟨o1, o2, o3⟩ := i6 q' k' (Nat.le_refl _) (fun z => hqq z.1)
            rcases hC q' k' hq' (Nat.le_refl _) h3 with e1 | e1
            · exact Or.inl (o1.trans e1)
            · exact Or.inr (e1.tr o1 o2 o3 i7)
        · exact i4 q' k' hq' (by omega) h3
    -- the loops
    have loop : ∀ s, s ≤ 5 → ∀ a' b' c' e' f' g' h', LInv (Gx v lc N) (gA v 23) Qn Lf q k s 0 a f g h a' b' c' e' f' g' h' → RI E (d + 4) 62 142 [(0, .ref 49), (1, .int (nI q)), (2, .int (nI k)), (3, .int (nI dep)), (4, .int (nI (25 * q + k))), (5, .int (nI s))] (sv v a' b' c' e' f' g' h') Q := by
      intro s hs
      refine lp_up (n := 5) (P := fun s => ∀ a' b' c' e' f' g' h', LInv (Gx v lc N) (gA v 23) Qn Lf q k s 0 a f g h a' b' c' e' f' g' h' → RI E (d + 4) 62 142 [(0, .ref 49), (1, .int (nI q)), (2, .int (nI k)), (3, .int (nI dep)), (4, .int (nI (25 * q + k))), (5, .int (nI s))] (sv v a' b' c' e' f' g' h') Q) ?_ ?_ hs
      · intro a' b' c' e' f' g' h' hI
        refine w_X6_search_142 ⟨fun _ => ?_, fun h => absurd (by decide) h⟩
        simp (disch := omega) only [sv_gb, sv_gK, sv_gN, K1, Z1, iI, true_and, sv_f, nI_clamp]
        exact fin a' b' c' e' f' g' h' hI
      · intro s hs5 ih a' b' c' e' f' g' h' hI
        refine w_X6_search_142 ⟨fun h => ?_, fun _ => KI.of ok_34 (Nat.le_of_ble_eq_true rfl) (w_X4_step_0 ?_)⟩
        · exfalso
          rw [nI_leI (by decide) (by omega)] at h
          omega
        simp (disch := omega) only [pk_mul, nI_add, nI_clamp, Nat.mul_comm q 5, sv_o hg (show 23 < 52 by decide), vp_t, true_and]
        rcases hst s hs5 with ⟨es, hde⟩ | ⟨q', hq', es, hpm, hne⟩
        · rw [es]
          refine w_X6_search_163 ⟨fun _ => ?_, fun h => absurd rfl h⟩
          rw [nI_add]
          obtain ⟨i1, i4, i5, i6, i7, i8⟩ := hI
          refine ih a' b' c' e' f' g' h' ⟨i1, i4, ?_, i6, i7, fun s' j q' hs' hj hlt e1 e2 e3 => ?_⟩
          · rw [part_n, part_e _ _ _ _ _ hde]
            exact i5
          · by_cases hss : s' = s
            · subst hss
              rw [es] at e1
              exact absurd e1.symm (m1_ne (by omega))
            · exact i8 s' j q' hs' hj (Or.inl (by omega)) e1 e2 e3
        · rw [es]
          -- the lengths
          have inner : ∀ m, m ≤ 10 → ∀ a' b' c' e' f' g' h', LInv (Gx v lc N) (gA v 23) Qn Lf q k s m a f g h a' b' c' e' f' g' h' → RI E (d + 4) 62 163 [(0, .ref 49), (1, .int (nI q)), (2, .int (nI k)), (3, .int (nI dep)), (4, .int (nI (25 * q + k))), (5, .int (nI s)), (6, .int (nI q')), (7, .int (nI (m + 1)))] (sv v a' b' c' e' f' g' h') Q := by
            intro m hm
            refine lp_up (n := 10) (P := fun m => ∀ a' b' c' e' f' g' h', LInv (Gx v lc N) (gA v 23) Qn Lf q k s m a f g h a' b' c' e' f' g' h' → RI E (d + 4) 62 163 [(0, .ref 49), (1, .int (nI q)), (2, .int (nI k)), (3, .int (nI dep)), (4, .int (nI (25 * q + k))), (5, .int (nI s)), (6, .int (nI q')), (7, .int (nI (m + 1)))] (sv v a' b' c' e' f' g' h') Q) ?_ ?_ hm
            · intro a' b' c' e' f' g' h' hI
              refine w_X6_search_163 ⟨fun h => absurd h (m1_ne (by omega)), fun _ => ⟨fun _ => ?_, fun h => absurd (by decide) h⟩⟩
              rw [nI_add]
              obtain ⟨i1, i4, i5, i6, i7, i8⟩ := hI
              refine ih a' b' c' e' f' g' h' ⟨i1, i4, by rw [part_n]; exact i5, i6, i7, fun s' j q' hs' hj hlt e1 e2 e3 => i8 s' j q' hs' hj (by omega) e1 e2 e3⟩
            · intro m hm10 ih2 a' b' c' e' f' g' h' hI
              refine w_X6_search_163 ⟨fun h => absurd h (m1_ne (by omega)), fun _ => ⟨fun h => ?_, fun _ => ?_⟩⟩
              · exfalso
                rw [nI_ltI (by decide) (by omega)] at h
                omega
              obtain ⟨⟨i1, i2, i3⟩, i4, i5, i6, i7, i8⟩ := id hI
              have ej : k * 50 + s * 10 + (m + 1) - 1 = 50 * k + 10 * s + m := by omega
              simp (disch := omega) only [forall_eq, pk_mul, nI_add, nI_sub, ej, nI_clamp, vp_t, true_and, sv_54 hg]
              -- next length, nothing gained
              have next : ∀ a1 b1 c1 e1 f1 g1 h1, LInv (Gx v lc N) (gA v 23) Qn Lf q k s (m + 1) a f g h a1 b1 c1 e1 f1 g1 h1 → RI E (d + 4) 62 163 [(0, .ref 49), (1, .int (nI q)), (2, .int (nI k)), (3, .int (nI dep)), (4, .int (nI (25 * q + k))), (5, .int (nI s)), (6, .int (nI q')), (7, .int (nI (m + 1 + 1)))] (sv v a1 b1 c1 e1 f1 g1 h1) Q := ih2
              have fit : ∀ a1 b1 c1 e1, SFits (Gx v lc N) a1 b1 c1 e1 → a1 k = nI 1 → fitR 80 b1 c1 e1 (50 * k + 10 * s + m) (FV (Gx v lc N) s (m + 1) k) := by
                intro a1 b1 c1 e1 hs1 hs2
                rcases hs1 k hk2 with z | z
                · rw [hs2] at z
                  exact absurd z nI_01
                · exact z.2 s m hs5 hm10
              have ft := fit a' b' c' e' i1 i2
              match eF : FV (Gx v lc N) s (m + 1) k, ft with
              | none, ft =>
                have ft : c' (50 * k + 10 * s + m) = nI 0 := ft
                rw [ft]
                refine ⟨fun _ => next _ _ _ _ _ _ _ ⟨⟨i1, i2, i3⟩, i4, ?_, i6, i7, fun s' j q1 hs' hj hlt e1 e2 e3 => ?_⟩, fun h => absurd (by decide) h⟩
                · rw [part_s, eF]
                  exact (vadd_n _).symm ▸ i5
                · by_cases hz : s' = s ∧ j = m
                  · obtain ⟨rfl, rfl⟩ := hz
                    exact absurd eF e3
                  · exact i8 s' j q1 hs' hj (by omega) e1 e2 e3
              | some (x, n, p), ft =>
                obtain ⟨hx1, hx2⟩ := FV_some hG eF
                rw [hcN] at hx2
                obtain ⟨r1, r2, r3, r4, r5, r6, r7⟩ := id ft
                rw [r2, nI_leI (by omega) (by decide)]
                refine ⟨fun h => by omega, fun _ => rec s q' (k + (m + 1)) hs5 hq' es hpm hne (by omega) hx2 a' b' c' e' f' g' h' _ i1 ?_ ?_⟩
                · intro q1 k1 hq1 hk1 hk1N
                  exact i4 q1 k1 hq1 (by omega) hk1N
                · intro a1 b1 c1 e1 f1 g1 h1 ⟨p1, p2, p3, p4, p5⟩ hcd
                  -- what holds behind the call
                  have j4 : SCells (Gx v lc N) (gA v 23) Qn Lf (k + 1) f1 g1 h1 := SCells.mix i4 p2 (fun q1 k1 _ hk1 => p4 q1 k1 hk1) p5
                  have oi := p4 q k (by omega)
                  have j5 : cellR f1 g1 h1 (25 * q + k) (part (Gx v lc N) (Lf q) k s m) := i5.eq oi.1 oi.2.1 oi.2.2
                  have j6 : ∀ q1 k1, k1 ≤ k → ¬ (q1 = q ∧ k1 = k) → f1 (25 * q1 + k1) = f (25 * q1 + k1) ∧ g1 (25 * q1 + k1) = g (25 * q1 + k1) ∧ h1 (25 * q1 + k1) = h (25 * q1 + k1) := by
                    intro q1 k1 hk1 hne1
                    obtain ⟨o1, o2, o3⟩ := p4 q1 k1 (by omega)
                    obtain ⟨u1, u2, u3⟩ := i6 q1 k1 hk1 hne1
                    exact ⟨o1.trans u1, o2.trans u2, o3.trans u3⟩
                  have j7 : ∀ i, ¬ f i = -2 → ¬ f1 i = -2 := fun i hi => p5 i (i7 i hi)
                  have j8 : ∀ s' j q1, s' < 5 → j < 10 → (s' < s ∨ (s' = s ∧ j < m + 1)) → gA v 23 (5 * q + s') = nI q1 → q1 < 512 → ¬ FV (Gx v lc N) s' (j + 1) k = none → ¬ f1 (25 * q1 + (k + (j + 1))) = -2 := by
                    intro s' j q1 hs' hj hlt e1 e2 e3
                    by_cases hz : s' = s ∧ j = m
                    · obtain ⟨rfl, rfl⟩ := hz
                      rw [es, nI_eq (by omega) (by omega)] at e1
                      subst e1
                      exact hcd.1.ne
                    · exact p5 _ (i8 s' j q1 hs' hj (by omega) e1 e2 e3)
                  have hUp : UL (Gx v lc N) (Lf q') (k + (m + 1)) = UL (Gx v lc N) (der s (Lf q)) (k + (m + 1)) := UL_perm _ hpm _
                  have hce := hcd.1
                  rw [hUp] at hce ⊢
                  match eU : UL (Gx v lc N) (der s (Lf q)) (k + (m + 1)), hce with
                  | none, hce =>
                    refine ⟨fun _ => next _ _ _ _ _ _ _ ⟨⟨p1, p3 k i2, fun j hj => p3 j (i3 j hj)⟩, j4, ?_, j6, j7, j8⟩, fun h => absurd m1_lt h⟩
                    rw [part_s, eU, vmul_n, vadd_n]
                    exact j5
                  | some (bc, bn, bq), hce =>
                    have hbc := UL_bd hG (N - (k + (m + 1))) (k + (m + 1)) _ bc bn bq (by rw [hcN]; omega) (Or.inr trivial) eU
                    rw [hcN] at hbc
                    refine ⟨fun h => absurd h (nz_lt (by omega)), fun _ => ?_⟩
                    have ft1 := fit a1 b1 c1 e1 p1 (p3 k i2)
                    rw [eF] at ft1
                    have er : q' * 25 + k + (m + 1) = 25 * q' + (k + (m + 1)) := by omega
                    rw [er]
                    refine k_weigh (x := part (Gx v lc N) (Lf q) k s m) hg ⟨K1, K2, K3⟩ ⟨Z1, Z2, Z3⟩ hZ2 hi (by omega) (by omega) (by omega) j5 ft1 hce (by omega) ?_
                    intro f2 g2 h2 w1 w2
                    have mo : ∀ i, ¬ f1 i = -2 → ¬ f2 i = -2 := by
                      intro i hi1
                      by_cases hz : i = 25 * q + k
                      · subst hz
                        exact w1.ne
                      · rw [(w2 i hz).1]
                        exact hi1
                    refine next _ _ _ _ _ _ _ ⟨⟨p1, p3 k i2, fun j hj => p3 j (i3 j hj)⟩, ?_, ?_, ?_, fun i hi => mo i (j7 i hi), fun s' j q1 z1 z2 z3 z4 z5 z6 => mo _ (j8 s' j q1 z1 z2 z3 z4 z5 z6)⟩
                    · intro q1 k1 hq1 hk1 hk1N
                      rw [hcN] at hk1N
                      obtain ⟨o1, o2, o3⟩ := w2 (25 * q1 + k1) (by omega)
                      rcases j4 q1 k1 hq1 hk1 hk1N with z | z
                      · exact Or.inl (o1.trans z)
                      · exact Or.inr (z.tr o1 o2 o3 mo)
                    · rw [part_s, eF, eU]
                      exact w1
                    · intro q1 k1 hk1 hne1
                      obtain ⟨o1, o2, o3⟩ := w2 (25 * q1 + k1) (by omega)
                      obtain ⟨u1, u2, u3⟩ := j6 q1 k1 hk1 hne1
                      exact ⟨o1.trans u1, o2.trans u2, o3.trans u3⟩
          exact inner 0 (by omega) a' b' c' e' f' g' h' hI
    refine k_listFits hX hkN hF (fun a' b' c' e' l1 l2 l3 => ?_)
    have mo0 : ∀ i, ¬ f i = -2 → ¬ upd f (25 * q + k) (-1) i = -2 := by
      intro i hi1
      rw [upd_i]
      split
      · exact m2_ne1
      · exact hi1
    refine loop 0 (by omega) a' b' c' e' _ _ _ ⟨⟨l1, l2, l3⟩, ?_, upd_s _ _ _, ?_, mo0, fun s' j q1 z1 z2 z3 => by omega⟩
    · intro q1 k1 hq1 hk1 hk1N
      rw [hcN] at hk1N
      have hne : 25 * q1 + k1 ≠ 25 * q + k := by omega
      rcases hC q1 k1 hq1 (by omega) hk1N with z | z
      · exact Or.inl ((upd_n _ _ hne).trans z)
      · exact Or.inr (z.tr (upd_n _ _ hne) (upd_n _ _ hne) (upd_n _ _ hne) mo0)
    · intro q1 k1 hk1 hne1
      have hne : 25 * q1 + k1 ≠ 25 * q + k := by omega
      exact ⟨upd_n _ _ hne, upd_n _ _ hne, upd_n _ _ hne⟩
  · obtain rfl : k = N := hkN
    have hq512 : q < 512 := by omega
    have endk : ∀ f' g' h', f' (25 * q + k) = (if [] ∈ Lf q then nI 0 else -1) → g' (25 * q + k) = nI 1 → (∀ r, r ≠ 25 * q + k → f' r = f r ∧ g' r = g r ∧ h' r = h r) → Q (f' (25 * q + k)) (sv v a b c e f' g' h') := by
      intro f' g' h' e1 e2 ho
      have hU : UL (Gx v lc k) (Lf q) k = if [] ∈ Lf q then some (0, 1, 0) else none := UL_end (G := Gx v lc k) hnd
      have hE : cellE f' g' (25 * q + k) (UL (Gx v lc k) (Lf q) k) := by
        rw [hU]
        split
        · rename_i hm
          rw [if_pos hm] at e1
          exact ⟨e1, e2, by omega⟩
        · rename_i hm
          rw [if_neg hm] at e1
          exact e1
      have mo : ∀ i, ¬ f i = -2 → ¬ f' i = -2 := by
        intro i hi1
        by_cases hz : i = 25 * q + k
        · subst hz
          exact hE.ne
        · rw [(ho i hz).1]
          exact hi1
      have hD : cellD (Gx v lc k) (gA v 23) Lf f' g' h' q k := ⟨hE, fun hlt => absurd hlt (Nat.lt_irrefl _)⟩
      have := kk a b c e f' g' h' ⟨hF, ?_, fun _ hj => hj, fun q1 k1 hk1 => ho _ (by omega), mo⟩ hD
      · rw [← hE.v] at this
        exact this
      · intro q1 k1 hq1 hk1 hk1N
        rw [hcN] at hk1N
        obtain rfl : k1 = k := by omega
        by_cases hqq : q1 = q
        · subst hqq
          exact Or.inr hD
        · obtain ⟨o1, o2, o3⟩ := ho (25 * q1 + k1) (by omega)
          rcases hC q1 k1 hq1 (Nat.le_refl _) (Nat.le_refl _) with z | z
          · exact Or.inl (o1.trans z)
          · exact Or.inr (z.tr o1 o2 o3 mo)
    refine ⟨vp_in_nI hq512 (by decide), ?_⟩
    rw [hen]
    refine bbc (fun hb => ?_) (fun hb => ?_)
    · rw [decide_eq_false_iff_not] at hb
      refine endk _ _ _ ?_ (upd_s _ _ _) (fun r hr => ⟨?_, ?_, upd_n _ _ hr⟩)
      · rw [if_neg hb, upd_s]
      · rw [upd_n _ _ hr, upd_n _ _ hr]
      · rw [upd_n _ _ hr, upd_n _ _ hr]
    · rw [decide_eq_true_eq] at hb
      refine endk _ _ _ ?_ (upd_s _ _ _) (fun r hr => ⟨?_, ?_, upd_n _ _ hr⟩)
      · rw [if_pos hb, upd_s]
      · rw [upd_n _ _ hr, upd_n _ _ hr]
      · rw [upd_n _ _ hr, upd_n _ _ hr]
  · rcases hC q k hq (Nat.le_refl _) hk with z | z
    · exact absurd z h2
    · have := kk a b c e f g h ⟨hF, hC, fun _ hj => hj, fun _ _ _ => ⟨rfl, rfl, rfl⟩, fun _ hi1 => hi1⟩ z
      rw [← z.1.v] at this
      exact this
theorem k_search {E : Nat × (Nat → Int32)} {d : Nat} {N W Qn Z : Nat} {v : xV} {lc : Nat → Nat → Option Nat} {Lf : Nat → List (List Nat)} (hX : SearchX v lc N W) (hM : MachX v Qn Lf Z) : ∀ m dep q k, dep + m = 6 → q < Qn → k ≤ N → (∀ t, t ∈ Lf q → t.length ≤ m) → ∀ (a b c e f g h : Nat → Int32) (Q : Int32 → xV → Prop), SFits (Gx v lc N) a b c e → SCells (Gx v lc N) (gA v 23) Qn Lf k f g h → (∀ a' b' c' e' f' g' h', SPost (Gx v lc N) (gA v 23) Qn Lf k a f g h a' b' c' e' f' g' h' → cellD (Gx v lc N) (gA v 23) Lf f' g' h' q k → Q (eX (vc (UL (Gx v lc N) (Lf q) k))) (sv v a' b' c' e' f' g' h')) → KI E (d + m + 4) 62 [.ref 49, .int (nI q), .int (nI k), .int (nI dep)] (sv v a b c e f g h) Q := by
  intro m
  induction m with
  | zero =>
    intro dep q k hdm hq hk ht a b c e f g h Q hF hC kk
    refine k_searchB (d := d + 0) hX hM (by omega) hq hk ?_ hF hC kk
    intro s q' k' hs hq' es hpm hne
    exfalso
    cases hL : der s (Lf q) with
    | nil => exact hne hL
    | cons t L =>
      have : s :: t ∈ Lf q := der_m.mp (by rw [hL]; exact List.mem_cons_self ..)
      have := ht _ this
      rw [List.length_cons] at this
      omega
  | succ m ih =>
    intro dep q k hdm hq hk ht a b c e f g h Q hF hC kk
    refine k_searchB (d := d + (m + 1)) hX hM (by omega) hq hk ?_ hF hC kk
    intro s q' k' hs hq' es hpm hne hlt hN' a' b' c' e' f' g' h' Q' hF' hC' kk'
    refine ih (dep + 1) q' k' (by omega) hq' hN' (fun t htm => ?_) a' b' c' e' f' g' h' Q' hF' hC' kk'
    have : s :: t ∈ Lf q := der_m.mp (hpm.mem_iff.mp htm)
    have := ht _ this
    rw [List.length_cons] at this
    omega

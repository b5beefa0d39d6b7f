/-! the machine built, the class -/
def MaF (v w : xV) : Prop := w.2.1 = v.2.1 ∧ w.2.2.2.2 = v.2.2.2.2 ∧ (∀ a b, ¬ (a = 21 ∧ (b = 3 ∨ b = 4)) → gI w a b = gI v a b) ∧ (∀ j, j ≠ 23 → j ≠ 24 → gA w j = gA v j) ∧ ∀ j, j ≠ 22 → gB w j = gB v j
theorem MaF.refl (v : xV) : MaF v v := ⟨rfl, rfl, fun _ _ _ => rfl, fun _ _ _ => rfl, fun _ _ => rfl⟩
theorem MaF.trans {u v w : xV} (h : MaF u v) (h' : MaF v w) : MaF u w := ⟨h'.1.trans h.1, h'.2.1.trans h.2.1, fun a b hn => (h'.2.2.1 a b hn).trans (h.2.2.1 a b hn), fun j h1 h2 => (h'.2.2.2.1 j h1 h2).trans (h.2.2.2.1 j h1 h2), fun j h1 => (h'.2.2.2.2 j h1).trans (h.2.2.2.2 j h1)⟩
theorem MaF.vI (v : xV) {k : Nat} (x : Int32) (hk : k = 3 ∨ k = 4) : MaF v (v_I v 21 k x) := by
  refine ⟨rfl, rfl, fun a b h => ?_, fun _ _ _ => rfl, fun _ _ => rfl⟩
  rw [gI_I]
  by_cases e : a = 21
  · rw [if_pos e, if_neg (fun q => h ⟨e, by omega⟩)]
  · rw [if_neg e]
theorem MaF.vA (v : xV) {j : Nat} (f : Nat → Int32) (hj : j = 23 ∨ j = 24) : MaF v (v_A v j f) := ⟨rfl, rfl, fun _ _ _ => rfl, fun i h1 h2 => by rw [gA_A, if_neg (by omega)], fun _ _ => rfl⟩
theorem MaF.vB (v : xV) (f : Nat → Int64) : MaF v (v_B v 22 f) := ⟨rfl, rfl, fun _ _ _ => rfl, fun _ _ _ => rfl, fun i h1 => by rw [gB_B, if_neg h1]⟩
theorem TxX.ma {v w : xV} {dn : Pats} (h : TxX v dn) (hF : MaF v w) : TxX w dn := by
  obtain ⟨-, -, f1, f2, -⟩ := hF
  unfold TxX RpD RpX
  rw [f1 17 4 (by decide), f2 18 (by decide) (by decide), f2 19 (by decide) (by decide), f2 20 (by decide) (by decide)]
  exact h
def EnS (dn : Pats) (x : Int32) (u : List Nat) : Prop := ∃ b : Bool, x = bB b ∧ (b = true ↔ enP dn u)
def MI (dn : Pats) (w : xV) (m : Nat) (pw : Nat → List Nat) : Prop := (gI w 21 3 = nI m ∧ 1 ≤ m ∧ m ≤ 512) ∧ gI w 21 4 = nI dn.length ∧ pw 0 = [] ∧ (∀ q, q < m → StS (gB w 22 q) (rnS dn (pw q)) ∧ EnS dn (gA w 24 q) (pw q)) ∧ (∀ q q', q < m → q' < m → pw q = pw q' → q = q') ∧ ∀ q, 1 ≤ q → q < m → ∃ p j, rnS dn (pw q) p j
def pwU (pw : Nat → List Nat) (m : Nat) (u : List Nat) (q : Nat) : List Nat := if q = m then u else pw q
theorem pwU_n {pw : Nat → List Nat} {m : Nat} {u : List Nat} {q : Nat} (h : q < m) : pwU pw m u q = pw q := if_neg (by omega)
theorem k_stateOf {E : Nat × (Nat → Int32)} {d : Nat} {w : xV} {dn : Pats} {u : List Nat} {x : Int64} {m nx D : Nat} {pw : Nat → List Nat} {Q : Int32 → xV → Prop} (hT : TxX w dn) (hM : MI dn w m pw) (hx : StS x (rnS dn u)) (hu : u.length = D + 1) (hnx : nx ≤ m) (h1 : ∀ q, q < nx → (pw q).length ≤ D) (hnx1 : 1 ≤ nx)
    (k0 : (∀ p j, ¬ rnS dn u p j) → Q (-1) w)
    (k1 : ∀ q', q' < m → (∀ p j, rnS dn (pw q') p j ↔ rnS dn u p j) → (∃ p j, rnS dn u p j) → Q (nI q') w)
    (k2 : ∀ w', MaF w w' → gA w' 23 = gA w 23 → MI dn w' (m + 1) (pwU pw m u) → (∃ p j, rnS dn u p j) → Q (nI m) w') : KI E (d + 2) 35 [.ref 21, .ref 17, .long x, .int (nI nx)] w Q := by
  obtain ⟨⟨m1, m2, m3⟩, m4, m5, m6, m7, m8⟩ := id hM
  refine KI.of ok_35 (Nat.le_of_ble_eq_true rfl) (w_X4_stateOf_0 ?_)
  rw [y_cmp, hx.eq0 (rnS_ok hT u)]
  refine ⟨fun hne => ?_, k0⟩
  have hex : ∃ p j, rnS dn u p j := Classical.byContradiction (fun h => hne (fun p j hp => h ⟨p, j, hp⟩))
  refine lp_up (n := m) (P := fun q => (∀ q', nx ≤ q' → q' < q → ¬ gB w 22 q' = x) → RI E (d + 2) 35 12 [(0, .ref 21), (1, .ref 17), (2, .long x), (5, .int (nI q))] w Q) (fun hno => w_X4_stateOf_12 ?_) (fun q hq ih hno => w_X4_stateOf_12 ?_) hnx (fun q' h1 h2 => by omega)
  · rw [m1]
    refine ⟨fun _ => ?_, fun z => absurd (nI_le (Nat.le_refl _) (by omega)) z⟩
    have hnu : ∀ q, q < m → pw q ≠ u := by
      intro q hq e
      by_cases hqx : q < nx
      · have := h1 q hqx
        rw [e, hu] at this
        omega
      · refine hno q (by omega) hq ((m6 q hq).1.ext hx (fun p j => by rw [e]))
    have hm512 := few hT.1.1 (fun l hl => (hT.2 l hl).1) m5 m7 m8 hex hnu
    refine k_addState hT m4 hx m1 hm512 (fun b hb => k2 _ (((MaF.vB w _).trans (MaF.vA _ _ (Or.inr rfl))).trans (MaF.vI _ _ (Or.inl rfl))) rfl ⟨⟨rfl, by omega, by omega⟩, m4, ?_, fun q hq => ?_, fun q q' hq hq' e => ?_, fun q h1 hq => ?_⟩ hex)
    · rw [pwU_n (by omega)]
      exact m5
    · show StS (vp_updL (gB w 22) m x q) (rnS dn (pwU pw m u q)) ∧ EnS dn (upd (gA w 24) m (bB b) q) (pwU pw m u q)
      by_cases e : q = m
      · subst e
        rw [pk_uLs, upd_s, show pwU pw q u q = u from if_pos rfl]
        exact ⟨hx, b, rfl, hb⟩
      · rw [pk_uLn e, upd_n _ _ e, pwU_n (by omega)]
        exact m6 q (by omega)
    · by_cases e1 : q = m
      · by_cases e2 : q' = m
        · omega
        · rw [show pwU pw m u q = u from if_pos e1, pwU_n (by omega)] at e
          exact absurd e.symm (hnu q' (by omega))
      · by_cases e2 : q' = m
        · rw [show pwU pw m u q' = u from if_pos e2, pwU_n (by omega)] at e
          exact absurd e (hnu q (by omega))
        · rw [pwU_n (by omega), pwU_n (by omega)] at e
          exact m7 q q' (by omega) (by omega) e
    · by_cases e1 : q = m
      · rw [show pwU pw m u q = u from if_pos e1]
        exact hex
      · rw [pwU_n (by omega)]
        exact m8 q h1 (by omega)
  · rw [m1, nI_leI (by omega) (by omega), nI_clamp (by omega), y_cmp, nI_add]
    refine ⟨fun z => by omega, fun _ => ⟨vp_in_nI (by omega) (by decide), fun z => ih (fun q' h1 h2 => ?_), fun z => k1 q hq (fun p j => ?_) hex⟩⟩
    · by_cases e : q' = q
      · rw [e]
        exact z
      · exact hno q' h1 (by omega)
    · have hq1 := (m6 q hq).1
      rw [z] at hq1
      have o1 := rnS_ok hT (pw q)
      have o2 := rnS_ok hT u
      constructor
      · intro h
        have hb := o1 p j h
        exact (hx.at o2 hb.1 hb.2).mp ((hq1.at o1 hb.1 hb.2).mpr h)
      · intro h
        have hb := o2 p j h
        exact (hq1.at o1 hb.1 hb.2).mp ((hx.at o2 hb.1 hb.2).mpr h)
def SD (dn : Pats) (g : Nat → Int32) (m : Nat) (pw : Nat → List Nat) (q s : Nat) : Prop := (g (5 * q + s) = -1 ∧ ∀ p j, ¬ rnS dn (s :: pw q) p j) ∨ ∃ q', q' < m ∧ g (5 * q + s) = nI q' ∧ (∀ p j, rnS dn (pw q') p j ↔ rnS dn (s :: pw q) p j) ∧ ∃ p j, rnS dn (s :: pw q) p j
theorem SD.up {dn : Pats} {g g' : Nat → Int32} {m : Nat} {pw : Nat → List Nat} {q s : Nat} {u : List Nat} (h : SD dn g m pw q s) (hq : q < m) (hg : g' (5 * q + s) = g (5 * q + s)) : SD dn g' (m + 1) (pwU pw m u) q s := by
  unfold SD
  rw [pwU_n hq, hg]
  rcases h with h | ⟨q', h1, h2, h3, h4⟩
  · exact Or.inl h
  · exact Or.inr ⟨q', by omega, h2, by rw [pwU_n h1]; exact h3, h4⟩
theorem SD.eq {dn : Pats} {g g' : Nat → Int32} {m : Nat} {pw : Nat → List Nat} {q s : Nat} (h : SD dn g m pw q s) (hg : g' (5 * q + s) = g (5 * q + s)) : SD dn g' m pw q s := by
  unfold SD
  rw [hg]
  exact h
theorem k_build {E : Nat × (Nat → Int32)} {d : Nat} {v : xV} {dn : Pats} {Q : xV → Prop} (hT : TxX v dn) (kk : ∀ w m pw, MaF v w → MI dn w m pw → (∀ q s, q < m → s < 5 → SD dn (gA w 23) m pw q s) → Q w) : KV E (d + 3) 33 [.ref 21, .ref 17] v Q := by
  have h8 := hT.1.1
  have h6 : ∀ l, l ∈ dn → l.length ≤ 6 := fun l hl => (hT.2 l hl).1
  refine KV.of ok_33 (Nat.le_of_ble_eq_true rfl) (w_X4_build_0 ?_)
  rw [hT.1.2.1]
  have hF1 : MaF v (v_I v 21 4 (nI dn.length)) := MaF.vI v _ (Or.inr rfl)
  have g4 : gI (v_I v 21 4 (nI dn.length)) 21 4 = nI dn.length := rfl
  have hT1 := hT.ma hF1
  generalize v_I v 21 4 (nI dn.length) = v1 at *
  have depth : ∀ w, MaF v w → MI dn w 1 (fun _ => []) → RV E (d + 3) 33 56 [(0, .ref 21), (1, .ref 17), (4, .int (nI 0)), (5, .int (nI 0))] w Q := by
    intro w hFw hMw
    refine lp_up (n := 7) (P := fun D => ∀ w lv m pw, MaF v w → MI dn w m pw → lv ≤ m → (∀ q, q < m → (pw q).length ≤ D) → (∀ q, lv ≤ q → q < m → (pw q).length = D) → (∀ q s, q < lv → s < 5 → SD dn (gA w 23) m pw q s) → RV E (d + 3) 33 56 [(0, .ref 21), (1, .ref 17), (4, .int (nI lv)), (5, .int (nI D))] w Q) (fun w lv m pw hF hM hl hle heq hS => w_X4_build_56 ⟨fun _ => kk w m pw hF hM (fun q s hq hs => ?_), fun z => absurd (by decide) z⟩) (fun D hD ih w lv m pw hF hM hl hle heq hS => w_X4_build_56 ?_) (Nat.zero_le _) w 0 1 (fun _ => []) hFw hMw (by decide) (fun q _ => Nat.le_refl _) (fun q _ _ => rfl) (fun q s h => absurd h (Nat.not_lt_zero _))
    · by_cases hq2 : q < lv
      · exact hS q s hq2 hs
      · exfalso
        have h7 := heq q (by omega) hq
        have hq0 : 1 ≤ q := Nat.pos_of_ne_zero (fun e => by
          rw [e, hM.2.2.1] at h7
          exact absurd h7 (by decide))
        obtain ⟨p, j, l, e, hr⟩ := hM.2.2.2.2.2 q hq0 hq
        have := rn_le _ _ hr
        have := h6 l (List.mem_of_getElem? e)
        omega
    · rw [nI_ltI (by decide) (by omega)]
      refine ⟨fun z => by omega, fun _ y1 hy1 => ?_⟩
      rw [hM.1.1] at hy1
      subst hy1
      have hm512 := hM.1.2.2
      have hm1 := hM.1.2.1
      refine lp_up (n := m) (P := fun q => lv ≤ q → ∀ w' m' pw', MaF v w' → MI dn w' m' pw' → m ≤ m' → (∀ q, q < m → (pw' q).length ≤ D) → (∀ q, m ≤ q → q < m' → (pw' q).length = D + 1) → (∀ q, lv ≤ q → q < m → (pw' q).length = D) → (∀ q' s, q' < q → s < 5 → SD dn (gA w' 23) m' pw' q' s) → RV E (d + 3) 33 73 [(0, .ref 21), (1, .ref 17), (5, .int (nI D)), (6, .int (nI m)), (7, .int (nI q))] w' Q) (fun hqlv w' m' pw' hF' hM' hmm hle' hnew hold hS' => w_X4_build_73 ⟨fun _ => ?_, fun z => absurd (nI_le (Nat.le_refl _) (by omega)) z⟩) (fun q hq ihq hqlv w' m' pw' hF' hM' hmm hle' hnew hold hS' => w_X4_build_73 ?_) hl (Nat.le_refl _) w m pw hF hM (Nat.le_refl _) hle (fun q h1 h2 => by omega) heq hS
      · rw [nI_add]
        refine ih w' m m' pw' hF' hM' hmm (fun q hq => ?_) hnew hS'
        by_cases h : q < m
        · have := hle' q h
          omega
        · have := hnew q (by omega) hq
          omega
      · rw [nI_leI (by omega) (by omega)]
        refine ⟨fun z => by omega, fun _ => ?_⟩
        · refine lp_up (n := 5) (P := fun s => ∀ w' m' pw', MaF v w' → MI dn w' m' pw' → m ≤ m' → (∀ q, q < m → (pw' q).length ≤ D) → (∀ q, m ≤ q → q < m' → (pw' q).length = D + 1) → (∀ q, lv ≤ q → q < m → (pw' q).length = D) → (∀ q' s, q' < q → s < 5 → SD dn (gA w' 23) m' pw' q' s) → (∀ s', s' < s → SD dn (gA w' 23) m' pw' q s') → RV E (d + 3) 33 83 [(0, .ref 21), (1, .ref 17), (5, .int (nI D)), (6, .int (nI m)), (7, .int (nI q)), (8, .int (nI s))] w' Q) (fun w' m' pw' hF' hM' hmm hle' hnew hold hS' hs' => w_X4_build_83 ⟨fun _ => ?_, fun z => absurd (by decide) z⟩) (fun s hs ihs w' m' pw' hF' hM' hmm hle' hnew hold hS' hs' => w_X4_build_83 ?_) (Nat.zero_le _) w' m' pw' hF' hM' hmm hle' hnew hold hS' (fun s' h => absurd h (Nat.not_lt_zero _))
          · rw [nI_add]
            refine ihq (by omega) w' m' pw' hF' hM' hmm hle' hnew hold (fun q' s hq' hs => ?_)
            by_cases e : q' = q
            · rw [e]
              exact hs' s hs
            · exact hS' q' s (by omega) hs
          · have hT' := hT.ma hF'
            obtain ⟨⟨m1, m2, m3⟩, m4, m5, m6, m7, m8⟩ := id hM'
            have hlq := hold q (by omega) hq
            have hidx : (nI (q * 5 + s)).toNatClampNeg = 5 * q + s := by
              rw [nI_clamp (by omega)]
              omega
            have hvp : vp_in (nI (q * 5 + s)) 2560 := vp_in_nI (by omega) (by decide)
            simp only [pk_mul, nI_add]
            rw [nI_leI (by decide) (by omega), hidx, nI_clamp (by omega)]
            refine ⟨fun z => by omega, fun _ => ⟨vp_in_nI (by omega) (by decide), k_moved hT' m4 hs (m6 q (by omega)).1 (fun y hy => ?_)⟩⟩
            have oth : ∀ (g : Nat → Int32) (z : Int32) (q' s' : Nat), s' < 5 → (q' ≠ q ∨ s' ≠ s) → upd g (5 * q + s) z (5 * q' + s') = g (5 * q' + s') := fun g z q' s' h1 h2 => upd_n _ _ (by omega)
            refine k_stateOf hT' hM' hy (by rw [List.length_cons, hlq]) hmm hle' hm1 (fun hno => ⟨hvp, ihs (v_A w' 23 (upd (gA w' 23) (5 * q + s) (-1))) m' pw' (hF'.trans (MaF.vA w' _ (Or.inl rfl))) hM' hmm hle' hnew hold (fun q' s' h1 h2 => (hS' q' s' h1 h2).eq (oth _ _ q' s' h2 (by omega))) (fun s' h1 => ?_)⟩) (fun q2 hq2 hiff hex => ⟨hvp, ihs (v_A w' 23 (upd (gA w' 23) (5 * q + s) (nI q2))) m' pw' (hF'.trans (MaF.vA w' _ (Or.inl rfl))) hM' hmm hle' hnew hold (fun q' s' h1 h2 => (hS' q' s' h1 h2).eq (oth _ _ q' s' h2 (by omega))) (fun s' h1 => ?_)⟩) (fun w2 hF2 h23 hM2 hex => ⟨hvp, ihs (v_A w2 23 (upd (gA w2 23) (5 * q + s) (nI m'))) (m' + 1) (pwU pw' m' (s :: pw' q)) ((hF'.trans hF2).trans (MaF.vA w2 _ (Or.inl rfl))) hM2 (by omega) (fun q' h => ?_) (fun q' h1 h2 => ?_) (fun q' h1 h2 => ?_) (fun q' s' h1 h2 => ?_) (fun s' h1 => ?_)⟩)
            · by_cases e : s' = s
              · subst e
                exact Or.inl ⟨upd_s _ _ _, hno⟩
              · exact (hs' s' (by omega)).eq (oth _ _ q s' (by omega) (Or.inr e))
            · by_cases e : s' = s
              · subst e
                exact Or.inr ⟨q2, hq2, upd_s _ _ _, hiff, hex⟩
              · exact (hs' s' (by omega)).eq (oth _ _ q s' (by omega) (Or.inr e))
            · rw [pwU_n (by omega)]
              exact hle' q' h
            · by_cases e : q' = m'
              · rw [show pwU pw' m' (s :: pw' q) q' = s :: pw' q from if_pos e, List.length_cons, hlq]
              · rw [pwU_n (by omega)]
                exact hnew q' h1 (by omega)
            · rw [pwU_n (by omega)]
              exact hold q' h1 h2
            · refine (hS' q' s' h1 h2).up (by omega) ?_
              show upd (gA w2 23) (5 * q + s) _ (5 * q' + s') = _
              rw [oth _ _ q' s' h2 (by omega), h23]
            · by_cases e : s' = s
              · subst e
                refine Or.inr ⟨m', by omega, upd_s _ _ _, fun p j => ?_, ?_⟩
                · rw [show pwU pw' m' (s' :: pw' q) m' = s' :: pw' q from if_pos rfl, pwU_n (show q < m' by omega)]
                · rw [pwU_n (show q < m' by omega)]
                  exact hex
              · refine (hs' s' (by omega)).up (by omega) ?_
                show upd (gA w2 23) (5 * q + s) _ (5 * q + s') = _
                rw [oth _ _ q s' (by omega) (Or.inr e), h23]
  refine lp_up (n := dn.length) (P := fun p => ∀ a, StS a (fun p' j => p' < p ∧ rnS dn [] p' j) → RV E (d + 3) 33 13 [(0, .ref 21), (1, .ref 17), (2, .long a), (4, .int (nI p))] v1 Q) (fun a ha => w_X4_build_13 ?_) (fun p hp ih a ha => w_X4_build_13 ?_) (Nat.zero_le _) _ (StS.zero.cong (fun p' j => ⟨fun h => h.elim, fun h => absurd h.1 (Nat.not_lt_zero _)⟩))
  · rw [g4]
    refine ⟨fun _ => ?_, fun z => absurd (nI_le (Nat.le_refl _) (by omega)) z⟩
    have ha2 : StS a (rnS dn []) := ha.cong (fun p' j => ⟨fun h => h.2, fun h => ⟨(by obtain ⟨l, e, _⟩ := h; exact (List.getElem?_eq_some_iff.mp e).1), h⟩⟩)
    have hF2 : MaF v1 (v_I v1 21 3 (nI 0)) := MaF.vI v1 _ (Or.inl rfl)
    refine k_addState (d := d + 1) (hT1.ma hF2) g4 ha2 rfl (by decide) (fun b hb => depth _ (((hF1.trans hF2).trans ((MaF.vB _ _).trans (MaF.vA _ _ (Or.inr rfl)))).trans (MaF.vI _ _ (Or.inl rfl))) ⟨⟨rfl, by decide, by decide⟩, g4, rfl, fun q hq => ?_, fun q q' hq hq' _ => by omega, fun q h1 h2 => by omega⟩)
    obtain rfl : q = 0 := by omega
    refine ⟨?_, b, ?_, hb⟩
    · show StS (vp_updL (gB v1 22) 0 a 0) _
      rw [pk_uLs]
      exact ha2
    · show upd (gA v1 24) 0 (bB b) 0 = _
      exact upd_s _ _ _
  · obtain ⟨l, el⟩ : ∃ l, dn[p]? = some l := ⟨_, List.getElem?_eq_getElem hp⟩
    rw [g4, nI_leI (by omega) (by omega), nI_add]
    refine ⟨fun z => by omega, fun _ => k_from (d := d + 1) hT1 el (Nat.zero_le _) (fun y hy y5 hy5 => ?_)⟩
    subst hy5
    refine ih _ ((ha.or hy).cong (fun p' j => ⟨?_, ?_⟩))
    · rintro (⟨h1, h2⟩ | ⟨h1, h2⟩)
      · exact ⟨by omega, h2⟩
      · exact ⟨by omega, l, by rw [h1]; exact el, h2⟩
    · rintro ⟨h1, l', e', h3⟩
      by_cases q : p' = p
      · subst q
        rw [el] at e'
        cases e'
        exact Or.inr ⟨rfl, h3⟩
      · exact Or.inl ⟨by omega, l', e', h3⟩

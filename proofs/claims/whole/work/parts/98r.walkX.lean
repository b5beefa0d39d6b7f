/-! the class: the least way -/
theorem clr : ∀ S, S < 256 → ∀ z, z < 8 → S.testBit z = true → (nI S &&& (nI (2 ^ z) ^^^ (-1 : Int32))) = nI (S ^^^ 2 ^ z) ∧ S ^^^ 2 ^ z < S := by decide +kernel
theorem clr_b (S z i : Nat) (h : S.testBit z = true) : (S ^^^ 2 ^ z).testBit i = true ↔ S.testBit i = true ∧ i ≠ z := by
  rw [Nat.testBit_xor, Nat.testBit_two_pow]
  by_cases e : z = i
  · subst e
    rw [h, decide_eq_true rfl]
    exact ⟨fun q => absurd q (by decide), fun q => absurd rfl q.2⟩
  · rw [decide_eq_false e, Bool.xor_false]
    exact ⟨fun q => ⟨q, fun r => e r.symm⟩, fun q => q.1⟩
theorem b_lt {S n i : Nat} (hS : S < 2 ^ n) (h : S.testBit i = true) : i < n := by
  rcases Nat.lt_or_ge i n with q | q
  · exact q
  · rw [Nat.testBit_lt_two_pow (Nat.lt_of_lt_of_le hS (Nat.pow_le_pow_right (by decide) q))] at h
    exact absurd h (by decide)
theorem edge_s (A B L : Nat → Int32) (n : Nat) : ∀ i j e, edge A B L n i j e → edge A B L n j i e := fun i j e ⟨h1, k, h2, h3, h4⟩ => ⟨⟨h1.2.1, h1.1, h1.2.2⟩, k, h2, h3.symm, h4⟩
theorem edge_e (A B L : Nat → Int32) (n : Nat) : ∀ i j e, edge A B L n i j e → j < 12 ∧ e ≤ 99 := fun i j e h => ⟨h.1.2.1, h.1.2.2⟩
theorem k_wallsOf {E : Nat × (Nat → Int32)} {d : Nat} {S : xV} {l : List Nat} {q : Nat → Nat} {p : Nat} {wl : Nat → Nat} {Q : Int32 → xV → Prop} (hl : l.length ≤ 10) (hlK : ∀ x, x ∈ l → x < 20) (hp : p < 2 ^ 31) (hqb : ∀ i, i < l.length → q i < 2 ^ 31) (h8 : gI S 74 8 = nI l.length) (hm : ∀ i x, l[i]? = some x → gA S 76 i = nI x) (hq : ∀ i, i < l.length → gA S 78 i = nI (q i)) (hw : ∀ x, x < 20 → gA S 26 x = nI (wl x) ∧ wl x < 8) (kk : ∀ a, a < 2 ^ 8 → (∀ w, a.testBit w = true ↔ ∃ j x, l[j]? = some x ∧ q j = p ∧ wl x = w) → Q (nI a) S) : KI E d 23 [.ref 74, .int (nI p)] S Q := by
  refine KI.of ok_23 (Nat.le_of_ble_eq_true rfl) (w_X2_wallsOf_0 ?_)
  refine lp_up (n := l.length) (P := fun i => ∀ a, a < 2 ^ 8 → (∀ w, a.testBit w = true ↔ ∃ j x, j < i ∧ l[j]? = some x ∧ q j = p ∧ wl x = w) → RI E d 23 4 [(0, .ref 74), (1, .int (nI p)), (2, .int (nI a)), (3, .int (nI i))] S Q) (fun a ha h => w_X2_wallsOf_4 ?_) (fun i hi ih a ha h => w_X2_wallsOf_4 ?_) (Nat.zero_le _) 0 (by decide) (fun w => by
    rw [Nat.zero_testBit]
    exact ⟨fun z => absurd z (by decide), fun ⟨j, x, hj, _⟩ => absurd hj (Nat.not_lt_zero _)⟩)
  · rw [h8]
    refine ⟨fun _ => kk a ha (fun w => ?_), fun z => absurd (nI_le (Nat.le_refl _) (by omega)) z⟩
    rw [h w]
    exact ⟨fun ⟨j, x, _, r⟩ => ⟨j, x, r⟩, fun ⟨j, x, e, r⟩ => ⟨j, x, (List.getElem?_eq_some_iff.mp e).1, e, r⟩⟩
  · have ei : l[i]? = some l[i] := List.getElem?_eq_getElem hi
    have hx := hlK _ (List.getElem_mem hi)
    have hwx := hw _ hx
    rw [h8, nI_leI (by omega) (by omega), nI_clamp (by omega), hm i _ ei, hq i hi, nI_inj (hqb i hi) hp, nI_add, nI_clamp (by omega), hwx.1, n_s1 (by omega), n_or]
    refine ⟨fun z => by omega, fun _ => ⟨vp_in_nI (by omega) (by decide), fun z => ih a ha (fun w => ?_), fun z => ⟨vp_in_nI (by omega) (by decide), vp_in_nI (by omega) (by decide), fun y hy => ?_⟩⟩⟩
    · rw [h w]
      constructor
      · exact fun ⟨j, x, hj, r⟩ => ⟨j, x, by omega, r⟩
      · rintro ⟨j, x, hj, e, r⟩
        by_cases e2 : j = i
        · exact absurd (e2 ▸ r.1) z
        · exact ⟨j, x, by omega, e, r⟩
    · subst hy
      refine ih _ (n_lt_or ha hwx.2) (fun w => ?_)
      rw [n_or_b, Bool.or_eq_true, h w, decide_eq_true_eq]
      constructor
      · rintro (⟨j, x, hj, r⟩ | e)
        · exact ⟨j, x, by omega, r⟩
        · exact ⟨i, _, by omega, ei, z, e⟩
      · rintro ⟨j, x, hj, e, r1, r2⟩
        by_cases e2 : j = i
        · subst e2
          rw [ei] at e
          cases e
          exact Or.inr r2
        · exact Or.inl ⟨j, x, by omega, e, r1, r2⟩
def sg (u : xV) (f : Nat → Int32) (n : Nat) : xV := v_A (v_I u 11 5 (nI n)) 15 f
theorem sg_s (u : xV) (f f' : Nat → Int32) (n n' : Nat) : v_I (v_A (sg u f n) 15 f') 11 5 (nI n') = sg u f' n' := by
  unfold sg
  rw [vA_s, vIA, vI_s]
theorem k_gatherStops {E : Nat × (Nat → Int32)} {d : Nat} {u : xV} {W b : Nat} {co : Nat → Nat} {Q : xV → Prop} (hW : gI u 11 7 = nI W) (hW8 : W ≤ 8) (hb : b < 2 ^ 8) (hco : ∀ w, gA u 13 w = nI (co w) ∧ co w < 12) (kk : ∀ (f : Nat → Int32) (n : Nat) (cf : Nat → Nat), n ≤ W → (∀ i, i < n → f i = nI (cf i)) → (∀ i, cf i < 12) → (∀ x, (∃ i, i < n ∧ cf i = x) ↔ ∃ w, w < W ∧ b.testBit w = true ∧ co w = x) → Q (sg u f n)) : KV E d 86 [.ref 11, .int (nI b)] u Q := by
  refine KV.of ok_86 (Nat.le_of_ble_eq_true rfl) (w_X9_gatherStops_0 ?_)
  have e0 : v_I u 11 5 (nI 0) = sg u (gA u 15) 0 := by
    unfold sg
    rw [show gA u 15 = gA (v_I u 11 5 (nI 0)) 15 from rfl, vAself]
  rw [e0]
  refine lp_up (n := W) (P := fun w => ∀ (f : Nat → Int32) (n : Nat) (cf : Nat → Nat) (a : Nat), n ≤ w → a < 2 ^ 12 → (∀ i, i < n → f i = nI (cf i)) → (∀ i, cf i < 12) → (∀ x, a.testBit x = true ↔ ∃ i, i < n ∧ cf i = x) → (∀ x, (∃ i, i < n ∧ cf i = x) ↔ ∃ w', w' < w ∧ b.testBit w' = true ∧ co w' = x) → RV E d 86 9 [(0, .ref 11), (1, .int (nI b)), (2, .int (nI a)), (3, .int (nI w))] (sg u f n) Q) (fun f n cf a h1 h2 h3 h4 h5 h6 => w_X9_gatherStops_9 ?_) (fun w hw ih f n cf a h1 h2 h3 h4 h5 h6 => w_X9_gatherStops_9 ?_) (Nat.zero_le _) (gA u 15) 0 (fun _ => 0) 0 (Nat.le_refl _) (by decide) (fun i hi => absurd hi (Nat.not_lt_zero _)) (fun _ => (show 0 < 12 by decide)) (fun x => by
    rw [Nat.zero_testBit]
    exact ⟨fun z => absurd z (by decide), fun ⟨j, hj, _⟩ => absurd hj (Nat.not_lt_zero _)⟩) (fun x => ⟨fun ⟨j, hj, _⟩ => absurd hj (Nat.not_lt_zero _), fun ⟨j, hj, _⟩ => absurd hj (Nat.not_lt_zero _)⟩)
  · rw [show gI (sg u f n) 11 7 = nI W from hW]
    exact ⟨fun _ => kk f n cf h1 h3 h4 h6, fun z => absurd (nI_le (Nat.le_refl _) (by omega)) z⟩
  · have hc := hco w
    have hb2 : b &&& 2 ^ w < 2 ^ 31 := n_lt_and (Nat.lt_of_lt_of_le hb (by decide))
    have ha2 : a &&& 2 ^ co w < 2 ^ 31 := n_lt_and (Nat.lt_of_lt_of_le h2 (by decide))
    rw [show gI (sg u f n) 11 7 = nI W from hW, show gA (sg u f n) 13 = gA u 13 from rfl, show gI (sg u f n) 11 5 = nI n from rfl, show gA (sg u f n) 15 = f from rfl, nI_leI (by omega) (by omega), nI_clamp (by omega), hc.1, nI_add, nI_add, nI_clamp (by omega), n_s1 (by omega), n_s1 (by omega), n_and, nI_inj hb2 (by decide), n_b0, sg_s]
    refine ⟨fun z => by omega, fun _ => ⟨vp_in_nI (by omega) (by decide), fun y2 hy2 => ?_⟩⟩
    subst hy2
    rw [n_and, nI_inj ha2 (by decide), n_b0, n_or]
    refine ⟨fun z => ih f n cf a (by omega) h2 h3 h4 h5 (fun x => ?_), fun z => ⟨fun z2 => ih f n cf a (by omega) h2 h3 h4 h5 (fun x => ?_), fun z2 y3 hy3 => ⟨vp_in_nI (by omega) (by decide), vp_in_nI (by omega) (by decide), ?_⟩⟩⟩
    · rw [h6 x]
      constructor
      · exact fun ⟨w', r1, r⟩ => ⟨w', by omega, r⟩
      · rintro ⟨w', r1, r2, r3⟩
        by_cases e : w' = w
        · subst e
          rw [z] at r2
          exact absurd r2 (by decide)
        · exact ⟨w', by omega, r2, r3⟩
    · have z2 : a.testBit (co w) = true := by
        cases hh : a.testBit (co w) with
        | true => rfl
        | false => exact absurd hh z2
      rw [h6 x]
      constructor
      · exact fun ⟨w', r1, r⟩ => ⟨w', by omega, r⟩
      · rintro ⟨w', r1, r2, r3⟩
        by_cases e : w' = w
        · subst e
          exact (h6 x).mp ((h5 x).mp (r3 ▸ z2))
        · exact ⟨w', by omega, r2, r3⟩
    · subst hy3
      have z : b.testBit w = true := by
        cases hh : b.testBit w with
        | true => rfl
        | false => exact absurd hh z
      have hnew : ∀ x, (∃ i, i < n + 1 ∧ updN cf n (co w) i = x) ↔ (∃ i, i < n ∧ cf i = x) ∨ co w = x := by
        intro x
        constructor
        · rintro ⟨i, r1, r2⟩
          by_cases e : i = n
          · rw [e, updN_s] at r2
            exact Or.inr r2
          · rw [updN_n cf _ e] at r2
            exact Or.inl ⟨i, by omega, r2⟩
        · rintro (⟨i, r1, r2⟩ | r)
          · exact ⟨i, by omega, by rw [updN_n cf _ (by omega)]; exact r2⟩
          · exact ⟨n, by omega, by rw [updN_s]; exact r⟩
      refine ih (upd f n (nI (co w))) (n + 1) (updN cf n (co w)) _ (by omega) (n_lt_or h2 hc.2) (fun i hi => ?_) (fun i => ?_) (fun x => ?_) (fun x => ?_)
      · rw [upd_i]
        by_cases e : i = n
        · rw [if_pos e, e, updN_s]
        · rw [if_neg e, updN_n cf _ e]
          exact h3 i (by omega)
      · by_cases e : i = n
        · rw [e, updN_s]
          exact hc.2
        · rw [updN_n cf _ e]
          exact h4 i
      · rw [n_or_b, Bool.or_eq_true, decide_eq_true_eq, h5 x, hnew x]
      · rw [hnew x, h6 x]
        constructor
        · rintro (⟨w', r1, r2, r3⟩ | r)
          · exact ⟨w', by omega, r2, r3⟩
          · exact ⟨w, by omega, z, r⟩
        · rintro ⟨w', r1, r2, r3⟩
          by_cases e : w' = w
          · subst e
            exact Or.inr r3
          · exact Or.inl ⟨w', by omega, r2, r3⟩
def StX (T : xV) (ed : Nat → Nat → Nat → Prop) (cf : Nat → Nat) (n : Nat) : Prop := gI T 11 5 = nI n ∧ n ≤ 8 ∧ (∀ i, i < n → gA T 15 i = nI (cf i)) ∧ (∀ i, cf i < 12) ∧ wayOK ed (gA T 12)
theorem k_way {E : Nat × (Nat → Int32)} {d : Nat} {T : xV} {ed : Nat → Nat → Nat → Prop} {cf : Nat → Nat} {n i j : Nat} {Q : Int32 → xV → Prop} (h : StX T ed cf n) (hi : i < n) (hj : j < n) (kk : ∀ x, Dok ed 1000000 (cf i) (cf j) x → Q (nI x) T) : KI E d 87 [.ref 11, .int (nI i), .int (nI j)] T Q := by
  obtain ⟨h1, h2, h3, h4, h5⟩ := h
  have ci := h4 i
  have cj := h4 j
  obtain ⟨x, x1, x2, x3, x4⟩ := h5 (cf i) (cf j) ci cj
  refine KI.of ok_87 (Nat.le_of_ble_eq_true rfl) (w_X9_way_0 ⟨vp_in_nI (by omega) (by decide), vp_in_nI (by omega) (by decide), ?_⟩)
  rw [nI_clamp (by omega), nI_clamp (by omega), h3 i hi, h3 j hj, pk_mul, nI_add, nI_clamp (by omega), Nat.mul_comm (cf i) 12, x2]
  exact ⟨vp_in_nI (by omega) (by decide), kk x ⟨x1, x3, x4⟩⟩
theorem ifI {a b : Nat} (ha : a < 2 ^ 31) (hb : b < 2 ^ 31) : (if nI a < nI b then nI a else nI b) = nI (if a < b then a else b) := by
  by_cases q : a < b
  · rw [if_pos q, if_pos ((nI_ltI ha hb).mpr q)]
  · rw [if_neg q, if_neg (fun z => q ((nI_ltI ha hb).mp z))]
theorem k_shortest {E : Nat × (Nat → Int32)} {d : Nat} {T : xV} {ed : Nat → Nat → Nat → Prop} {cf : Nat → Nat} {n S z : Nat} {Q : Int32 → xV → Prop} (h : StX T ed cf n) (hS : S < 2 ^ n) (hz : z < n) (ht : ∀ S' i, 0 < S' → S' < S → i < n → ∃ x, gA T 16 (S' * 8 + i) = nI x ∧ SpT ed cf 1000000 S' i x) (kk : ∀ x, SpT ed cf 1000000 S z x → Q (nI x) T) : KI E (d + 1) 88 [.ref 11, .int (nI S), .int (nI z)] T Q := by
  have h2 := h.2.1
  have h256 : S < 256 := Nat.lt_of_lt_of_le hS (Nat.pow_le_pow_right (by decide) h2 : 2 ^ n ≤ 2 ^ 8)
  refine KI.of ok_88 (Nat.le_of_ble_eq_true rfl) (w_X9_shortestTour_0 (fun y1 hy1 => ?_))
  rw [n_s1 (by omega)] at hy1
  subst hy1
  have hb2 : S &&& 2 ^ z < 2 ^ 31 := n_lt_and (by omega)
  rw [n_and, nI_inj hb2 (by decide), n_b0]
  refine ⟨fun q y2 hy2 => ?_, fun q => kk 1000000 (SpT.out q)⟩
  have q : S.testBit z = true := by
    cases hh : S.testBit z with
    | true => rfl
    | false => exact absurd hh q
  obtain ⟨c1, c2⟩ := clr S h256 z (by omega) q
  have hA := fun i => clr_b S z i q
  obtain ⟨A, eA⟩ : ∃ A, A = S ^^^ 2 ^ z := ⟨_, rfl⟩
  rw [c1, ← eA] at hy2
  rw [← eA] at c2
  rw [← eA] at hA
  subst hy2
  rw [nI_inj (by omega) (by decide)]
  have hAn : ∀ i, A.testBit i = true → i < n := fun i hi => b_lt hS ((hA i).mp hi).1
  refine ⟨fun q0 => ?_, fun q0 => kk 0 (SpT.one (fun i hi => ?_))⟩
  · have h0 : ∃ i, A.testBit i = true := Nat.exists_testBit_of_ne_zero q0
    let tA : Nat → Nat := fun i => (gA T 16 (A * 8 + i)).toNatClampNeg
    have htA : ∀ i, i < n → gA T 16 (A * 8 + i) = nI (tA i) ∧ SpT ed cf 1000000 A i (tA i) := by
      intro i hi
      obtain ⟨x, x1, x2⟩ := ht A i (by omega) c2 hi
      have : tA i = x := by
        show (gA T 16 (A * 8 + i)).toNatClampNeg = x
        rw [x1, nI_clamp (by have := x2.1; omega)]
      rw [this]
      exact ⟨x1, x2⟩
    let Dv : Nat → Nat := fun i => (gA T 12 (12 * cf i + cf z)).toNatClampNeg
    have hDv : ∀ i, gA T 12 (12 * cf i + cf z) = nI (Dv i) ∧ Dok ed 1000000 (cf i) (cf z) (Dv i) := by
      intro i
      obtain ⟨x, x1, x2, x3, x4⟩ := h.2.2.2.2 (cf i) (cf z) (h.2.2.2.1 i) (h.2.2.2.1 z)
      have : Dv i = x := by
        show (gA T 12 (12 * cf i + cf z)).toNatClampNeg = x
        rw [x2, nI_clamp (by omega)]
      rw [this]
      exact ⟨x2, x1, x3, x4⟩
    refine lp_up (n := n) (P := fun i => ∀ y, MinI 1000000 (fun i => A.testBit i = true) (fun i => tA i + Dv i) i y → RI E (d + 1) 88 34 [(0, .ref 11), (2, .int (nI z)), (4, .int (nI A)), (5, .int (nI y)), (6, .int (nI i))] T Q) (fun y hy => w_X9_shortestTour_34 ?_) (fun i hi ih y hy => w_X9_shortestTour_34 ?_) (Nat.zero_le _) 1000000 (MinI.zero _ _ _)
    · rw [h.1]
      exact ⟨fun _ => kk y (SpT.step hA hAn h0 (fun i hi => (htA i (hAn i hi)).2) (fun i hi => (hDv i).2) hy), fun q => absurd (nI_le (Nat.le_refl _) (by omega)) q⟩
    · have ha2 : A &&& 2 ^ i < 2 ^ 31 := n_lt_and (by omega)
      rw [h.1, nI_leI (by omega) (by omega), nI_add, n_s1 (by omega), n_and, nI_inj ha2 (by decide), n_b0, pk_mul, nI_add, nI_clamp (by omega), (htA i hi).1]
      refine ⟨fun q => by omega, fun _ => ⟨fun q => ih y (hy.skip (by rw [q]; decide)), fun q => ⟨vp_in_nI (by omega) (by decide), ?_⟩⟩⟩
      have q : A.testBit i = true := by
        cases hh : A.testBit i with
        | true => rfl
        | false => exact absurd hh q
      refine k_way h hi hz (fun x hx y4 hy4 => ?_)
      have ex : x = Dv i := by
        obtain ⟨a1, a2, a3⟩ := hx
        obtain ⟨b1, b2, b3⟩ := (hDv i).2
        rcases Nat.lt_or_ge x (Dv i) with r | r
        · have := b3 x (a2 (by omega))
          omega
        · rcases Nat.lt_or_ge (Dv i) x with r2 | r2
          · have := a3 _ (b2 (by omega))
            omega
          · omega
      have l1 := (htA i hi).2.1
      have l2 := (hDv i).2.1
      have l3 := hy.1
      rw [ex, nI_add, ifI (by omega) (by omega)] at hy4
      subst hy4
      exact ih _ (hy.min q)
  · refine Classical.byContradiction (fun e => ?_)
    have := (hA i).mpr ⟨hi, e⟩
    rw [q0, Nat.zero_testBit] at this
    exact absurd this (by decide)

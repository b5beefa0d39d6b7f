/-! the machine of the patterns, the class -/
def TxX (v : xV) (dn : Pats) : Prop := RpD v dn ∧ ∀ l, l ∈ dn → okP l
theorem rnS_ok {v : xV} {dn : Pats} (h : TxX v dn) (w : List Nat) : okS (rnS dn w) := by
  rintro p j ⟨l, e, hr⟩
  have h1 := (List.getElem?_eq_some_iff.mp e).1
  have h2 := h.1.1
  have h3 := (h.2 l (List.mem_of_getElem? e)).1
  have h4 := (rn_le w j hr).2
  exact ⟨by omega, by omega⟩
theorem k_bitS {E : Nat × (Nat → Int32)} {d : Nat} {v : xV} {p j : Nat} {Q : Int64 → xV → Prop} (k : Q ((1 : Int64) <<< ((nI (7 * p + j)).toInt64 &&& 63)) v) : KJ E d 39 [.int (nI p), .int (nI j)] v Q := by
  refine KJ.of ok_39 (Nat.le_of_ble_eq_true rfl) (w_X4_standBit_0 ?_)
  rw [pk_mul, nI_add, Nat.mul_comm p 7]
  exact k
theorem k_from {E : Nat × (Nat → Int32)} {d : Nat} {v : xV} {dn : Pats} {p i : Nat} {l : List (Nat × Bool)} {Q : Int64 → xV → Prop} (hT : TxX v dn) (hl : dn[p]? = some l) (hi : i ≤ l.length) (k : ∀ x, StS x (fun p' j => p' = p ∧ clo l i j) → Q x v) : KJ E (d + 1) 38 [.ref 17, .int (nI p), .int (nI i)] v Q := by
  obtain ⟨⟨a1, a2⟩, a3⟩ := hT.1.2.2 p l hl
  have hp : p < 8 := by
    have h1 := (List.getElem?_eq_some_iff.mp hl).1
    have h2 := hT.1.1
    omega
  refine KJ.of ok_38 (Nat.le_of_ble_eq_true rfl) (w_X4_standsFrom_0 (k_bitS ?_))
  refine lp_up (n := l.length) (P := fun j => ∀ x, StS x (fun p' j' => p' = p ∧ clo l i j' ∧ j' ≤ j) → clo l i j → RJ E (d + 1) 38 9 [(0, .ref 17), (1, .int (nI p)), (3, .long x), (5, .int (nI j))] v Q) (fun x hx hc => w_X4_standsFrom_9 ?_) (fun j hj ih x hx hc => w_X4_standsFrom_9 ?_) hi _ ((StS.one hp (by omega)).cong (fun p' j' => ⟨fun ⟨h1, h2⟩ => ⟨h1, by rw [h2]; exact ⟨⟨Nat.le_refl _, hi, fun m h1 h2 => by omega⟩, Nat.le_refl _⟩⟩, fun ⟨h1, h2, h3⟩ => ⟨h1, by have := h2.1; omega⟩⟩)) ⟨Nat.le_refl _, hi, fun m h1 h2 => by omega⟩
  · rw [nI_clamp (by omega), a1]
    exact ⟨vp_in_nI hp (by decide), fun _ => k x (hx.cong (fun p' j' => ⟨fun h => ⟨h.1, h.2.1⟩, fun h => ⟨h.1, h.2, h.2.2.1⟩⟩)), fun z => absurd (nI_le (Nat.le_refl _) (by omega)) z⟩
  · obtain ⟨⟨s, o⟩, ej⟩ : ∃ x, l[j]? = some x := ⟨_, List.getElem?_eq_getElem hj⟩
    have h19 := (a3 j s o ej).2
    rw [show (nI p).toNatClampNeg = p from nI_clamp (by omega), a1, nI_leI (by omega) (by omega), pk_mul, nI_add, nI_clamp (by omega), Nat.mul_comm p 6, h19, bB_0, nI_add]
    refine ⟨vp_in_nI hp (by decide), fun z => by omega, fun _ => ⟨vp_in_nI (by omega) (by decide), fun z => k x (hx.cong (fun p' j' => ⟨fun h => ⟨h.1, h.2.1⟩, fun h => ⟨h.1, h.2, ?_⟩⟩)), fun z => k_bitS (fun y5 hy => ?_)⟩⟩
    · refine Nat.le_of_not_lt (fun q => ?_)
      obtain ⟨s', e⟩ := h.2.2.2 j hc.1 q
      rw [ej, z] at e
      exact absurd (Prod.mk.inj (Option.some.inj e)).2 (by decide)
    · subst hy
      have hc2 : clo l i (j + 1) := by
        refine ⟨by have := hc.1; omega, hj, fun m h1 h2 => ?_⟩
        by_cases q : m = j
        · subst q
          refine ⟨s, ?_⟩
          rw [ej]
          cases o with
          | true => rfl
          | false => exact absurd rfl z
        · exact hc.2.2 m h1 (by omega)
      refine ih _ ((hx.or (StS.one hp (by omega))).cong (fun p' j' => ⟨?_, ?_⟩)) hc2
      · rintro (⟨h1, h2, h3⟩ | ⟨h1, h2⟩)
        · exact ⟨h1, h2, by omega⟩
        · rw [h2]
          exact ⟨h1, hc2, Nat.le_refl _⟩
      · rintro ⟨h1, h2, h3⟩
        by_cases q : j' = j + 1
        · exact Or.inr ⟨h1, q⟩
        · exact Or.inl ⟨h1, h2, by omega⟩
theorem k_moved {E : Nat × (Nat → Int32)} {d : Nat} {v : xV} {dn : Pats} {w : List Nat} {s : Nat} {x : Int64} {Q : Int64 → xV → Prop} (hT : TxX v dn) (hn : gI v 21 4 = nI dn.length) (hs : s < 5) (hx : StS x (rnS dn w)) (k : ∀ y, StS y (rnS dn (s :: w)) → Q y v) : KJ E (d + 2) 37 [.ref 21, .ref 17, .long x, .int (nI s)] v Q := by
  have h8 := hT.1.1
  refine KJ.of ok_37 (Nat.le_of_ble_eq_true rfl) (w_X4_moved_0 ?_)
  refine lp_up (n := dn.length) (P := fun p => ∀ a, StS a (fun p' j => p' < p ∧ rnS dn (s :: w) p' j) → RJ E (d + 2) 37 6 [(0, .ref 21), (1, .ref 17), (2, .long x), (4, .int (nI s)), (5, .long a), (7, .int (nI p))] v Q) (fun a ha => w_X4_moved_6 ?_) (fun p hp ih a ha => w_X4_moved_6 ?_) (Nat.zero_le _) _ (StS.zero.cong (fun p' j => ⟨fun h => h.elim, fun h => absurd h.1 (Nat.not_lt_zero _)⟩))
  · rw [hn]
    refine ⟨fun _ => k a (ha.cong (fun p' j => ⟨fun h => h.2, fun h => ⟨?_, h⟩⟩)), fun z => absurd (nI_le (Nat.le_refl _) (by omega)) z⟩
    obtain ⟨l, e, _⟩ := h
    exact (List.getElem?_eq_some_iff.mp e).1
  · obtain ⟨l, el⟩ : ∃ l, dn[p]? = some l := ⟨_, List.getElem?_eq_getElem hp⟩
    obtain ⟨⟨a1, a2⟩, a3⟩ := hT.1.2.2 p l el
    have hok := hT.2 l (List.mem_of_getElem? el)
    rw [hn, nI_leI (by omega) (by omega)]
    refine ⟨fun z => by omega, fun _ => ?_⟩
    refine lp_up (n := l.length) (P := fun i => ∀ a, StS a (fun p' j => (p' < p ∧ rnS dn (s :: w) p' j) ∨ (p' = p ∧ ∃ i', i' < i ∧ rnP l w i' ∧ (∃ o, l[i']? = some (s, o)) ∧ clo l (i' + 1) j)) → RJ E (d + 2) 37 18 [(0, .ref 21), (1, .ref 17), (2, .long x), (4, .int (nI s)), (5, .long a), (7, .int (nI p)), (8, .int (nI i))] v Q) (fun a ha => w_X4_moved_18 ?_) (fun i hi ih2 a ha => w_X4_moved_18 ?_) (Nat.zero_le _) a (ha.cong (fun p' j => ⟨Or.inl, fun h => h.elim id (fun ⟨_, i', h1, _⟩ => absurd h1 (Nat.not_lt_zero _))⟩))
    · rw [nI_clamp (by omega), a1, nI_add]
      refine ⟨vp_in_nI (by omega) (by decide), fun _ => ih a (ha.cong (fun p' j => ⟨?_, ?_⟩)), fun z => absurd (nI_le (Nat.le_refl _) (by omega)) z⟩
      · rintro (⟨h1, h2⟩ | ⟨h1, i', h2, h3, h4, h5⟩)
        · exact ⟨by omega, h2⟩
        · exact ⟨by omega, l, by rw [h1]; exact el, i', h3, h4, h5⟩
      · rintro ⟨h1, l', e', i', h3, ⟨o, h4⟩, h5⟩
        by_cases q : p' = p
        · subst q
          rw [el] at e'
          cases e'
          exact Or.inr ⟨rfl, i', (List.getElem?_eq_some_iff.mp h4).1, h3, ⟨o, h4⟩, h5⟩
        · exact Or.inl ⟨by omega, l', e', i', h3, ⟨o, h4⟩, h5⟩
    · obtain ⟨⟨z, o⟩, ei⟩ : ∃ x, l[i]? = some x := ⟨_, List.getElem?_eq_getElem hi⟩
      have h18 := (a3 i z o ei).1
      have hz : z < 5 := hok.2.1 (z, o) (List.mem_of_getElem? ei)
      simp only [pk_mul, nI_add]
      rw [show (nI p).toNatClampNeg = p from nI_clamp (by omega), a1, nI_leI (by omega) (by omega), nI_clamp (by omega), Nat.mul_comm p 6, h18, nI_inj (by omega) (by omega)]
      have skip : ¬ (rnP l w i ∧ z = s) → RJ E (d + 2) 37 18 [(0, .ref 21), (1, .ref 17), (2, .long x), (4, .int (nI s)), (5, .long a), (7, .int (nI p)), (8, .int (nI (i + 1)))] v Q := by
        intro hno
        refine ih2 a (ha.cong (fun p' j => ⟨?_, ?_⟩))
        · rintro (h | ⟨h1, i', h2, h3⟩)
          · exact Or.inl h
          · exact Or.inr ⟨h1, i', by omega, h3⟩
        · rintro (h | ⟨h1, i', h2, h3, ⟨o', h4⟩, h5⟩)
          · exact Or.inl h
          · by_cases q : i' = i
            · subst q
              rw [ei] at h4
              exact absurd ⟨h3, (Prod.mk.inj (Option.some.inj h4)).1⟩ hno
            · exact Or.inr ⟨h1, i', by omega, h3, ⟨o', h4⟩, h5⟩
      refine ⟨vp_in_nI (by omega) (by decide), fun q => by omega, fun _ => ⟨vp_in_nI (by omega) (by decide), fun q => skip (fun h => q h.2), fun q => k_bitS ?_⟩⟩
      have hat : x.toBitVec.getLsbD (7 * p + i) = true ↔ rnP l w i := by
        rw [hx.at (rnS_ok hT w) (by omega) (by omega)]
        exact ⟨fun ⟨l', e, h⟩ => by rw [el] at e; cases e; exact h, fun h => ⟨l, el, h⟩⟩
      rw [y_cmp, bit_and (by omega), hat]
      refine ⟨fun q2 => skip (fun h => q2 h.1), fun q2 => k_from hT el (by omega) (fun y hy y7 hy7 => ?_)⟩
      subst hy7
      refine ih2 _ ((ha.or hy).cong (fun p' j => ⟨?_, ?_⟩))
      · rintro ((h | ⟨h1, i', h2, h3⟩) | ⟨h1, h2⟩)
        · exact Or.inl h
        · exact Or.inr ⟨h1, i', by omega, h3⟩
        · exact Or.inr ⟨h1, i, by omega, Classical.not_not.mp q2, ⟨o, by rw [ei, q]⟩, h2⟩
      · rintro (h | ⟨h1, i', h2, h3, h4, h5⟩)
        · exact Or.inl (Or.inl h)
        · by_cases q3 : i' = i
          · subst q3
            exact Or.inr ⟨h1, h5⟩
          · exact Or.inl (Or.inr ⟨h1, i', by omega, h3, h4, h5⟩)
def enP (dn : Pats) (u : List Nat) : Prop := ∃ (p : Nat) (l : List (Nat × Bool)), dn[p]? = some l ∧ rnP l u l.length
theorem k_addState {E : Nat × (Nat → Int32)} {d : Nat} {v : xV} {dn : Pats} {u : List Nat} {x : Int64} {m : Nat} {Q : Int32 → xV → Prop} (hT : TxX v dn) (hn : gI v 21 4 = nI dn.length) (hx : StS x (rnS dn u)) (hm : gI v 21 3 = nI m) (hm2 : m < 512) (k : ∀ b : Bool, (b = true ↔ enP dn u) → Q (nI m) (v_I (v_A (v_B v 22 (vp_updL (gB v 22) m x)) 24 (upd (gA v 24) m (bB b))) 21 3 (nI (m + 1)))) : KI E (d + 1) 36 [.ref 21, .ref 17, .long x] v Q := by
  have h8 := hT.1.1
  refine KI.of ok_36 (Nat.le_of_ble_eq_true rfl) (w_X4_addState_0 ?_)
  rw [hm, nI_ltI (by omega) (by decide)]
  refine ⟨fun _ => ?_, fun z => by omega⟩
  refine lp_up (n := dn.length) (P := fun p => ∀ b : Bool, (b = true ↔ ∃ p' l, p' < p ∧ dn[p']? = some l ∧ rnP l u l.length) → RI E (d + 1) 36 18 [(0, .ref 21), (1, .ref 17), (2, .long x), (4, .int (bB b)), (5, .int (nI p))] v Q) (fun b hb => w_X4_addState_18 ?_) (fun p hp ih b hb => w_X4_addState_18 ?_) (Nat.zero_le _) false ⟨fun z => absurd z (by decide), fun ⟨p', l, h, _⟩ => absurd h (Nat.not_lt_zero _)⟩
  · rw [hn, hm, nI_clamp (by omega), nI_add, nI_sub (by omega)]
    refine ⟨fun _ => ⟨vp_in_nI hm2 (by decide), vp_in_nI hm2 (by decide), bB_in, ?_⟩, fun z => absurd (nI_le (Nat.le_refl _) (by omega)) z⟩
    rw [show m + 1 - 1 = m by omega]
    refine k b ?_
    rw [hb]
    exact ⟨fun ⟨p, l, _, h1, h2⟩ => ⟨p, l, h1, h2⟩, fun ⟨p, l, h1, h2⟩ => ⟨p, l, (List.getElem?_eq_some_iff.mp h1).1, h1, h2⟩⟩
  · obtain ⟨l, el⟩ : ∃ l, dn[p]? = some l := ⟨_, List.getElem?_eq_getElem hp⟩
    obtain ⟨⟨a1, a2⟩, a3⟩ := hT.1.2.2 p l el
    rw [hn, nI_leI (by omega) (by omega), bB_0, nI_add, show (nI p).toNatClampNeg = p from nI_clamp (by omega), a1]
    have up : ∀ b' : Bool, (b' = true ↔ b = true ∨ rnP l u l.length) → (b' = true ↔ ∃ p' l, p' < p + 1 ∧ dn[p']? = some l ∧ rnP l u l.length) := by
      intro b' hb'
      rw [hb', hb]
      constructor
      · rintro (⟨p', l', h1, h2, h3⟩ | h)
        · exact ⟨p', l', by omega, h2, h3⟩
        · exact ⟨p, l, by omega, el, h⟩
      · rintro ⟨p', l', h1, h2, h3⟩
        by_cases q : p' = p
        · subst q
          rw [el] at h2
          cases h2
          exact Or.inr h3
        · exact Or.inl ⟨p', l', by omega, h2, h3⟩
    refine ⟨fun z => by omega, fun _ => ⟨fun z => ih true (up true ⟨fun _ => Or.inl ?_, fun _ => rfl⟩), fun z => ⟨vp_in_nI (by omega) (by decide), k_bitS ?_⟩⟩⟩
    · cases b with
      | true => rfl
      | false => exact absurd rfl z
    · have hat : x.toBitVec.getLsbD (7 * p + l.length) = true ↔ rnP l u l.length := by
        rw [hx.at (rnS_ok hT u) (by omega) (by omega)]
        exact ⟨fun ⟨l', e, h⟩ => by rw [el] at e; cases e; exact h, fun h => ⟨l, el, h⟩⟩
      rw [y_cmp, bit_and (by omega), hat]
      refine ⟨fun q => ih false (up false ⟨fun h => absurd h (by decide), fun h => h.elim (fun h => by rw [z] at h; exact h) (fun h => absurd h q)⟩), fun q => ih true (up true ⟨fun _ => Or.inr (Classical.not_not.mp q), fun _ => rfl⟩)⟩

/-! partings: the first of all, maths -/
def mxP (p : Nat → Nat) : Nat → Nat
  | 0 => 0
  | k + 1 => max (mxP p k) (p k + 1)
def updN (p : Nat → Nat) (k c : Nat) : Nat → Nat := fun j => if j = k then c else p j
theorem updN_s (p : Nat → Nat) (k c : Nat) : updN p k c k = c := if_pos rfl
theorem updN_n (p : Nat → Nat) {k j : Nat} (c : Nat) (h : j ≠ k) : updN p k c j = p j := if_neg h
theorem mx_cong {p q : Nat → Nat} : ∀ k, (∀ j, j < k → p j = q j) → mxP p k = mxP q k
  | 0, _ => rfl
  | k + 1, h => by
    show max (mxP p k) (p k + 1) = max (mxP q k) (q k + 1)
    rw [mx_cong k (fun j hj => h j (by omega)), h k (by omega)]
theorem mx_u (p : Nat → Nat) (k c : Nat) : mxP (updN p k c) (k + 1) = max (mxP p k) (c + 1) := by
  show max (mxP (updN p k c) k) (updN p k c k + 1) = _
  rw [updN_s, mx_cong k (fun j hj => updN_n p c (by omega))]
theorem mx_u2 (p : Nat → Nat) (k c i : Nat) (h : i ≤ k) : mxP (updN p k c) i = mxP p i := mx_cong i (fun j hj => updN_n p c (by omega))
def OKp (T : Nat → Nat → Prop) (M : Nat) (p : Nat → Nat) (k : Nat) : Prop := ∀ i, i < k → p i ≤ mxP p i ∧ p i < M ∧ ∀ j, j < i → p j = p i → ¬ T j i
theorem OKp.mxle {T : Nat → Nat → Prop} {M : Nat} {p : Nat → Nat} {k : Nat} (h : OKp T M p k) : mxP p k ≤ k := by
  induction k with
  | zero => exact Nat.le_refl _
  | succ k ih =>
    have := ih (fun i hi => h i (by omega))
    have h1 := (h k (by omega)).1
    show max (mxP p k) (p k + 1) ≤ k + 1
    omega
def lexle (m : Nat) (p q : Nat → Nat) : Prop := (∀ j, j < m → p j = q j) ∨ ∃ k, k < m ∧ p k < q k ∧ ∀ j, j < k → p j = q j
def Ex (T : Nat → Nat → Prop) (M m : Nat) (p : Nat → Nat) (k c : Nat) (q : Nat → Nat) : Prop := OKp T M q m ∧ (∀ j, j < k → q j = p j) ∧ c ≤ q k
def Fst (T : Nat → Nat → Prop) (M m : Nat) (p : Nat → Nat) (k c : Nat) (q : Nat → Nat) : Prop := Ex T M m p k c q ∧ ∀ q', Ex T M m p k c q' → lexle m q q'
def Jn (T : Nat → Nat → Prop) (p : Nat → Nat) (k c : Nat) : Prop := ∀ j, j < k → p j = c → ¬ T j k
theorem Ex.skip {T : Nat → Nat → Prop} {M m : Nat} {p q : Nat → Nat} {k c : Nat} (hk : k < m) (hj : ¬ Jn T p k c) (h : Ex T M m p k c q) : Ex T M m p k (c + 1) q := by
  refine ⟨h.1, h.2.1, ?_⟩
  by_cases e : q k = c
  · exfalso
    refine hj (fun j hj2 e2 => (h.1 k hk).2.2 j hj2 ?_)
    rw [h.2.1 j hj2, e2, e]
  · have := h.2.2
    omega
theorem Ex.none {T : Nat → Nat → Prop} {M m : Nat} {p q : Nat → Nat} {k c : Nat} (hn : ∀ q, ¬ Ex T M m (updN p k c) (k + 1) 0 q) (h : Ex T M m p k c q) : Ex T M m p k (c + 1) q := by
  refine ⟨h.1, h.2.1, ?_⟩
  by_cases e : q k = c
  · exfalso
    refine hn q ⟨h.1, fun j hj => ?_, Nat.zero_le _⟩
    by_cases ej : j = k
    · rw [ej, updN_s, e]
    · rw [updN_n p c ej]
      exact h.2.1 j (by omega)
  · have := h.2.2
    omega
theorem Ex.fin {T : Nat → Nat → Prop} {M m : Nat} {p q : Nat → Nat} {k c : Nat} (hk : k < m) (hc : mxP p k < c ∨ M ≤ c) : ¬ Ex T M m p k c q := by
  intro h
  have h1 := h.1 k hk
  rw [mx_cong k h.2.1] at h1
  have := h.2.2
  omega
theorem Fst.up {T : Nat → Nat → Prop} {M m : Nat} {p q : Nat → Nat} {k c : Nat} (hk : k < m) (h : Fst T M m (updN p k c) (k + 1) 0 q) : Fst T M m p k c q := by
  obtain ⟨⟨h1, h2, -⟩, h3⟩ := h
  have hq : q k = c := by rw [h2 k (by omega), updN_s]
  have hl : ∀ j, j < k → q j = p j := fun j hj => by rw [h2 j (by omega), updN_n p c (by omega)]
  refine ⟨⟨h1, hl, by omega⟩, fun q' h' => ?_⟩
  by_cases e : q' k = c
  · refine h3 q' ⟨h'.1, fun j hj => ?_, Nat.zero_le _⟩
    by_cases ej : j = k
    · rw [ej, updN_s, e]
    · rw [updN_n p c ej]
      exact h'.2.1 j (by omega)
  · have := h'.2.2
    exact Or.inr ⟨k, hk, by omega, fun j hj => by rw [hl j hj, h'.2.1 j hj]⟩
theorem Fst.down {T : Nat → Nat → Prop} {M m : Nat} {p q : Nat → Nat} {k c e : Nat} (hce : c ≤ e) (hn : ∀ q, Ex T M m p k c q → Ex T M m p k e q) (h : Fst T M m p k e q) : Fst T M m p k c q := ⟨⟨h.1.1, h.1.2.1, Nat.le_trans hce h.1.2.2⟩, fun q' h' => h.2 q' (hn q' h')⟩
theorem Fst.base {T : Nat → Nat → Prop} {M m : Nat} {p : Nat → Nat} (h : OKp T M p m) : Fst T M m p m 0 p := ⟨⟨h, fun _ _ => rfl, Nat.zero_le _⟩, fun _ h' => Or.inl (fun j hj => (h'.2.1 j hj).symm)⟩
theorem OKp.more {T : Nat → Nat → Prop} {M : Nat} {p : Nat → Nat} {k c : Nat} (h : OKp T M p k) (h1 : c ≤ mxP p k) (h2 : c < M) (h3 : Jn T p k c) : OKp T M (updN p k c) (k + 1) := by
  intro i hi
  rw [mx_u2 p k c i (by omega)]
  by_cases e : i = k
  · subst e
    rw [updN_s]
    refine ⟨h1, h2, fun j hj q => h3 j hj ?_⟩
    rw [updN_n p c (by omega)] at q
    exact q
  · rw [updN_n p c e]
    obtain ⟨a1, a2, a3⟩ := h i (by omega)
    refine ⟨a1, a2, fun j hj q => a3 j hj ?_⟩
    rw [updN_n p c (by omega)] at q
    exact q
theorem lexle.anti {m : Nat} {p q : Nat → Nat} (h : lexle m p q) (h' : lexle m q p) : ∀ j, j < m → p j = q j := by
  rcases h with h | ⟨k, k1, k2, k3⟩
  · exact h
  · rcases h' with h' | ⟨l, l1, l2, l3⟩
    · exact fun j hj => (h' j hj).symm
    · exfalso
      rcases Nat.lt_trichotomy k l with q | q | q
      · have := l3 k q
        omega
      · subst q
        omega
      · have := k3 l q
        omega
theorem Fst.uniq {T : Nat → Nat → Prop} {M m : Nat} {p p' q q' : Nat → Nat} (h : Fst T M m p 0 0 q) (h' : Fst T M m p' 0 0 q') : ∀ j, j < m → q j = q' j :=
  lexle.anti (h.2 q' ⟨h'.1.1, fun j hj => absurd hj (Nat.not_lt_zero _), Nat.zero_le _⟩) (h'.2 q ⟨h.1.1, fun j hj => absurd hj (Nat.not_lt_zero _), Nat.zero_le _⟩)
theorem mx_id : ∀ k, mxP id k = k
  | 0 => rfl
  | k + 1 => by
    show max (mxP id k) (k + 1) = k + 1
    rw [mx_id k]
    omega
theorem OKp.id (T : Nat → Nat → Prop) (m : Nat) : OKp T m id m := fun i hi => ⟨by rw [mx_id]; exact Nat.le_refl _, hi, fun j hj e => by
  have : j = i := e
  omega⟩
theorem Ex.zero {T : Nat → Nat → Prop} {M m : Nat} {p q : Nat → Nat} (h : OKp T M q m) : Ex T M m p 0 0 q := ⟨h, fun j hj => absurd hj (Nat.not_lt_zero _), Nat.zero_le _⟩
/-! the class: partings -/
theorem k_joinX {E : Nat × (Nat → Int32)} {d : Nat} {S : xV} {T : Nat → Nat → Prop} {p : Nat → Nat} {m k c : Nat} {Q : Int32 → xV → Prop} (hm : m ≤ 10) (hk : k < m) (hc : c < 2 ^ 31) (hp : ∀ i, i < k → gA S 78 i = nI (p i) ∧ p i < 2 ^ 31) (hcl : ∃ a, gA S 77 k = nI a ∧ a < 2 ^ 31 ∧ ∀ i, i < k → (a.testBit i = true ↔ T i k)) (k1 : Jn T p k c → Q (nI 1) S) (k0 : ¬ Jn T p k c → Q (nI 0) S) : KI E d 21 [.ref 74, .int (nI k), .int (nI c)] S Q := by
  obtain ⟨a, a1, a2, a3⟩ := hcl
  refine KI.of ok_21 (Nat.le_of_ble_eq_true rfl) (w_X2_mayJoin_0 ?_)
  refine lp_up (n := k) (P := fun i => (∀ j, j < i → p j = c → ¬ T j k) → RI E d 21 2 [(0, .ref 74), (1, .int (nI k)), (2, .int (nI c)), (3, .int (nI i))] S Q) (fun h => w_X2_mayJoin_2 ⟨fun _ => k1 h, fun z => absurd (nI_le (Nat.le_refl _) (by omega)) z⟩) (fun i hi ih h => w_X2_mayJoin_2 ⟨fun z => ?_, fun _ => ?_⟩) (Nat.zero_le _) (fun j hj => absurd hj (Nat.not_lt_zero _))
  · exfalso
    rw [nI_leI (by omega) (by omega)] at z
    omega
  · have hb : a &&& 2 ^ i < 2 ^ 31 := n_lt_and a2
    rw [nI_clamp (by omega), nI_clamp (by omega), (hp i hi).1, nI_inj (hp i hi).2 hc, nI_add, a1, n_s1 (by omega), n_and, nI_inj hb (by decide), n_b0]
    refine ⟨vp_in_nI (by omega) (by decide), fun z => ih (fun j hj e => ?_), fun z => ⟨vp_in_nI (by omega) (by decide), fun q => ih (fun j hj e => ?_), fun q => k0 (fun r => ?_)⟩⟩
    · by_cases ej : j = i
      · exact absurd (ej ▸ e) z
      · exact h j (by omega) e
    · by_cases ej : j = i
      · subst ej
        intro r
        rw [(a3 j hi).mpr r] at q
        exact absurd q (by decide)
      · exact h j (by omega) e
    · refine r i hi z ((a3 i hi).mp ?_)
      cases hb : a.testBit i with
      | true => rfl
      | false => exact absurd hb q
theorem k_canX {E : Nat × (Nat → Int32)} {d : Nat} {S : xV} {T : Nat → Nat → Prop} {M m : Nat} (hm : m ≤ 10) (hM : M ≤ 10) (hsz : gI S 74 8 = nI m) (hcl : ∀ k, k < m → ∃ a, gA S 77 k = nI a ∧ a < 2 ^ 31 ∧ ∀ i, i < k → (a.testBit i = true ↔ T i k)) : ∀ (j k : Nat), k + j = m → ∀ (p : Nat → Nat) (f : Nat → Int32) (Q : Int32 → xV → Prop), OKp T M p k → (∀ i, i < k → f i = nI (p i)) → (∀ q f', Fst T M m p k 0 q → (∀ i, i < m → f' i = nI (q i)) → Q (nI 1) (v_A S 78 f')) → (∀ f', (∀ q, ¬ Ex T M m p k 0 q) → (∀ i, i < k → f' i = nI (p i)) → Q (nI 0) (v_A S 78 f')) → KI E (d + j + 1) 20 [.ref 74, .int (nI k), .int (nI (mxP p k)), .int (nI M)] (v_A S 78 f) Q := by
  intro j
  induction j with
  | zero =>
    intro k hk p f Q hp hf k1 k0
    refine KI.of ok_20 (Nat.le_of_ble_eq_true rfl) (w_X2_canNumber_0 ⟨fun _ => k1 p f ?_ (fun i hi => hf i (by omega)), fun z => ?_⟩)
    · have : k = m := by omega
      subst this
      exact Fst.base hp
    · rw [show gI (v_A S 78 f) 74 8 = nI m from hsz, nI_leI (by omega) (by omega)] at z
      omega
  | succ j ih =>
    intro k hk p f Q hp hf k1 k0
    have hmx := hp.mxle
    have hpb : ∀ i, i < k → p i < 10 := fun i hi => by
      have := (hp i hi).2.1
      omega
    refine KI.of ok_20 (Nat.le_of_ble_eq_true rfl) (w_X2_canNumber_0 ⟨fun z => ?_, fun _ => ⟨fun _ => ?_, fun z => absurd ((nI_ltI (by omega) (by decide)).mpr (by omega)) z⟩⟩)
    · exfalso
      rw [show gI (v_A S 78 f) 74 8 = nI m from hsz, nI_leI (by omega) (by omega)] at z
      omega
    · refine lp_up (n := 11) (P := fun c => ∀ f, (∀ i, i < k → f i = nI (p i)) → (∀ q, Ex T M m p k 0 q → Ex T M m p k c q) → RI E (d + j + 1 + 1) 20 19 [(0, .ref 74), (1, .int (nI k)), (2, .int (nI (mxP p k))), (3, .int (nI M)), (4, .int (nI c))] (v_A S 78 f) Q) (fun f hf hn => w_X2_canNumber_19 ⟨fun _ => k0 f (fun q h => Ex.fin (by omega) (Or.inl (by omega)) (hn q h)) hf, fun z => absurd ((nI_ltI (by omega) (by decide)).mpr (by omega)) z⟩) (fun c hc ihc f hf hn => w_X2_canNumber_19 ⟨fun z => ?_, fun z => ⟨fun z2 => ?_, fun z2 => ?_⟩⟩) (Nat.zero_le _) f hf (fun q h => h)
      · rw [nI_ltI (by omega) (by omega)] at z
        exact k0 f (fun q h => Ex.fin (by omega) (Or.inl z) (hn q h)) hf
      · rw [nI_leI (by omega) (by omega)] at z2
        exact k0 f (fun q h => Ex.fin (by omega) (Or.inr z2) (hn q h)) hf
      · rw [nI_ltI (by omega) (by omega)] at z
        rw [nI_leI (by omega) (by omega)] at z2
        refine k_joinX (S := v_A S 78 f) (T := T) (p := p) (m := m) hm (by omega) (by omega) (fun i hi => ⟨hf i hi, by have := hpb i hi; omega⟩) (hcl k (by omega)) (fun hj => ⟨fun q => absurd q nI_01, fun _ => ⟨vp_in_nI (by omega) (by decide), ?_⟩⟩) (fun hj => ⟨fun _ => ?_, fun q => absurd rfl q⟩)
        · have hok := hp.more (by omega) (by omega) hj
          have e1 : (if nI (mxP p k) < nI c + nI 1 then nI c + nI 1 else nI (mxP p k)) = nI (mxP (updN p k c) (k + 1)) := by
            rw [mx_u, nI_add]
            by_cases q : mxP p k < c + 1
            · rw [if_pos ((nI_ltI (by omega) (by omega)).mpr q), Nat.max_eq_right (by omega)]
            · rw [if_neg (fun z => q ((nI_ltI (by omega) (by omega)).mp z)), Nat.max_eq_left (by omega)]
          rw [e1, vA_s, nI_clamp (by omega), nI_add, nI_add, show gA (v_A S 78 f) 78 = f from rfl]
          have hf2 : ∀ i, i < k + 1 → upd f k (nI c) i = nI (updN p k c i) := by
            intro i hi
            rw [upd_i]
            by_cases e : i = k
            · rw [if_pos e, e, updN_s]
            · rw [if_neg e, updN_n p c e]
              exact hf i (by omega)
          refine ih (k + 1) (by omega) (updN p k c) (upd f k (nI c)) _ hok hf2 (fun q f' h1 h2 => ⟨fun q => absurd q nI_01, fun _ => ?_⟩) (fun f' h1 h2 => ⟨fun _ => ?_, fun q => absurd rfl q⟩)
          · exact k1 q f' (Fst.down (Nat.zero_le _) hn (Fst.up (by omega) h1)) h2
          · refine ihc f' (fun i hi => ?_) (fun q h => Ex.none h1 (hn q h))
            rw [h2 i (by omega), updN_n p c (by omega)]
        · rw [nI_add]
          exact ihc f hf (fun q h => Ex.skip (by omega) hj (hn q h))

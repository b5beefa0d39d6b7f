/-! members of a name, class -/
def mbl (P : Nat → Bool) : Nat → List Nat
  | 0 => []
  | i + 1 => if (mbl P i).length < 10 ∧ P i = true then mbl P i ++ [i] else mbl P i
theorem mbl_len (P : Nat → Bool) (i : Nat) : (mbl P i).length ≤ 10 := by
  induction i with
  | zero => exact Nat.zero_le _
  | succ i ih =>
    show (if (mbl P i).length < 10 ∧ P i = true then mbl P i ++ [i] else mbl P i).length ≤ 10
    by_cases h : (mbl P i).length < 10 ∧ P i = true
    · rw [if_pos h, List.length_append, List.length_singleton]
      omega
    · rw [if_neg h]
      exact ih
theorem mbl_lt (P : Nat → Bool) (i : Nat) : ∀ x, x ∈ mbl P i → x < i := by
  induction i with
  | zero => exact fun x h => absurd h List.not_mem_nil
  | succ i ih =>
    intro x h
    have h : x ∈ (if (mbl P i).length < 10 ∧ P i = true then mbl P i ++ [i] else mbl P i) := h
    by_cases q : (mbl P i).length < 10 ∧ P i = true
    · rw [if_pos q] at h
      rcases List.mem_append.mp h with h | h
      · have := ih x h
        omega
      · have := List.mem_singleton.mp h
        omega
    · rw [if_neg q] at h
      have := ih x h
      omega
theorem mbl_full {P : Nat → Bool} {i : Nat} (h : 10 ≤ (mbl P i).length) : ∀ j, mbl P (i + j) = mbl P i := by
  intro j
  induction j with
  | zero => rfl
  | succ j ih =>
    show (if (mbl P (i + j)).length < 10 ∧ P (i + j) = true then mbl P (i + j) ++ [i + j] else mbl P (i + j)) = _
    rw [ih, if_neg (by omega)]
theorem mbl_no {P : Nat → Bool} {i : Nat} (h : ¬ P i = true) : mbl P (i + 1) = mbl P i := if_neg (fun q => h q.2)
theorem mbl_yes {P : Nat → Bool} {i : Nat} (h1 : (mbl P i).length < 10) (h : P i = true) : mbl P (i + 1) = mbl P i ++ [i] := if_pos ⟨h1, h⟩
theorem snoc_at (l : List Nat) (x k : Nat) : (l ++ [x])[k]? = if k = l.length then some x else l[k]? := by
  by_cases e : k = l.length
  · rw [if_pos e, e, List.getElem?_append_right (Nat.le_refl _), Nat.sub_self]
    rfl
  · rw [if_neg e]
    by_cases q : k < l.length
    · rw [List.getElem?_append_left q]
    · rw [List.getElem?_eq_none (by rw [List.length_append, List.length_singleton]; omega), List.getElem?_eq_none (by omega)]
def TwX (tr : Nat → Int32) (ap : Nat → Nat → Prop) (a b : Nat) : Prop := (¬ tr a = -1 ∧ ¬ tr b = -1 ∧ ¬ tr a = tr b) ∨ ap a b
theorem k_twoX {E : Nat × (Nat → Int32)} {d : Nat} {v : xV} {cb : Bool} {L G : Nat → Nat} {a b : Nat} {Q : Int32 → xV → Prop} (hsp : SpX v cb L G) (ha : a < 20) (hb : b < 20) (k1 : TwX (fun s => gA v 46 (3 * s + 1)) (ApX cb L G) a b → Q (nI 1) v) (k0 : ¬ TwX (fun s => gA v 46 (3 * s + 1)) (ApX cb L G) a b → Q (nI 0) v) : KI E (d + 1) 19 [.ref 74, .int (nI a), .int (nI b)] v Q := by
  have fin : ¬ (¬ gA v 46 (3 * a + 1) = -1 ∧ ¬ gA v 46 (3 * b + 1) = -1 ∧ ¬ gA v 46 (3 * a + 1) = gA v 46 (3 * b + 1)) → RI E (d + 1) 19 38 [(0, .ref 74), (1, .int (nI a)), (2, .int (nI b))] v Q := by
    intro hno
    refine w_X2_cantBeOne_38 (k_apartX hsp (by omega) (by omega) (fun q => ⟨fun z => absurd z nI_01, fun _ => k1 (Or.inr q)⟩) (fun q => ⟨fun _ => k0 (fun r => ?_), fun z => absurd rfl z⟩))
    rcases r with r | r
    · exact hno r
    · exact q r
  refine KI.of ok_19 (Nat.le_of_ble_eq_true rfl) (w_X2_cantBeOne_0 (KI.of ok_74 (Nat.le_of_ble_eq_true rfl) (w_X7_firstOf_0 ?_)))
  simp (disch := omega) only [nI_add, pk_mul, nI_clamp, nI_leI, nI_ltI, nI_eq, vp_t, true_and, Nat.mul_comm a 3]
  refine KI.of ok_74 (Nat.le_of_ble_eq_true rfl) (w_X7_firstOf_0 ?_)
  simp (disch := omega) only [nI_add, pk_mul, nI_clamp, nI_leI, nI_ltI, nI_eq, vp_t, true_and, Nat.mul_comm b 3]
  exact ⟨fun z => fin (fun r => r.1 z), fun z1 => ⟨fun z => fin (fun r => r.2.1 z), fun z2 => ⟨fun z3 => k1 (Or.inl ⟨z1, z2, z3⟩), fun z => fin (fun r => r.2.2 z)⟩⟩⟩
theorem k_clashes {E : Nat × (Nat → Int32)} {d : Nat} {S : xV} {cb : Bool} {L G : Nat → Nat} {l : List Nat} {s : Nat} {tr : Nat → Int32} {Q : Int32 → xV → Prop} (hsp : SpX S cb L G) (htr : tr = fun s => gA S 46 (3 * s + 1)) (hs : s < 20) (hl : l.length ≤ 10) (hl2 : ∀ x, x ∈ l → x < 20) (h8 : gI S 74 8 = nI l.length) (hm : ∀ i x, l[i]? = some x → gA S 76 i = nI x) (kk : ∀ a, a < 2 ^ 31 → (∀ i x, l[i]? = some x → (a.testBit i = true ↔ TwX tr (ApX cb L G) x s)) → Q (nI a) S) : KI E (d + 2) 18 [.ref 74, .int (nI s)] S Q := by
  subst htr
  refine KI.of ok_18 (Nat.le_of_ble_eq_true rfl) (w_X2_clashesOf_0 ?_)
  refine lp_up (n := l.length) (P := fun i => ∀ a, a < 2 ^ i → (∀ j x, j < i → l[j]? = some x → (a.testBit j = true ↔ TwX (fun s => gA S 46 (3 * s + 1)) (ApX cb L G) x s)) → RI E (d + 2) 18 4 [(0, .ref 74), (1, .int (nI s)), (2, .int (nI a)), (3, .int (nI i))] S Q) (fun a ha h => w_X2_clashesOf_4 ?_) (fun i hi ih a ha h => w_X2_clashesOf_4 ?_) (Nat.zero_le _) 0 (by decide) (fun j x hj => absurd hj (Nat.not_lt_zero _))
  · rw [h8]
    refine ⟨fun _ => kk a (Nat.lt_of_lt_of_le ha (Nat.pow_le_pow_right (by decide) (by omega))) (fun i x e => h i x ?_ e), fun z => absurd (nI_le (Nat.le_refl _) (by omega)) z⟩
    exact (List.getElem?_eq_some_iff.mp e).1
  · obtain ⟨x, ex⟩ : ∃ x, l[i]? = some x := ⟨l[i], List.getElem?_eq_getElem hi⟩
    have hx := hl2 x (List.mem_of_getElem? ex)
    rw [h8, nI_leI (by omega) (by omega), nI_clamp (by omega), hm i x ex, nI_add, n_s1 (by omega), n_or]
    have hai : a.testBit i = false := Nat.testBit_lt_two_pow ha
    refine ⟨fun z => by omega, fun _ => ⟨vp_in_nI (by omega) (by decide), k_twoX hsp hx hs (fun q => ⟨fun z => absurd z nI_01, fun _ y hy => ?_⟩) (fun q => ⟨fun _ => ?_, fun z => absurd rfl z⟩)⟩⟩
    · subst hy
      refine ih _ (Nat.or_lt_two_pow (Nat.lt_of_lt_of_le ha (Nat.pow_le_pow_right (by decide) (by omega))) (Nat.pow_lt_pow_right (by decide) (by omega))) (fun j y hj e => ?_)
      rw [n_or_b]
      by_cases ej : j = i
      · subst ej
        rw [ex] at e
        cases e
        rw [decide_eq_true rfl, Bool.or_true]
        exact ⟨fun _ => q, fun _ => rfl⟩
      · rw [decide_eq_false (fun e => ej e.symm), Bool.or_false]
        exact h j y (by omega) e
    · refine ih a (Nat.lt_of_lt_of_le ha (Nat.pow_le_pow_right (by decide) (by omega))) (fun j y hj e => ?_)
      by_cases ej : j = i
      · subst ej
        rw [ex] at e
        cases e
        rw [hai]
        exact ⟨fun z => absurd z (by decide), fun z => absurd z q⟩
      · exact h j y (by omega) e
/-- the members as they lie in the class's rows -/
def MbX (S : xV) (tw : Nat → Nat → Prop) (l : List Nat) : Prop := gI S 74 8 = nI l.length ∧ (∀ i x, l[i]? = some x → gA S 76 i = nI x) ∧ ∀ k y, l[k]? = some y → ∃ a, gA S 77 k = nI a ∧ a < 2 ^ 31 ∧ ∀ i x, i < k → l[i]? = some x → (a.testBit i = true ↔ tw x y)
theorem k_gatherF {E : Nat × (Nat → Int32)} {d : Nat} {v : xV} {cb : Bool} {L G : Nat → Nat} {K : Nat} {name : Int32} {tr : Nat → Int32} {P : Nat → Bool} {Q : xV → Prop} (hsp : SpX v cb L G) (htr : tr = fun s => gA v 46 (3 * s + 1)) (hP : ∀ s, P s = decide (gA v 46 (3 * s) = name)) (hK : K ≤ 20) (kk : ∀ w, ScF v w → SpX w cb L G → MbX w (TwX tr (ApX cb L G)) (mbl P K) → Q w) : KV E (d + 3) 17 [.ref 74, .int name, .int (nI K)] v Q := by
  refine KV.of ok_17 (Nat.le_of_ble_eq_true rfl) (w_X2_gatherMembers_0 ?_)
  refine lp_up (n := K) (P := fun i => ∀ w, ScF v w → SpX w cb L G → MbX w (TwX tr (ApX cb L G)) (mbl P i) → RV E (d + 3) 17 7 [(0, .ref 74), (1, .int name), (2, .int (nI K)), (3, .int (nI i))] w Q) (fun w s1 s2 s3 => w_X2_gatherMembers_7 ⟨fun _ => kk w s1 s2 s3, fun z => absurd (nI_le (Nat.le_refl _) (by omega)) z⟩) (fun i hi ih w s1 s2 s3 => w_X2_gatherMembers_7 ⟨fun z => ?_, fun _ => ⟨fun z => ?_, fun z => ?_⟩⟩) (Nat.zero_le _) _ (ScF.vI v _ (by omega)) hsp ⟨rfl, fun i x e => absurd e (by rw [show mbl P 0 = [] from rfl, List.getElem?_nil]; exact fun h => nomatch h), fun k y e => absurd e (by rw [show mbl P 0 = [] from rfl, List.getElem?_nil]; exact fun h => nomatch h)⟩
  · exfalso
    rw [nI_leI (by omega) (by omega)] at z
    omega
  · have hl := mbl_len P i
    rw [s3.1, nI_leI (by omega) (by omega)] at z
    refine kk w s1 s2 ?_
    have := mbl_full z (K - i)
    rw [show i + (K - i) = K by omega] at this
    rw [this]
    exact s3
  · have hl := mbl_len P i
    obtain ⟨s31, s32, s33⟩ := s3
    rw [s31, nI_leI (by omega) (by omega)] at z
    have e46 : gA w 46 = gA v 46 := s1.2.2.1 46 (by decide)
    refine KI.of ok_74 (Nat.le_of_ble_eq_true rfl) (w_X7_firstOf_0 ?_)
    simp (disch := omega) only [nI_add, pk_mul, nI_clamp, nI_leI, nI_ltI, nI_eq, vp_t, true_and, Nat.mul_comm i 3, s31]
    rw [e46, Nat.add_zero]
    refine ⟨fun q => ?_, fun q => ?_⟩
    · refine ih w s1 s2 ?_
      rw [mbl_no (by rw [hP, decide_eq_true_eq]; exact q)]
      exact ⟨s31, s32, s33⟩
    · have hm := mbl_yes (P := P) (i := i) (by omega) (by rw [hP, decide_eq_true_eq]; exact q)
      have hne : ∀ k x, (mbl P i)[k]? = some x → k ≠ (mbl P i).length := fun k x e => Nat.ne_of_lt (List.getElem?_eq_some_iff.mp e).1
      refine k_clashes (S := v_A w 76 (upd (gA w 76) (mbl P i).length (nI i))) (l := mbl P i) (tr := tr) s2 (by rw [htr]; funext s; exact (congrFun e46 (3 * s + 1)).symm) (by omega) hl (fun x hx => by have := mbl_lt P i x hx; omega) s31 (fun k x e => ?_) (fun a ha hb => ?_)
      · show upd (gA w 76) (mbl P i).length (nI i) k = nI x
        rw [upd_n _ _ (hne k x e)]
        exact s32 k x e
      · rw [show gI (v_A w 76 (upd (gA w 76) (mbl P i).length (nI i))) 74 8 = nI (mbl P i).length from s31, nI_add]
        refine ih _ (((s1.trans (ScF.vA w _ (by omega))).trans (ScF.vA _ _ (by omega))).trans (ScF.vI _ _ (by omega))) s2 ?_
        rw [hm]
        refine ⟨?_, fun k x e => ?_, fun k y e => ?_⟩
        · rw [List.length_append, List.length_singleton]
          rfl
        · show upd (gA w 76) (mbl P i).length (nI i) k = nI x
          rw [snoc_at] at e
          rw [upd_i]
          by_cases q : k = (mbl P i).length
          · rw [if_pos q] at e ⊢
            cases e
            rfl
          · rw [if_neg q] at e ⊢
            exact s32 k x e
        · show ∃ a', upd (gA w 77) (mbl P i).length (nI a) k = nI a' ∧ _
          rw [snoc_at] at e
          rw [upd_i]
          by_cases q : k = (mbl P i).length
          · rw [if_pos q] at e ⊢
            cases e
            refine ⟨a, rfl, ha, fun j x hj ex => hb j x ?_⟩
            rw [snoc_at, if_neg (by omega)] at ex
            exact ex
          · rw [if_neg q] at e ⊢
            obtain ⟨b, b1, b2, b3⟩ := s33 k y e
            refine ⟨b, b1, b2, fun j x hj ex => b3 j x hj ?_⟩
            have := (List.getElem?_eq_some_iff.mp e).1
            rw [snoc_at, if_neg (by omega)] at ex
            exact ex
def Tl (l : List Nat) (tw : Nat → Nat → Prop) (i k : Nat) : Prop := ∃ x y, l[i]? = some x ∧ l[k]? = some y ∧ tw x y
/-- the parting that is found -/
def PtI (T : Nat → Nat → Prop) (m M : Nat) (q : Nat → Nat) : Prop := (m = 0 ∧ M = 0) ∨ (1 ≤ M ∧ M ≤ m ∧ (∀ M' q', M' < M → ¬ OKp T M' q' m) ∧ Fst T M m (fun _ => 0) 0 0 q)
theorem k_partX {E : Nat × (Nat → Int32)} {d : Nat} {v : xV} {cb : Bool} {L G : Nat → Nat} {S K : Nat} {t name : Int32} {tr : Nat → Int32} {P : Nat → Bool} {Q : xV → Prop} (hsp : SpX v cb L G) (htr : tr = fun s => gA v 46 (3 * s + 1)) (hP : ∀ s, P s = decide (gA v 46 (3 * s) = name)) (hS : gI v 25 12 = nI S) (hS2 : S ≤ 20) (hK : isKn (gA v 29) t S K) (kk : ∀ w M q, ScF v w → MbX w (TwX tr (ApX cb L G)) (mbl P K) → gI w 74 9 = nI M → PtI (Tl (mbl P K) (TwX tr (ApX cb L G))) (mbl P K).length M q → (∀ i, i < (mbl P K).length → gA w 78 i = nI (q i)) → Q w) : KV E (d + 12) 16 [.ref 74, .int name, .int t] v Q := by
  refine KV.of ok_16 (Nat.le_of_ble_eq_true rfl) (w_X2_part_0 (k_knownX2 hS hS2 (fun K' hK' => ?_)))
  have eK : K' = K := hK'.uniq hK
  subst eK
  have hK1 := hK.1
  refine k_gatherF hsp htr hP (by omega) (fun w s1 s2 s3 => ?_)
  obtain ⟨l, el⟩ : ∃ l, l = mbl P K' := ⟨_, rfl⟩
  obtain ⟨T, eT⟩ : ∃ T, T = Tl (mbl P K') (TwX tr (ApX cb L G)) := ⟨_, rfl⟩
  have hl := mbl_len P K'
  rw [← eT] at kk
  rw [← el] at s3 hl kk eT
  have hcl : ∀ k, k < l.length → ∃ a, gA w 77 k = nI a ∧ a < 2 ^ 31 ∧ ∀ i, i < k → (a.testBit i = true ↔ T i k) := by
    intro k hk
    obtain ⟨a, a1, a2, a3⟩ := s3.2.2 k l[k] (List.getElem?_eq_getElem hk)
    refine ⟨a, a1, a2, fun i hi => ?_⟩
    rw [a3 i l[i] hi (List.getElem?_eq_getElem (by omega)), eT]
    constructor
    · exact fun h => ⟨_, _, List.getElem?_eq_getElem (by omega), List.getElem?_eq_getElem hk, h⟩
    · rintro ⟨x, y, e1, e2, h⟩
      rw [List.getElem?_eq_getElem (by omega)] at e1 e2
      cases e1
      cases e2
      exact h
  by_cases h0 : l.length = 0
  · refine w_X2_part_20 ⟨fun _ => kk _ 0 (fun _ => 0) (s1.trans (ScF.vI w _ (by omega))) s3 rfl (Or.inl ⟨h0, rfl⟩) (fun i hi => by omega), fun z => ?_⟩
    rw [show gI (v_I w 74 9 (nI 0)) 74 8 = nI l.length from s3.1, h0] at z
    exact absurd (by decide) z
  · have key : ∀ i, i ≤ l.length → ∀ f, (∀ M' q', M' < i + 1 → ¬ OKp T M' q' l.length) → RV E (d + 12) 16 20 [(0, .ref 74), (3, .int (nI (i + 1)))] (v_A (v_I w 74 9 (nI 0)) 78 f) Q := by
      intro i hi
      refine lp_up (n := l.length) (P := fun i => ∀ f, (∀ M' q', M' < i + 1 → ¬ OKp T M' q' l.length) → RV E (d + 12) 16 20 [(0, .ref 74), (3, .int (nI (i + 1)))] (v_A (v_I w 74 9 (nI 0)) 78 f) Q) (fun f hno => absurd (OKp.id T l.length) (hno _ _ (by omega))) (fun i hi ih f hno => w_X2_part_20 ⟨fun z => ?_, fun _ => ⟨fun z => absurd rfl z, fun _ => ?_⟩⟩) hi
      · exfalso
        rw [show gI (v_A (v_I w 74 9 (nI 0)) 78 f) 74 8 = nI l.length from s3.1, nI_ltI (by omega) (by omega)] at z
        omega
      · have := k_canX (E := E) (d := d + (10 - l.length)) (S := v_I w 74 9 (nI 0)) (T := T) (M := i + 1) (m := l.length) hl (by omega) s3.1 hcl l.length 0 (by omega) (fun _ => 0) f
        rw [show d + (10 - l.length) + l.length + 1 = d + 11 by omega] at this
        refine this _ (fun i hi => absurd hi (Nat.not_lt_zero _)) (fun i hi => absurd hi (Nat.not_lt_zero _)) (fun q f' h1 h2 => ⟨fun z => absurd z nI_01, fun _ => ?_⟩) (fun f' h1 h2 => ⟨fun _ => ?_, fun z => absurd rfl z⟩)
        · have fin : Q (v_I (v_A (v_I w 74 9 (nI 0)) 78 f') 74 9 (nI (i + 1))) := kk _ (i + 1) q (((s1.trans (ScF.vI w _ (by omega))).trans (ScF.vA _ _ (by omega))).trans (ScF.vI _ _ (by omega))) s3 rfl (Or.inr ⟨by omega, by omega, hno, h1⟩) h2
          refine w_X2_part_20 ⟨fun _ => fin, fun _ => ⟨fun _ => fin, fun z => ?_⟩⟩
          have z : nI (i + 1) = nI 0 := z
          rw [nI_inj (by omega) (by omega)] at z
          omega
        · rw [nI_add]
          refine ih f' (fun M' q' hM' hok => ?_)
          by_cases e : M' = i + 1
          · subst e
            exact h1 q' (Ex.zero hok)
          · exact hno M' q' (by omega) hok
    have := key 0 (Nat.zero_le _) (gA (v_I w 74 9 (nI 0)) 78) (fun M' q' hM' hok => by
      have := (hok 0 (by omega)).2.1
      omega)
    rw [vAself] at this
    exact this

/-! forms that were used, the reference -/
def occB (lt : Nat → Nat) (l : Nat) : Nat → Bool
  | 0 => false
  | k + 1 => occB lt l k || decide (lt k = l)
def mayB (mf : Nat → Bool) (lt : Nat → Nat) (l : Nat) : Nat → Bool
  | 0 => true
  | k + 1 => mayB mf lt l k && (!decide (lt k = l) || mf k)
theorem fbk_o (fm : Nat → Nat → Nat) (lt : Nat → Nat) (l k : Nat) : (fbk fm lt l k = none ↔ occB lt l k = false) := by
  induction k with
  | zero => exact ⟨fun _ => rfl, fun _ => rfl⟩
  | succ k ih =>
    show (if lt k = l then _ else _) = none ↔ (occB lt l k || decide (lt k = l)) = false
    by_cases h : lt k = l
    · rw [if_pos h, decide_eq_true h, Bool.or_true]
      refine ⟨fun e => ?_, fun e => by cases e⟩
      cases e1 : fbk fm lt l k with
      | none => rw [e1] at e; cases e
      | some b => rw [e1] at e; cases e
    · rw [if_neg h, decide_eq_false h, Bool.or_false]
      exact ih
theorem fbk_b {fm : Nat → Nat → Nat} {mf : Nat → Nat → Bool} {lt : Nat → Nat} {l n : Nat} (hf : ∀ k f, (fm k l).testBit f = (decide (f < n) && mf f k)) (hlt : ∀ k, fm k l < 8) (k : Nat) : ∀ b, fbk fm lt l k = some b → b < 8 ∧ ∀ f, b.testBit f = (decide (f < n) && mayB (mf f) lt l k) := by
  induction k with
  | zero =>
    intro b e
    cases e
  | succ k ih =>
    intro b e
    have e : (if lt k = l then (match fbk fm lt l k with | none => some (fm k l) | some b => some (b &&& fm k l)) else fbk fm lt l k) = some b := e
    have hm : ∀ f, mayB (mf f) lt l (k + 1) = (mayB (mf f) lt l k && (!decide (lt k = l) || mf f k)) := fun f => rfl
    by_cases h : lt k = l
    · rw [if_pos h] at e
      cases e1 : fbk fm lt l k with
      | none =>
        rw [e1] at e
        have e : some (fm k l) = some b := e
        rw [Option.some.injEq] at e
        subst e
        refine ⟨hlt k, fun f => ?_⟩
        have ho := (fbk_o fm lt l k).mp e1
        have hmt : ∀ j, j ≤ k → mayB (mf f) lt l j = true := by
          have hno : ∀ j, j ≤ k → occB lt l j = false := by
            intro j hj
            have H : ∀ m, j + m = k → occB lt l j = false := by
              intro m
              induction m generalizing j with
              | zero =>
                intro hm
                rw [show j = k by omega]
                exact ho
              | succ m ihm =>
                intro hm
                have := ihm (j + 1) (by omega) (by omega)
                have : (occB lt l j || decide (lt j = l)) = false := this
                rw [Bool.or_eq_false_iff] at this
                exact this.1
            exact H (k - j) (by omega)
          intro j
          induction j with
          | zero => exact fun _ => rfl
          | succ j ihj =>
            intro hj
            have h1 := hno (j + 1) hj
            have h1 : (occB lt l j || decide (lt j = l)) = false := h1
            rw [Bool.or_eq_false_iff] at h1
            show (mayB (mf f) lt l j && (!decide (lt j = l) || mf f j)) = true
            rw [ihj (by omega), h1.2]
            rfl
        rw [hf, hm, hmt k (Nat.le_refl _), decide_eq_true h]
        rfl
      | some b' =>
        rw [e1] at e
        have e : some (b' &&& fm k l) = some b := e
        rw [Option.some.injEq] at e
        subst e
        obtain ⟨h1, h2⟩ := ih b' e1
        refine ⟨n_lt_and h1, fun f => ?_⟩
        rw [Nat.testBit_and, h2, hf, hm, decide_eq_true h]
        cases decide (f < n) <;> cases mayB (mf f) lt l k <;> cases mf f k <;> rfl
    · rw [if_neg h] at e
      obtain ⟨h1, h2⟩ := ih b e
      refine ⟨h1, fun f => ?_⟩
      rw [h2, hm, decide_eq_false h]
      cases decide (f < n) <;> cases mayB (mf f) lt l k <;> rfl
/-- the forms that may be, one by one: none, one, or too many -/
def stf (ok : Nat → Bool) : Nat → Option (Option Nat)
  | 0 => some none
  | f + 1 => match stf ok f with
    | none => none
    | some none => if ok f = true then some (some f) else some none
    | some (some g) => if ok f = true then none else some (some g)
def stv : Option (Option Nat) → Int32
  | none => -1
  | some o => eX o
theorem stf_n {ok : Nat → Bool} {f g : Nat} (h : stf ok f = none) (hg : f ≤ g) : stf ok g = none := by
  induction g with
  | zero =>
    obtain rfl : f = 0 := by omega
    exact h
  | succ g ih =>
    by_cases e : f = g + 1
    · rw [← e]
      exact h
    · show (match stf ok g with | none => none | some none => _ | some (some g) => _) = none
      rw [ih (by omega)]
theorem only_all : ∀ b, b < 8 → onlyI (nI b) = if b.testBit 0 && !b.testBit 1 && !b.testBit 2 then nI 0 else if !b.testBit 0 && b.testBit 1 && !b.testBit 2 then nI 1 else if !b.testBit 0 && !b.testBit 1 && b.testBit 2 then nI 2 else -1 := by decide +kernel
theorem only_st {ok : Nat → Bool} {b n : Nat} (hb : b < 8) (hn : n ≤ 3) (h : ∀ f, b.testBit f = (decide (f < n) && ok f)) : onlyI (nI b) = stv (stf ok n) := by
  rw [only_all b hb, h 0, h 1, h 2]
  have hn : n = 0 ∨ n = 1 ∨ n = 2 ∨ n = 3 := by omega
  rcases hn with rfl | rfl | rfl | rfl
  · simp [stf, stv, eX]
  · cases h0 : ok 0 <;> simp [stf, stv, eX, h0]
  · cases h0 : ok 0 <;> cases h1 : ok 1 <;> simp [stf, stv, eX, h0, h1]
  · cases h0 : ok 0 <;> cases h1 : ok 1 <;> cases h2 : ok 2 <;> simp [stf, stv, eX, h0, h1, h2]
theorem k_usedForm {E : Nat × (Nat → Int32)} {d : Nat} {v : xV} {s l P n : Nat} {t : Int32} {ws : List Nat} {clw : Nat → Nat} {lw : Nat → Nat → Nat} {Q : Int32 → xV → Prop} (hs : s < 20) (hl : l < 26) (hP : gI v 80 51 = nI P) (hP2 : P ≤ 60) (h117 : gA v 117 s = nI ws.length) (hws : ws.length ≤ 6) (h116 : ∀ i w, ws[i]? = some w → gA v 116 (6 * s + i) = nI w) (hw : ∀ w, w ∈ ws → w < 80 ∧ gA v 86 w = nI (clw w) ∧ clw w ≤ 10) (hlw : ∀ w j, gA v 85 (10 * w + j) = nI (lw w j) ∧ lw w j < 26) (hT : (lts clw lw ws).length ≤ 24) (hc : gA v 83 l = nI n) (hn : n ≤ 3)
    (k0 : lastI (phP (gA v 104) (gA v 105) (nI s) t) P = -1 ∨ ws = [] → Q (-1) v)
    (k1 : ∀ p, p < 60 → lastI (phP (gA v 104) (gA v 105) (nI s) t) P = nI p → Q (if occB (fun k => (lts clw lw ws)[k]?.getD 0) l (lts clw lw ws).length = true then stv (stf (fun f => mayB (fun k => mayF (gA v 84 (3 * l + f)) (gA v 106 (24 * p + k)) (gA v 107 (24 * p + k))) (fun k => (lts clw lw ws)[k]?.getD 0) l (lts clw lw ws).length) n) else -1) v) : KI E (d + 1) 191 [.ref 80, .int (nI s), .int (nI l), .int t] v Q := by
  refine KI.of ok_191 (Nat.le_of_ble_eq_true rfl) (w_X12_usedForm_0 (k_photoAt hP hP2 ?_))
  rcases lastI_r (phP (gA v 104) (gA v 105) (nI s) t) P with e | ⟨p, hp, e, _⟩
  · exact ⟨fun _ => k0 (Or.inl e), fun h => absurd e h⟩
  have k1 := k1 p (by omega) e
  have hp60 : p < 60 := by omega
  rw [e]
  refine ⟨fun h => absurd h (m1_ne (by omega)), fun _ => ⟨vp_in_nI hs (by decide), ?_⟩⟩
  rw [nI_clamp (by omega), h117, nI_eq (by omega) (by decide)]
  refine ⟨fun h0 => ?_, fun h0 => k0 (Or.inr (List.length_eq_zero_iff.mp h0))⟩
  obtain ⟨lt, hlt⟩ : ∃ lt : Nat → Nat, lt = (fun k => (lts clw lw ws)[k]?.getD 0) := ⟨_, rfl⟩
  obtain ⟨T, hTe⟩ : ∃ T, T = (lts clw lw ws).length := ⟨_, rfl⟩
  obtain ⟨mf, hmf⟩ : ∃ mf : Nat → Nat → Bool, mf = (fun f k => mayF (gA v 84 (3 * l + f)) (gA v 106 (24 * p + k)) (gA v 107 (24 * p + k))) := ⟨_, rfl⟩
  have hmf2 : ∀ f k, mayF (gA v 84 (3 * l + f)) (gA v 106 (24 * p + k)) (gA v 107 (24 * p + k)) = mf f k := fun f k => by rw [hmf]
  have k1 : Q (if occB lt l T = true then stv (stf (fun f => mayB (mf f) lt l T) n) else -1) v := by
    rw [hmf, hlt, hTe]
    exact k1
  have hlt2 : ∀ k, lt k = (lts clw lw ws)[k]?.getD 0 := fun k => by rw [hlt]
  rw [← hTe] at hT
  clear hmf hlt
  -- one form
  have form : ∀ f, f < n → ∀ (is0 : Bool) (x5 : Int32), (∀ is : Bool, is = (is0 || occB lt l T) → ∀ v5 : Int32, v5 = x5 → ((is = false → Q (-1) v) ∧ (is = true → (mayB (mf f) lt l T = true → ((x5 = -1 → RI E (d + 1) 191 34 [(0, .ref 80), (1, .int (nI s)), (2, .int (nI l)), (4, .int (nI p)), (5, .int (nI f)), (6, .int (bB is)), (7, .int (nI (f + 1)))] v Q) ∧ (¬ x5 = -1 → Q (-1) v))) ∧ (mayB (mf f) lt l T = false → RI E (d + 1) 191 34 [(0, .ref 80), (1, .int (nI s)), (2, .int (nI l)), (4, .int (nI p)), (5, .int x5), (6, .int (bB is)), (7, .int (nI (f + 1)))] v Q)))) → RI E (d + 1) 191 54 [(0, .ref 80), (1, .int (nI s)), (2, .int (nI l)), (4, .int (nI p)), (5, .int x5), (6, .int (bB is0)), (7, .int (nI f)), (8, .int (nI 1)), (9, .int (nI 0)), (10, .int (nI 0))] v Q := by
    intro f hf is0 x5 hend
    have outer : ∀ post pre, ws = pre ++ post → ∀ off, off = (lts clw lw pre).length → RI E (d + 1) 191 54 [(0, .ref 80), (1, .int (nI s)), (2, .int (nI l)), (4, .int (nI p)), (5, .int x5), (6, .int (bB (is0 || occB lt l off))), (7, .int (nI f)), (8, .int (bB (mayB (mf f) lt l off))), (9, .int (nI off)), (10, .int (nI pre.length))] v Q := by
      intro post
      induction post with
      | nil =>
        intro pre hpre off hoff
        rw [List.append_nil] at hpre
        subst hpre
        rw [← hTe] at hoff
        subst hoff
        refine w_X12_usedForm_54 ?_
        rw [nI_clamp (by omega), h117]
        refine ⟨vp_in_nI hs (by decide), fun _ => ?_, fun h => absurd (nI_le (Nat.le_refl _) (by omega)) h⟩
        obtain ⟨q1, q2⟩ := hend _ rfl x5 rfl
        rw [nI_add]
        refine bbd (fun h => q1 h) (fun h => bbd (fun h2 => (q2 h).2 h2) (fun h2 => (q2 h).1 h2))
      | cons w post ih =>
        intro pre hpre off hoff
        have hlen : ws.length = pre.length + (post.length + 1) := by rw [hpre, List.length_append, List.length_cons]
        have hmem : w ∈ ws := by rw [hpre]; exact List.mem_append_right _ (List.mem_cons_self ..)
        obtain ⟨hw80, hw7, hw10⟩ := hw w hmem
        have hwi : ws[pre.length]? = some w := by rw [hpre, List.getElem?_append_right (Nat.le_refl _), Nat.sub_self]; rfl
        have hle : off + clw w ≤ T := by
          rw [hTe, hoff, hpre, lts_app, List.length_append]
          show _ ≤ _ + ((List.range (clw w)).map (lw w) ++ lts clw lw post).length
          rw [List.length_append, List.length_map, List.length_range]
          omega
        have elt : ∀ j, j < clw w → lt (off + j) = lw w j := by
          intro j hj
          rw [hlt2, hoff, hpre, lts_at _ _ _ _ _ _ hj]
          rfl
        have hnext := ih (pre ++ [w]) (by rw [hpre, List.append_assoc]; rfl) (off + clw w) (by rw [lts_len, hoff])
        rw [List.length_append, List.length_singleton] at hnext
        have e116 := h116 _ _ hwi
        refine w_X12_usedForm_54 ?_
        simp (disch := omega) only [pk_mul, nI_add, nI_clamp, vp_t, true_and, h117, nI_leI, e116, forall_eq]
        refine ⟨fun h => by omega, fun _ => ?_⟩
        have inner : ∀ j, j ≤ clw w → RI E (d + 1) 191 82 [(0, .ref 80), (1, .int (nI s)), (2, .int (nI l)), (4, .int (nI p)), (5, .int x5), (6, .int (bB (is0 || occB lt l (off + j)))), (7, .int (nI f)), (8, .int (bB (mayB (mf f) lt l (off + j)))), (9, .int (nI (off + j))), (10, .int (nI pre.length)), (11, .int (nI w)), (12, .int (nI j))] v Q := by
          intro j hj
          refine lp_up (n := clw w) (P := fun j => RI E (d + 1) 191 82 [(0, .ref 80), (1, .int (nI s)), (2, .int (nI l)), (4, .int (nI p)), (5, .int x5), (6, .int (bB (is0 || occB lt l (off + j)))), (7, .int (nI f)), (8, .int (bB (mayB (mf f) lt l (off + j)))), (9, .int (nI (off + j))), (10, .int (nI pre.length)), (11, .int (nI w)), (12, .int (nI j))] v Q) (w_X12_usedForm_82 ?_) (fun j hj ih2 => w_X12_usedForm_82 ?_) hj
          · simp (disch := omega) only [nI_clamp, vp_t, true_and, hw7, nI_leI, nI_add]
            exact ⟨fun _ => hnext, fun h => absurd (Nat.le_refl _) h⟩
          · obtain ⟨e85, hl26⟩ := hlw w j
            have ej := elt j hj
            have ho : occB lt l (off + (j + 1)) = (occB lt l (off + j) || decide (lw w j = l)) := by rw [← ej]; rfl
            have hm : mayB (mf f) lt l (off + (j + 1)) = (mayB (mf f) lt l (off + j) && (!decide (lw w j = l) || mf f (off + j))) := by rw [← ej]; rfl
            rw [ho, hm] at ih2
            have ih2 : RI E (d + 1) 191 82 [(0, .ref 80), (1, .int (nI s)), (2, .int (nI l)), (4, .int (nI p)), (5, .int x5), (6, .int (bB (is0 || (occB lt l (off + j) || decide (lw w j = l))))), (7, .int (nI f)), (8, .int (bB (mayB (mf f) lt l (off + j) && (!decide (lw w j = l) || mf f (off + j))))), (9, .int (nI (off + j + 1))), (10, .int (nI pre.length)), (11, .int (nI w)), (12, .int (nI (j + 1)))] v Q := ih2
            simp (disch := omega) only [pk_mul, nI_add, nI_clamp, vp_t, true_and, hw7, nI_leI, e85, nI_eq]
            refine ⟨fun h => by omega, fun _ => ⟨fun hne => ?_, fun heq => ?_⟩⟩
            · rw [decide_eq_false hne, Bool.or_false, Bool.not_false, Bool.true_or, Bool.and_true] at ih2
              exact ih2
            · rw [decide_eq_true heq, Bool.or_true, Bool.or_true, Bool.not_true, Bool.false_or] at ih2
              refine bbc (fun hb => ?_) (fun hb => k_mayFM hp60 (by omega) ?_)
              · rw [hb, Bool.false_and] at ih2
                exact ih2
              · rw [hb, Bool.true_and] at ih2
                rw [hmf2]
                refine bbc (fun h => ?_) (fun h => ?_)
                · rw [h] at ih2
                  exact ih2
                · rw [h] at ih2
                  exact ih2
        exact inner 0 (Nat.zero_le _)
    have := outer ws [] rfl 0 rfl
    have e1 : (is0 || occB lt l 0) = is0 := Bool.or_false _
    rw [e1] at this
    exact this
  by_cases hocc : occB lt l T = true
  · rw [if_pos hocc] at k1
    have loop : ∀ f, f ≤ n → ∀ (is0 : Bool) o, (stf (fun f => mayB (mf f) lt l T) f = some o) → (∀ g, o = some g → g < 3) → RI E (d + 1) 191 34 [(0, .ref 80), (1, .int (nI s)), (2, .int (nI l)), (4, .int (nI p)), (5, .int (eX o)), (6, .int (bB is0)), (7, .int (nI f))] v Q := by
      intro f hf
      refine lp_up (n := n) (P := fun f => ∀ (is0 : Bool) o, (stf (fun f => mayB (mf f) lt l T) f = some o) → (∀ g, o = some g → g < 3) → RI E (d + 1) 191 34 [(0, .ref 80), (1, .int (nI s)), (2, .int (nI l)), (4, .int (nI p)), (5, .int (eX o)), (6, .int (bB is0)), (7, .int (nI f))] v Q) (fun is0 o ho hg => w_X12_usedForm_34 ?_) (fun f hf ih is0 o ho hg => w_X12_usedForm_34 ?_) hf
      · simp (disch := omega) only [nI_clamp, vp_t, true_and, hc, nI_leI]
        rw [ho] at k1
        exact ⟨fun _ => k1, fun h => absurd (Nat.le_refl _) h⟩
      · simp (disch := omega) only [nI_clamp, vp_t, true_and, hc, nI_leI]
        refine ⟨fun h => by omega, fun _ => form f hf is0 (eX o) (fun is his v5 _ => ?_)⟩
        rw [hocc, Bool.or_true] at his
        subst his
        have hst : stf (fun f => mayB (mf f) lt l T) (f + 1) = (match stf (fun f => mayB (mf f) lt l T) f with | none => none | some none => if mayB (mf f) lt l T = true then some (some f) else some none | some (some g) => if mayB (mf f) lt l T = true then none else some (some g)) := rfl
        rw [ho] at hst
        refine ⟨fun h => (by cases h), fun _ => ⟨fun hm => ⟨fun hx => ?_, fun hx => ?_⟩, fun hm => ?_⟩⟩
        · cases o with
          | none =>
            have hst : stf (fun f => mayB (mf f) lt l T) (f + 1) = some (some f) := by rw [hst]; exact if_pos hm
            exact ih true (some f) hst (fun g hg' => by cases hg'; omega)
          | some g =>
            have := hg g rfl
            exact absurd hx (m1_ne (by omega))
        · cases o with
          | none => exact absurd rfl hx
          | some g =>
            have hst : stf (fun f => mayB (mf f) lt l T) (f + 1) = none := by rw [hst]; exact if_pos hm
            rw [stf_n hst (by omega : f + 1 ≤ n)] at k1
            exact k1
        · have hst : stf (fun f => mayB (mf f) lt l T) (f + 1) = some o := by
            rw [hst]
            cases o with
            | none => exact if_neg (by rw [hm]; exact Bool.false_ne_true)
            | some g => exact if_neg (by rw [hm]; exact Bool.false_ne_true)
          exact ih true o hst hg
    exact loop 0 (Nat.zero_le _) false none rfl (fun g hg => by cases hg)
  · rw [if_neg hocc] at k1
    rw [Bool.not_eq_true] at hocc
    refine w_X12_usedForm_34 ?_
    simp (disch := omega) only [nI_clamp, vp_t, true_and, hc, nI_leI]
    refine ⟨fun _ => k1, fun h => form 0 (by omega) false (-1) (fun is his v5 _ => ?_)⟩
    rw [hocc] at his
    have his : is = false := his
    subst his
    exact ⟨fun _ => k1, fun h => (by cases h)⟩

/-! the class: patterns read, all -/
theorem k_parseX {E : Nat × (Nat → Int32)} {d : Nat} {v : xV} {B : Nat → Nat} {n : Nat} {Q : Int32 → xV → Prop} (hn : gI v 1 1 = nI n) (hn2 : n ≤ 240) (hB : ∀ k, k < n → gA v 2 k = nI (B k) ∧ B k < 256) (kk : ∀ w k pl dn, PxF v w → prs B n 241 0 [] [] false = (k, pl, dn) → gI w 17 5 = nI k → k ≤ 3 → (k ≠ 0 → gI w 17 6 = nI pl ∧ pl ≤ 240) → (k = 0 → RpD w dn) → Q (bB (decide (k = 0))) w) : KI E (d + 8) 41 [.ref 17] v Q := by
  have fin : ∀ w k, PxF v w → gI w 17 5 = nI k → (1 ≤ k ∧ k ≤ 3) → ∀ pl dn, gI w 17 6 = nI pl → pl ≤ 240 → prs B n 241 0 [] [] false = (k, pl, dn) → RI E (d + 8) 41 124 [(0, .ref 17)] w Q := by
    intro w k hF h5 hk pl dn h6 h7 hp
    refine w_X5_parse_124 ?_
    rw [h5, nI_inj (by omega) (by decide)]
    have := kk w k pl dn hF hp h5 hk.2 (fun _ => ⟨h6, h7⟩) (fun e => by omega)
    rw [decide_eq_false (by omega)] at this
    exact ⟨fun _ => this, fun z => by omega⟩
  have bad : ∀ w k, PxF v w → gI w 17 5 = nI k → (1 ≤ k ∧ k ≤ 3) → ∀ pl dn, gI w 17 6 = nI pl → pl ≤ 240 → prs B n 241 0 [] [] false = (k, pl, dn) → ∀ x1 x2, RI E (d + 8) 41 23 [(0, .ref 17), (1, .int x1), (2, .int x2)] w Q := by
    intro w k hF h5 hk pl dn h6 h7 hp x1 x2
    have h0 : ¬ gI w 17 5 = nI 0 := by
      rw [h5, nI_inj (by omega) (by decide)]
      omega
    have h67 : RI E (d + 8) 41 67 [(0, .ref 17)] w Q := w_X5_parse_67 ⟨fun _ => w_X5_parse_98 ⟨fun _ => fin w k hF h5 hk pl dn h6 h7 hp, fun z => absurd z h0⟩, fun z => absurd z h0⟩
    exact w_X5_parse_23 ⟨fun _ => h67, fun _ => ⟨fun _ => h67, fun z => absurd z h0⟩⟩
  have good : ∀ w i dn cu ak f, PxF v w → RpD w dn → RpC w dn cu ak → gI w 17 5 = nI 0 → (n ≤ i ∨ 200 ≤ i) → i ≤ 240 → 241 ≤ f + i → prs B n 241 0 [] [] false = prs B n f i dn cu ak → RI E (d + 8) 41 67 [(0, .ref 17)] w Q := by
    intro w i dn cu ak f hF hD hC h5 hi hi2 hf hp
    have hnw : gI w 1 1 = nI n := (hF.2.2.1 1 1 (by decide)).trans hn
    obtain ⟨f', rfl⟩ : ∃ f', f = f' + 1 := ⟨f - 1, by omega⟩
    refine w_X5_parse_67 ⟨fun z => absurd h5 z, fun _ => ?_⟩
    rw [hnw, nI_leI (by omega) (by decide)]
    refine ⟨fun hn200 => w_X5_parse_98 ⟨fun z => absurd h5 z, fun _ => ?_⟩, fun hn200 => KV.of ok_43 (Nat.le_of_ble_eq_true rfl) (w_X5_refuse_0 ?_)⟩
    · have e : prs B n (f' + 1) i dn cu ak = if cu = [] then (0, 0, dn) else (1, n, dn) := by
        show (if 200 ≤ i ∧ 200 < n then _ else if n ≤ i then _ else _) = _
        rw [if_neg (by omega), if_pos (by omega)]
      rw [hC.2.1, hnw, nI_leI (by have := hC.1; omega) (by decide)]
      refine ⟨fun z => ?_, fun z => KV.of ok_43 (Nat.le_of_ble_eq_true rfl) (w_X5_refuse_0 ?_)⟩
      · have hcu : cu = [] := List.length_eq_zero_iff.mp (by omega)
        rw [e, if_pos hcu] at hp
        refine w_X5_parse_124 ⟨fun z => absurd h5 z, fun _ => ?_⟩
        exact kk w 0 0 dn hF hp h5 (by omega) (fun z => absurd rfl z) (fun _ => hD)
      · rw [e, if_neg (fun q => z (by rw [q]; exact Nat.le_refl _))] at hp
        exact fin _ 1 ((hF.trans (PxF.vI w 5 _)).trans (PxF.vI _ 6 _)) rfl (by decide) n dn rfl hn2 hp
    · have e : prs B n (f' + 1) i dn cu ak = (1, 200, dn) := if_pos (by omega)
      rw [e] at hp
      exact fin _ 1 ((hF.trans (PxF.vI w 5 _)).trans (PxF.vI _ 6 _)) rfl (by decide) 200 dn rfl (by decide) hp
  refine KI.of ok_41 (Nat.le_of_ble_eq_true rfl) (w_X5_parse_0 (KV.of ok_42 (Nat.le_of_ble_eq_true rfl) (w_X5_startPattern_0 ?_)))
  refine lp_up (n := 200) (P := fun t => ∀ w i dn cu ak f, PxF v w → RpD w dn → RpC w dn cu ak → gI w 17 5 = nI 0 → (t ≤ i ∨ n ≤ i ∨ 200 ≤ i) → i ≤ 240 → 241 ≤ f + i → prs B n 241 0 [] [] false = prs B n f i dn cu ak → RI E (d + 8) 41 23 [(0, .ref 17), (1, .int (nI i)), (2, .int (nI t))] w Q) (fun w i dn cu ak f hF hD hC h5 ht hi hf hp => w_X5_parse_23 ⟨fun _ => good w i dn cu ak f hF hD hC h5 (by omega) hi hf hp, fun z => absurd (by decide) z⟩) (fun t ht ih w i dn cu ak f hF hD hC h5 hti hi hf hp => w_X5_parse_23 ⟨fun z => ?_, fun _ => ⟨fun z => absurd h5 z, fun _ => ⟨fun z => ?_, fun z => ⟨fun z2 => ?_, fun z2 => ?_⟩⟩⟩⟩) (Nat.zero_le _) _ 0 [] [] false 241 (((((PxF.vI v 4 _).trans (PxF.vI _ 5 _)).trans (PxF.vI _ 6 _)).trans (PxF.vI _ 7 _)).trans (PxF.vI _ 8 _)) ⟨by exact Nat.zero_le _, rfl, fun p l e => by rw [List.getElem?_nil] at e; exact nomatch e⟩ ⟨by exact Nat.zero_le _, rfl, rfl, fun z => absurd z (by decide), fun z => absurd rfl z, fun k s o e => by rw [List.getElem?_nil] at e; exact nomatch e⟩ rfl (Or.inl (Nat.le_refl _)) (by decide) (by decide) rfl
  · exfalso
    rw [nI_leI (by decide) (by omega)] at z
    omega
  · rw [show gI w 1 1 = nI n from (hF.2.2.1 1 1 (by decide)).trans hn, nI_leI (by omega) (by omega)] at z
    rw [nI_add]
    exact ih w i dn cu ak f hF hD hC h5 (by omega) hi hf hp
  · rw [nI_leI (by omega) (by omega)] at z2
    rw [nI_add]
    exact ih w i dn cu ak f hF hD hC h5 (by omega) hi hf hp
  · rw [show gI w 1 1 = nI n from (hF.2.2.1 1 1 (by decide)).trans hn, nI_leI (by omega) (by omega)] at z
    rw [nI_leI (by omega) (by omega)] at z2
    obtain ⟨f', rfl⟩ : ∃ f', f = f' + 1 := ⟨f - 1, by omega⟩
    refine k_tokenX hn hn2 hB hF hD hC h5 (by omega) (by omega) (fun y w' k g1 g2 g3 g4 g5 => ?_) (fun i' dn' cu' ak' w' g1 g2 g3 g4 g5 g6 g7 => ?_)
    · exact bad w' k g1 g2 g3 i dn g4 (by omega) (hp.trans (g5 f')) y _
    · rw [nI_add]
      exact ih w' i' dn' cu' ak' f' g1 g4 g5 g6 (by omega) g3 (by omega) (hp.trans (g7 f'))
/-! what is read, is well made -/
def okP (l : List (Nat × Bool)) : Prop := l.length ≤ 6 ∧ (∀ x, x ∈ l → x.1 < 5) ∧ ¬ l.all (fun x => x.2) = true
theorem srt_lt {w : List Nat} {s : Nat} (h : srt w = some s) : s < 5 := by
  unfold srt at h
  exact (List.findIdx?_eq_some_iff_getElem.mp h).1
theorem srt_len {w : List Nat} {s : Nat} (h : srt w = some s) : 4 ≤ w.length := by
  unfold srt at h
  obtain ⟨h1, h2, -⟩ := List.findIdx?_eq_some_iff_getElem.mp h
  have e := of_decide_eq_true h2
  have : ∀ s (h : s < srtN.length), 4 ≤ (srtN[s]).length := by decide
  rw [← e]
  exact this s h1
def optN (l : List (Nat × Bool)) : Nat := (l.filter (fun x => x.2)).length
/-- how many rows at most -/
def rwN : Pats → Nat
  | [] => 0
  | l :: t => 2 ^ optN l + rwN t
theorem rwN_app (a b : Pats) : rwN (a ++ b) = rwN a + rwN b := by
  induction a with
  | nil => exact (Nat.zero_add _).symm
  | cons x a ih =>
    show 2 ^ optN x + rwN (a ++ b) = 2 ^ optN x + rwN a + rwN b
    rw [ih]
    omega
theorem optN_snoc (l : List (Nat × Bool)) (s : Nat) (o : Bool) : optN (l ++ [(s, o)]) = optN l + (if o = true then 1 else 0) := by
  unfold optN
  rw [List.filter_append, List.length_append]
  cases o <;> rfl
theorem optN_lt {l : List (Nat × Bool)} (h : ¬ l.all (fun x => x.2) = true) : optN l + 1 ≤ l.length := by
  induction l with
  | nil => exact absurd rfl h
  | cons x l ih =>
    obtain ⟨s, o⟩ := x
    unfold optN at ih ⊢
    cases o with
    | true =>
      rw [List.filter_cons_of_pos rfl, List.length_cons, List.length_cons]
      have := ih (fun q => h (by rw [List.all_cons, q]; rfl))
      omega
    | false =>
      rw [List.filter_cons_of_neg (show ¬ false = true by decide), List.length_cons]
      have := List.length_filter_le (fun x : Nat × Bool => x.2) l
      omega
/-- what is read so far, against the place -/
def Wf (i : Nat) (dn : Pats) (cu : List (Nat × Bool)) (ak : Bool) : Prop := (∀ l, l ∈ dn → okP l) ∧ (dn.length ≤ 8 ∧ cu.length ≤ 6 ∧ (cu ≠ [] → dn.length < 8)) ∧ (∀ x, x ∈ cu → x.1 < 5) ∧ (ak = true → ∃ l s, cu = l ++ [(s, false)]) ∧ 15 * rwN dn + 16 * (4 * cu.length + optN cu) ≤ 16 * i
theorem Wf.le {i i' : Nat} {dn : Pats} {cu : List (Nat × Bool)} {ak : Bool} (h : Wf i dn cu ak) (hi : i ≤ i') : Wf i' dn cu ak := ⟨h.1, h.2.1, h.2.2.1, h.2.2.2.1, by have := h.2.2.2.2; omega⟩
theorem Wf.off {i : Nat} {dn : Pats} {cu : List (Nat × Bool)} {ak : Bool} (h : Wf i dn cu ak) : Wf i dn cu false := ⟨h.1, h.2.1, h.2.2.1, fun q => absurd q (by decide), h.2.2.2.2⟩
theorem Wf.item {i i' s : Nat} {dn : Pats} {cu : List (Nat × Bool)} {ak : Bool} (h : Wf i dn cu ak) (hi : i + 4 ≤ i') (hs : s < 5) (h6 : ¬ (6 ≤ cu.length ∨ 8 ≤ dn.length)) : Wf i' dn (cu ++ [(s, false)]) true := by
  obtain ⟨a1, a2, a3, a4, a5⟩ := h
  refine ⟨a1, ⟨a2.1, ?_, fun _ => by omega⟩, fun x hx => ?_, fun _ => ⟨cu, s, rfl⟩, ?_⟩
  · rw [List.length_append, List.length_singleton]
    omega
  · rcases List.mem_append.mp hx with q | q
    · exact a3 x q
    · rw [List.mem_singleton.mp q]
      exact hs
  · rw [List.length_append, List.length_singleton, optN_snoc, if_neg (by decide)]
    omega
theorem Wf.ask {i : Nat} {dn : Pats} {cu : List (Nat × Bool)} (h : Wf i dn cu true) : Wf (i + 1) dn (setO cu) false := by
  obtain ⟨a1, a2, a3, a4, a5⟩ := h
  obtain ⟨l, s, e⟩ := a4 rfl
  have hne : cu ≠ [] := by
    rw [e]
    exact List.append_ne_nil_of_right_ne_nil _ (List.cons_ne_nil _ _)
  have hlen : cu.length = l.length + 1 := by rw [e, List.length_append, List.length_singleton]
  have ho : optN cu = optN l := by rw [e, optN_snoc, if_neg (by decide), Nat.add_zero]
  have es : setO cu = l ++ [(s, true)] := by rw [e, setO_snoc]
  rw [es]
  refine ⟨a1, ⟨a2.1, ?_, fun _ => a2.2.2 hne⟩, fun x hx => ?_, fun q => absurd q (by decide), ?_⟩
  · rw [List.length_append, List.length_singleton]
    omega
  · rcases List.mem_append.mp hx with q | q
    · exact a3 x (by rw [e]; exact List.mem_append_left _ q)
    · rw [List.mem_singleton.mp q]
      exact a3 (s, false) (by rw [e]; exact List.mem_append_right _ (List.mem_singleton.mpr rfl))
  · rw [List.length_append, List.length_singleton, optN_snoc, if_pos rfl]
    omega
theorem Wf.stop {i : Nat} {dn : Pats} {cu : List (Nat × Bool)} {ak : Bool} (h : Wf i dn cu ak) (hne : cu ≠ []) (ha : ¬ cu.all (fun x => x.2) = true) : Wf (i + 1) (dn ++ [cu]) [] false := by
  obtain ⟨a1, a2, a3, a4, a5⟩ := h
  have hd := a2.2.2 hne
  have hl := optN_lt ha
  refine ⟨fun l hl => ?_, ⟨?_, Nat.zero_le _, fun q => absurd rfl q⟩, fun x hx => absurd hx List.not_mem_nil, fun q => absurd q (by decide), ?_⟩
  · rcases List.mem_append.mp hl with q | q
    · exact a1 l q
    · rw [List.mem_singleton.mp q]
      exact ⟨a2.2.1, a3, ha⟩
  · rw [List.length_append, List.length_singleton]
    omega
  · rw [rwN_app, show rwN [cu] = 2 ^ optN cu + 0 from rfl, show ([] : List (Nat × Bool)).length = 0 from rfl, show optN [] = 0 from rfl]
    have h5 : optN cu ≤ 5 := by omega
    have : ∀ o, o ≤ 5 → 15 * 2 ^ o ≤ 80 * (o + 1) := by decide
    have := this _ h5
    omega
theorem prs_ok (B : Nat → Nat) (n : Nat) : ∀ f i dn cu ak, Wf i dn cu ak → ∀ pl r, prs B n f i dn cu ak = (0, pl, r) → (∀ l, l ∈ r → okP l) ∧ r.length ≤ 8 := by
  intro f
  induction f with
  | zero =>
    intro i dn cu ak hw pl r h
    have h : ((1, 200, dn) : Nat × Nat × Pats) = (0, pl, r) := h
    exact absurd (Prod.mk.inj h).1 (by decide)
  | succ f ih =>
    intro i dn cu ak hw pl r h
    have no : ∀ k p, ((k + 1, p, dn) : Nat × Nat × Pats) = (0, pl, r) → (∀ l, l ∈ r → okP l) ∧ r.length ≤ 8 := fun k p e => absurd (Prod.mk.inj e).1 (by omega)
    unfold prs at h
    by_cases q1 : 200 ≤ i ∧ 200 < n
    · rw [if_pos q1] at h
      exact no _ _ h
    rw [if_neg q1] at h
    by_cases q2 : n ≤ i
    · rw [if_pos q2] at h
      by_cases q3 : cu = []
      · rw [if_pos q3] at h
        have e := (Prod.mk.inj (Prod.mk.inj h).2).2
        rw [← e]
        exact ⟨hw.1, hw.2.1.1⟩
      · rw [if_neg q3] at h
        exact no _ _ h
    rw [if_neg q2] at h
    by_cases q3 : isL (B i) = true
    · rw [if_pos q3] at h
      cases es : srt (wd B i (rEnd B n i)) with
      | none =>
        rw [es] at h
        exact no _ _ h
      | some s =>
        rw [es] at h
        have h : (if 6 ≤ cu.length ∨ 8 ≤ dn.length then (2, i, dn) else prs B n f (rEnd B n i) dn (cu ++ [(s, false)]) true) = ((0, pl, r) : Nat × Nat × Pats) := h
        by_cases q4 : 6 ≤ cu.length ∨ 8 ≤ dn.length
        · rw [if_pos q4] at h
          exact no _ _ h
        · rw [if_neg q4] at h
          have hl := srt_len es
          rw [wd_len] at hl
          exact ih _ _ _ _ (hw.item (by omega) (srt_lt es) q4) pl r h
    rw [if_neg q3] at h
    by_cases q4 : B i = 63
    · rw [if_pos q4] at h
      by_cases q5 : ak = true
      · rw [if_pos q5] at h
        subst q5
        exact ih _ _ _ _ hw.ask pl r h
      · rw [if_neg q5] at h
        exact no _ _ h
    rw [if_neg q4] at h
    by_cases q5 : B i = 59
    · rw [if_pos q5] at h
      by_cases q6 : cu = []
      · rw [if_pos q6] at h
        exact no _ _ h
      · rw [if_neg q6] at h
        by_cases q7 : cu.all (fun x => x.2) = true
        · rw [if_pos q7] at h
          exact no _ _ h
        · rw [if_neg q7] at h
          exact ih _ _ _ _ (hw.stop q6 q7) pl r h
    rw [if_neg q5] at h
    by_cases q6 : B i = 32 ∨ B i = 10
    · rw [if_pos q6] at h
      exact ih _ _ _ _ (hw.le (by omega)) pl r h
    · rw [if_neg q6] at h
      exact no _ _ h
theorem Wf.zero : Wf 0 [] [] false := ⟨fun l h => absurd h List.not_mem_nil, ⟨by decide, by decide, fun q => absurd rfl q⟩, fun x h => absurd h List.not_mem_nil, fun q => absurd q (by decide), by decide⟩

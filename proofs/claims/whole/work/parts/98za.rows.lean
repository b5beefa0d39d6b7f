/-! words known by their numbers -/
def isLs (l : List Nat) : Prop := ∀ c, c ∈ l → 97 ≤ c ∧ c ≤ 122
theorem cdN_inj : ∀ (m : Nat) (l l' : List Nat), l.length ≤ m → isLs l → isLs l' → cdN l = cdN l' → l = l' := by
  intro m
  induction m with
  | zero =>
    intro l l' h h1 h2 e
    have e0 : l = [] := List.length_eq_zero_iff.mp (by omega)
    subst e0
    by_cases hn : l' = []
    · exact hn.symm
    · obtain ⟨L, c, el⟩ : ∃ L c, l' = L ++ [c] := ⟨l'.dropLast, l'.getLast hn, (List.dropLast_concat_getLast hn).symm⟩
      subst el
      have := h2 c (List.mem_append_right _ (List.mem_singleton.mpr rfl))
      rw [cdN_s, show cdN [] = 0 from rfl] at e
      omega
  | succ m ih =>
    intro l l' h h1 h2 e
    by_cases hl : l = []
    · subst hl
      by_cases hn : l' = []
      · exact hn.symm
      · obtain ⟨L, c, el⟩ : ∃ L c, l' = L ++ [c] := ⟨l'.dropLast, l'.getLast hn, (List.dropLast_concat_getLast hn).symm⟩
        subst el
        have := h2 c (List.mem_append_right _ (List.mem_singleton.mpr rfl))
        rw [cdN_s, show cdN [] = 0 from rfl] at e
        omega
    · obtain ⟨L, c, el⟩ : ∃ L c, l = L ++ [c] := ⟨l.dropLast, l.getLast hl, (List.dropLast_concat_getLast hl).symm⟩
      subst el
      have hc := h1 c (List.mem_append_right _ (List.mem_singleton.mpr rfl))
      by_cases hn : l' = []
      · subst hn
        rw [cdN_s, show cdN [] = 0 from rfl] at e
        omega
      · obtain ⟨L', c', el'⟩ : ∃ L c, l' = L ++ [c] := ⟨l'.dropLast, l'.getLast hn, (List.dropLast_concat_getLast hn).symm⟩
        subst el'
        have hc' := h2 c' (List.mem_append_right _ (List.mem_singleton.mpr rfl))
        rw [cdN_s, cdN_s] at e
        rw [List.length_append, List.length_singleton] at h
        have e1 : L = L' := ih L L' (by omega) (fun x hx => h1 x (List.mem_append_left _ hx)) (fun x hx => h2 x (List.mem_append_left _ hx)) (by omega)
        have e2 : c = c' := by omega
        rw [e1, e2]
theorem cdN_lt : ∀ (m : Nat) (l : List Nat), l.length = m → isLs l → cdN l + 1 ≤ 27 ^ m := by
  intro m
  induction m with
  | zero =>
    intro l h h1
    rw [List.length_eq_zero_iff.mp h]
    exact Nat.le_refl _
  | succ m ih =>
    intro l h h1
    have hl : l ≠ [] := fun q => by rw [q] at h; exact absurd h (Nat.succ_ne_zero _).symm
    obtain ⟨L, c, el⟩ : ∃ L c, l = L ++ [c] := ⟨l.dropLast, l.getLast hl, (List.dropLast_concat_getLast hl).symm⟩
    subst el
    have hc := h1 c (List.mem_append_right _ (List.mem_singleton.mpr rfl))
    rw [List.length_append, List.length_singleton] at h
    have := ih L (by omega) (fun x hx => h1 x (List.mem_append_left _ hx))
    rw [cdN_s, Nat.pow_succ]
    omega
theorem cdW_eq {l w : List Nat} (hl : isLs l) (hw : isLs w) (h7 : w.length ≤ 7) : cdW l = Int64.ofNat (cdN w) ↔ w = l := by
  have hb : ∀ u : List Nat, u.length ≤ 7 → isLs u → cdN u < 2 ^ 63 := by
    intro u h h'
    have h1 := cdN_lt _ u rfl h'
    have h2 : 27 ^ u.length ≤ 27 ^ 7 := Nat.pow_le_pow_right (by decide) h
    have h3 : 27 ^ 7 < 2 ^ 63 := by decide
    omega
  constructor
  · intro e
    have e2 := congrArg Int64.toInt e
    rw [Int64.toInt_ofNat_of_lt (hb w h7 hw)] at e2
    unfold cdW at e2
    by_cases h : l.length ≤ 7
    · rw [if_pos h, Int64.toInt_ofNat_of_lt (hb l h hl)] at e2
      exact (cdN_inj _ l w h hl hw (by omega)).symm
    · rw [if_neg h, show (-1 : Int64).toInt = -1 by decide] at e2
      omega
  · intro e
    subst e
    exact if_pos h7
theorem srt_if (l : List Nat) : srt l = if [110, 97, 109, 101] = l then some 0 else if [116, 114, 97, 100, 101] = l then some 1 else if [111, 102, 102, 105, 99, 101] = l then some 2 else if [116, 104, 105, 110, 103] = l then some 3 else if [111, 116, 104, 101, 114] = l then some 4 else none := by
  unfold srt srtN
  rw [List.findIdx?_cons, List.findIdx?_cons, List.findIdx?_cons, List.findIdx?_cons, List.findIdx?_cons, List.findIdx?_nil]
  by_cases h0 : [110, 97, 109, 101] = l
  · rw [decide_eq_true h0, if_pos rfl, if_pos h0]
  rw [decide_eq_false h0, if_neg (by decide), if_neg h0]
  by_cases h1 : [116, 114, 97, 100, 101] = l
  · rw [decide_eq_true h1, if_pos rfl, if_pos h1]
    rfl
  rw [decide_eq_false h1, if_neg (by decide), if_neg h1]
  by_cases h2 : [111, 102, 102, 105, 99, 101] = l
  · rw [decide_eq_true h2, if_pos rfl, if_pos h2]
    rfl
  rw [decide_eq_false h2, if_neg (by decide), if_neg h2]
  by_cases h3 : [116, 104, 105, 110, 103] = l
  · rw [decide_eq_true h3, if_pos rfl, if_pos h3]
    rfl
  rw [decide_eq_false h3, if_neg (by decide), if_neg h3]
  by_cases h4 : [111, 116, 104, 101, 114] = l
  · rw [decide_eq_true h4, if_pos rfl, if_pos h4]
    rfl
  rw [decide_eq_false h4, if_neg (by decide), if_neg h4]
  rfl
theorem k_spelt {E : Nat × (Nat → Int32)} {d : Nat} {v : xV} {x0 x1 x2 x3 x4 : Int32} {r : Int64} {Q : Int64 → xV → Prop} (hr : (if x4 ≤ nI 0 then ((((27 : Int64) * ((((27 : Int64) * ((((27 : Int64) * ((x0).toInt64 - (96 : Int64))) + (x1).toInt64) - (96 : Int64))) + (x2).toInt64) - (96 : Int64))) + (x3).toInt64) - (96 : Int64)) else ((((27 : Int64) * ((((27 : Int64) * ((((27 : Int64) * ((((27 : Int64) * ((x0).toInt64 - (96 : Int64))) + (x1).toInt64) - (96 : Int64))) + (x2).toInt64) - (96 : Int64))) + (x3).toInt64) - (96 : Int64))) + (x4).toInt64) - (96 : Int64))) = r) (k : Q r v) : KJ E d 164 [.int x0, .int x1, .int x2, .int x3, .int x4] v Q := by
  refine KJ.of ok_164 (Nat.le_of_ble_eq_true rfl) (w_X12_spelt_0 (fun y hy => ?_))
  subst hy
  refine ⟨fun z => ?_, fun z => ?_⟩
  · rw [if_pos z] at hr
    rw [hr]
    exact k
  · rw [if_neg z] at hr
    rw [hr]
    exact k
theorem k_sortH {E : Nat × (Nat → Int32)} {d : Nat} {w : xV} {l : List Nat} {Q : Int32 → xV → Prop} (hk : gI w 80 26 = nI 2) (hL : gL w 80 32 = cdW l) (hl : isLs l) (k1 : ∀ s, s < 5 → srt l = some s → Q (nI s) w) (k0 : srt l = none → Q (-1) w) : KI E (d + 1) 165 [.ref 80] w Q := by
  refine KI.of ok_165 (Nat.le_of_ble_eq_true rfl) (w_X12_sortAtHand_0 ⟨fun _ => ?_, fun z => absurd hk z⟩)
  have nm : ∀ x ∈ srtN, isLs x ∧ x.length ≤ 7 := by
    have : ∀ x ∈ srtN, (∀ c ∈ x, 97 ≤ c ∧ c ≤ 122) ∧ x.length ≤ 7 := by decide
    exact this
  have e : ∀ x ∈ srtN, (lg_cmp (gL w 80 32) (Int64.ofNat (cdN x)) = nI 0 ↔ x = l) := by
    intro x hx
    rw [y_cmp, hL]
    exact cdW_eq hl (nm x hx).1 (nm x hx).2
  refine k_spelt (r := Int64.ofNat (cdN [110, 97, 109, 101])) (by decide +kernel) ?_
  rw [e [110, 97, 109, 101] (by decide)]
  refine ⟨fun h0 => ?_, fun h0 => k1 0 (by decide) (by rw [srt_if, if_pos h0])⟩
  refine k_spelt (r := Int64.ofNat (cdN [116, 114, 97, 100, 101])) (by decide +kernel) ?_
  rw [e [116, 114, 97, 100, 101] (by decide)]
  refine ⟨fun h1 => ?_, fun h1 => k1 1 (by decide) (by rw [srt_if, if_neg h0, if_pos h1])⟩
  refine k_spelt (r := Int64.ofNat (cdN [111, 102, 102, 105, 99])) (by decide +kernel) ?_
  rw [show ((27 : Int64) * Int64.ofNat (cdN [111, 102, 102, 105, 99])) + (5 : Int64) = Int64.ofNat (cdN [111, 102, 102, 105, 99, 101]) by decide +kernel, e [111, 102, 102, 105, 99, 101] (by decide)]
  refine ⟨fun h2 => ?_, fun h2 => k1 2 (by decide) (by rw [srt_if, if_neg h0, if_neg h1, if_pos h2])⟩
  refine k_spelt (r := Int64.ofNat (cdN [116, 104, 105, 110, 103])) (by decide +kernel) ?_
  rw [e [116, 104, 105, 110, 103] (by decide)]
  refine ⟨fun h3 => ?_, fun h3 => k1 3 (by decide) (by rw [srt_if, if_neg h0, if_neg h1, if_neg h2, if_pos h3])⟩
  refine k_spelt (r := Int64.ofNat (cdN [111, 116, 104, 101, 114])) (by decide +kernel) ?_
  rw [e [111, 116, 104, 101, 114] (by decide)]
  exact ⟨fun h4 => k0 (by rw [srt_if, if_neg h0, if_neg h1, if_neg h2, if_neg h3, if_neg h4]), fun h4 => k1 4 (by decide) (by rw [srt_if, if_neg h0, if_neg h1, if_neg h2, if_neg h3, if_pos h4])⟩
theorem k_sortZ {E : Nat × (Nat → Int32)} {d : Nat} {w : xV} {Q : Int32 → xV → Prop} (hk : ¬ gI w 80 26 = nI 2) (k0 : Q (-1) w) : KI E (d + 1) 165 [.ref 80] w Q := KI.of ok_165 (Nat.le_of_ble_eq_true rfl) (w_X12_sortAtHand_0 ⟨fun z => absurd z hk, fun _ => k0⟩)
/-! what a pattern allows -/
def lang : List (Nat × Bool) → List (List Nat)
  | [] => [[]]
  | (s, o) :: l => (lang l).map (fun t => s :: t) ++ (if o = true then lang l else [])
theorem lang_len (l : List (Nat × Bool)) : (lang l).length = 2 ^ optN l := by
  induction l with
  | nil => rfl
  | cons x l ih =>
    obtain ⟨s, o⟩ := x
    show ((lang l).map (fun t => s :: t) ++ (if o = true then lang l else [])).length = _
    rw [List.length_append, List.length_map, ih]
    unfold optN
    cases o with
    | true =>
      rw [if_pos rfl, List.filter_cons_of_pos rfl, List.length_cons, Nat.pow_succ, ih]
      unfold optN
      omega
    | false =>
      rw [if_neg (by decide), List.filter_cons_of_neg (show ¬ false = true by decide)]
      rfl
def pick : List (Nat × Bool) → Nat → List Nat
  | [], _ => []
  | (s, _) :: l, m => if m % 2 = 1 then s :: pick l (m / 2) else pick l (m / 2)
def okM (l : List (Nat × Bool)) (m : Nat) : Prop := ∀ k s, l[k]? = some (s, false) → m.testBit k = true
theorem okM_cons {s : Nat} {o : Bool} {l : List (Nat × Bool)} {m : Nat} : okM ((s, o) :: l) m ↔ (o = false → m % 2 = 1) ∧ okM l (m / 2) := by
  constructor
  · intro h
    refine ⟨fun e => ?_, fun k s' hk => ?_⟩
    · have := h 0 s (by rw [e]; rfl)
      rw [Nat.testBit_zero] at this
      exact of_decide_eq_true this
    · have := h (k + 1) s' (by rw [List.getElem?_cons_succ]; exact hk)
      rw [Nat.testBit_succ] at this
      exact this
  · intro ⟨h1, h2⟩ k s' hk
    cases k with
    | zero =>
      rw [List.getElem?_cons_zero] at hk
      have e := (Prod.mk.inj (Option.some.inj hk)).2
      rw [Nat.testBit_zero]
      exact decide_eq_true (h1 e)
    | succ k =>
      rw [List.getElem?_cons_succ] at hk
      rw [Nat.testBit_succ]
      exact h2 k s' hk
theorem mem_lang {l : List (Nat × Bool)} : ∀ {t : List Nat}, t ∈ lang l ↔ ∃ m, m < 2 ^ l.length ∧ okM l m ∧ t = pick l m := by
  induction l with
  | nil =>
    intro t
    constructor
    · intro h
      exact ⟨0, by decide, fun k s hk => (by rw [List.getElem?_nil] at hk; exact nomatch hk), List.mem_singleton.mp h⟩
    · rintro ⟨m, -, -, e⟩
      exact List.mem_singleton.mpr e
  | cons x l ih =>
    obtain ⟨s, o⟩ := x
    intro t
    have hl : t ∈ lang ((s, o) :: l) ↔ t ∈ (lang l).map (fun t => s :: t) ∨ (o = true ∧ t ∈ lang l) := by
      show t ∈ (lang l).map (fun t => s :: t) ++ (if o = true then lang l else []) ↔ _
      rw [List.mem_append]
      cases o with
      | true => rw [if_pos rfl]; exact ⟨fun h => h.imp id (fun q => ⟨rfl, q⟩), fun h => h.imp id (fun q => q.2)⟩
      | false => rw [if_neg (by decide)]; exact ⟨fun h => h.imp id (fun q => absurd q List.not_mem_nil), fun h => h.imp id (fun q => absurd q.1 (by decide))⟩
    rw [hl]
    constructor
    · rintro (h | ⟨ho, h⟩)
      · obtain ⟨u, hu, e⟩ := List.mem_map.mp h
        obtain ⟨m, h1, h2, h3⟩ := ih.mp hu
        refine ⟨2 * m + 1, by rw [List.length_cons, Nat.pow_succ]; omega, okM_cons.mpr ⟨fun _ => by omega, by rw [show (2 * m + 1) / 2 = m by omega]; exact h2⟩, ?_⟩
        show t = if (2 * m + 1) % 2 = 1 then _ else _
        rw [if_pos (by omega), show (2 * m + 1) / 2 = m by omega, ← h3]
        exact e.symm
      · obtain ⟨m, h1, h2, h3⟩ := ih.mp h
        refine ⟨2 * m, by rw [List.length_cons, Nat.pow_succ]; omega, okM_cons.mpr ⟨fun q => by rw [ho] at q; exact absurd q (by decide), by rw [show 2 * m / 2 = m by omega]; exact h2⟩, ?_⟩
        show t = if (2 * m) % 2 = 1 then _ else _
        rw [if_neg (by omega), show 2 * m / 2 = m by omega, ← h3]
    · rintro ⟨m, h1, h2, h3⟩
      rw [List.length_cons, Nat.pow_succ] at h1
      obtain ⟨g1, g2⟩ := okM_cons.mp h2
      have hm : pick l (m / 2) ∈ lang l := ih.mpr ⟨m / 2, by omega, g2, rfl⟩
      have h3 : t = if m % 2 = 1 then s :: pick l (m / 2) else pick l (m / 2) := h3
      by_cases e : m % 2 = 1
      · rw [if_pos e] at h3
        rw [h3]
        exact Or.inl (List.mem_map.mpr ⟨_, hm, rfl⟩)
      · rw [if_neg e] at h3
        rw [h3]
        refine Or.inr ⟨?_, hm⟩
        cases o with
        | true => rfl
        | false => exact absurd (g1 rfl) e
theorem pick_snoc (l : List (Nat × Bool)) (s : Nat) (o : Bool) : ∀ m, pick (l ++ [(s, o)]) m = pick l m ++ (if m.testBit l.length = true then [s] else []) := by
  induction l with
  | nil =>
    intro m
    show (if m % 2 = 1 then s :: [] else []) = [] ++ (if m.testBit 0 = true then [s] else [])
    rw [Nat.testBit_zero]
    by_cases e : m % 2 = 1
    · rw [if_pos e, if_pos (decide_eq_true e)]
      rfl
    · rw [if_neg e, if_neg (fun q => e (of_decide_eq_true q))]
      rfl
  | cons x l ih =>
    obtain ⟨s', o'⟩ := x
    intro m
    show (if m % 2 = 1 then s' :: pick (l ++ [(s, o)]) (m / 2) else pick (l ++ [(s, o)]) (m / 2)) = (if m % 2 = 1 then s' :: pick l (m / 2) else pick l (m / 2)) ++ (if m.testBit (l.length + 1) = true then [s] else [])
    rw [ih, Nat.testBit_succ]
    by_cases e : m % 2 = 1
    · rw [if_pos e, if_pos e]
      rfl
    · rw [if_neg e, if_neg e]
theorem pick_len (l : List (Nat × Bool)) : ∀ m, (pick l m).length ≤ l.length := by
  induction l with
  | nil => exact fun m => Nat.le_refl _
  | cons x l ih =>
    obtain ⟨s, o⟩ := x
    intro m
    show (if m % 2 = 1 then s :: pick l (m / 2) else pick l (m / 2)).length ≤ _
    have := ih (m / 2)
    split
    · rw [List.length_cons, List.length_cons]
      omega
    · rw [List.length_cons]
      omega
theorem pick_lt (l : List (Nat × Bool)) (h : ∀ x, x ∈ l → x.1 < 5) : ∀ m z, z ∈ pick l m → z < 5 := by
  induction l with
  | nil => exact fun m z hz => absurd hz List.not_mem_nil
  | cons x l ih =>
    obtain ⟨s, o⟩ := x
    intro m z hz
    have hz : z ∈ (if m % 2 = 1 then s :: pick l (m / 2) else pick l (m / 2)) := hz
    have h2 := ih (fun x hx => h x (List.mem_cons_of_mem _ hx)) (m / 2) z
    split at hz
    · rcases List.mem_cons.mp hz with e | e
      · rw [e]
        exact h (s, o) List.mem_cons_self
      · exact h2 e
    · exact h2 hz

/-! stands in patterns: maths -/
def clo (l : List (Nat × Bool)) (i j : Nat) : Prop := i ≤ j ∧ j ≤ l.length ∧ ∀ m, i ≤ m → m < j → ∃ s, l[m]? = some (s, true)
def rnP (l : List (Nat × Bool)) : List Nat → Nat → Prop
  | [], j => clo l 0 j
  | a :: w, j => ∃ i, rnP l w i ∧ (∃ o, l[i]? = some (a, o)) ∧ clo l (i + 1) j
def lx : List (Nat × Bool) → List Nat → Prop
  | [], [] => True
  | (s, _) :: l, a :: t => a = s ∧ t ∈ lang l
  | [], _ :: _ => False
  | _ :: _, [] => False
theorem mem_lang_c {s : Nat} {o : Bool} {l : List (Nat × Bool)} {t : List Nat} : t ∈ lang ((s, o) :: l) ↔ lx ((s, o) :: l) t ∨ (o = true ∧ t ∈ lang l) := by
  show t ∈ (lang l).map (fun t => s :: t) ++ (if o = true then lang l else []) ↔ _
  rw [List.mem_append, List.mem_map]
  have h1 : (∃ a, a ∈ lang l ∧ s :: a = t) ↔ lx ((s, o) :: l) t := by
    cases t with
    | nil => exact ⟨fun ⟨a, _, e⟩ => (nomatch e), fun h => h.elim⟩
    | cons b t =>
      constructor
      · rintro ⟨a, h, e⟩
        cases e
        exact ⟨rfl, h⟩
      · rintro ⟨h1, h2⟩
        exact ⟨t, h2, by rw [h1]⟩
  rw [h1]
  cases o with
  | true => rw [if_pos rfl]; exact ⟨fun h => h.imp id (fun q => ⟨rfl, q⟩), fun h => h.imp id (fun q => q.2)⟩
  | false => rw [if_neg (by decide)]; exact ⟨fun h => h.imp id (fun q => absurd q List.not_mem_nil), fun h => h.imp id (fun q => absurd q.1 (by decide))⟩
theorem drop_at {l : List (Nat × Bool)} {i : Nat} {x : Nat × Bool} (h : l[i]? = some x) : l.drop i = x :: l.drop (i + 1) := by
  obtain ⟨h1, h2⟩ := List.getElem?_eq_some_iff.mp h
  rw [List.drop_eq_getElem_cons h1, h2]
theorem lang_cl {l : List (Nat × Bool)} {t : List Nat} : ∀ r i, i + r = l.length → (t ∈ lang (l.drop i) ↔ ∃ j, clo l i j ∧ lx (l.drop j) t) := by
  intro r
  induction r with
  | zero =>
    intro i hi
    have e : l.drop i = [] := List.drop_eq_nil_of_le (by omega)
    rw [e]
    constructor
    · intro h
      refine ⟨i, ⟨Nat.le_refl _, by omega, fun m h1 h2 => by omega⟩, ?_⟩
      rw [e, List.mem_singleton.mp h]
      trivial
    · rintro ⟨j, hj, h⟩
      have : j = i := by have := hj.1; have := hj.2.1; omega
      subst this
      rw [e] at h
      cases t with
      | nil => exact List.mem_singleton.mpr rfl
      | cons a t => exact h.elim
  | succ r ih =>
    intro i hi
    obtain ⟨⟨s, o⟩, ex⟩ : ∃ x, l[i]? = some x := ⟨_, List.getElem?_eq_getElem (show i < l.length by omega)⟩
    have e := drop_at ex
    rw [e, mem_lang_c, ← e, ih (i + 1) (by omega)]
    constructor
    · rintro (h | ⟨ho, j, hj, h⟩)
      · exact ⟨i, ⟨Nat.le_refl _, by omega, fun m h1 h2 => by omega⟩, h⟩
      · refine ⟨j, ⟨by have := hj.1; omega, hj.2.1, fun m h1 h2 => ?_⟩, h⟩
        by_cases q : m = i
        · exact ⟨s, by rw [q, ex, ho]⟩
        · exact hj.2.2 m (by omega) h2
    · rintro ⟨j, hj, h⟩
      by_cases q : j = i
      · subst q
        exact Or.inl h
      · have h1 := hj.1
        obtain ⟨s', e'⟩ := hj.2.2 i (Nat.le_refl _) (by omega)
        rw [ex] at e'
        exact Or.inr ⟨(Prod.mk.inj (Option.some.inj e')).2, j, ⟨by omega, hj.2.1, fun m h1 h2 => hj.2.2 m (by omega) h2⟩, h⟩
theorem lx_c {l : List (Nat × Bool)} {i a : Nat} {t : List Nat} : lx (l.drop i) (a :: t) ↔ (∃ o, l[i]? = some (a, o)) ∧ t ∈ lang (l.drop (i + 1)) := by
  by_cases hi : i < l.length
  · obtain ⟨⟨s, o⟩, ex⟩ : ∃ x, l[i]? = some x := ⟨_, List.getElem?_eq_getElem hi⟩
    rw [drop_at ex, ex]
    constructor
    · rintro ⟨h1, h2⟩
      exact ⟨⟨o, by rw [h1]⟩, h2⟩
    · rintro ⟨⟨o', e⟩, h2⟩
      exact ⟨(Prod.mk.inj (Option.some.inj e)).1.symm, h2⟩
  · rw [List.drop_eq_nil_of_le (by omega), List.getElem?_eq_none (by omega)]
    exact ⟨fun h => h.elim, fun ⟨⟨o, e⟩, _⟩ => (nomatch e)⟩
theorem rn_acc {l : List (Nat × Bool)} (w : List Nat) : ∀ {t : List Nat}, (w.reverse ++ t) ∈ lang l ↔ ∃ j, rnP l w j ∧ lx (l.drop j) t := by
  induction w with
  | nil =>
    intro t
    exact lang_cl (l := l) (t := t) l.length 0 (Nat.zero_add _)
  | cons a w ih =>
    intro t
    rw [List.reverse_cons, List.append_assoc, List.singleton_append, ih]
    constructor
    · rintro ⟨i, h1, h2⟩
      obtain ⟨h3, h4⟩ := lx_c.mp h2
      obtain ⟨o, e⟩ := h3
      have hi := (List.getElem?_eq_some_iff.mp e).1
      obtain ⟨j, h5, h6⟩ := (lang_cl (l.length - (i + 1)) (i + 1) (by omega)).mp h4
      exact ⟨j, ⟨i, h1, ⟨o, e⟩, h5⟩, h6⟩
    · rintro ⟨j, ⟨i, h1, ⟨o, e⟩, h5⟩, h6⟩
      have hi := (List.getElem?_eq_some_iff.mp e).1
      exact ⟨i, h1, lx_c.mpr ⟨⟨o, e⟩, (lang_cl (l.length - (i + 1)) (i + 1) (by omega)).mpr ⟨j, h5, h6⟩⟩⟩
theorem lx_ex (l : List (Nat × Bool)) : ∃ t, lx l t := by
  cases l with
  | nil => exact ⟨[], trivial⟩
  | cons x l =>
    obtain ⟨s, o⟩ := x
    have h : 0 < (lang l).length := by
      rw [lang_len]
      exact Nat.two_pow_pos _
    exact ⟨s :: (lang l)[0], rfl, List.getElem_mem h⟩
theorem lx_nil {l : List (Nat × Bool)} {j : Nat} (hj : j ≤ l.length) : lx (l.drop j) [] ↔ j = l.length := by
  by_cases h : j < l.length
  · obtain ⟨⟨s, o⟩, ex⟩ : ∃ x, l[j]? = some x := ⟨_, List.getElem?_eq_getElem h⟩
    rw [drop_at ex]
    exact ⟨fun q => q.elim, fun q => by omega⟩
  · rw [List.drop_eq_nil_of_le (by omega)]
    exact ⟨fun _ => by omega, fun _ => trivial⟩
theorem rn_le {l : List (Nat × Bool)} : ∀ (w : List Nat) (j : Nat), rnP l w j → w.length ≤ j ∧ j ≤ l.length := by
  intro w
  induction w with
  | nil => exact fun j h => ⟨Nat.zero_le _, h.2.1⟩
  | cons a w ih =>
    rintro j ⟨i, h1, _, h3⟩
    have := ih i h1
    have := h3.1
    exact ⟨by rw [List.length_cons]; omega, h3.2.1⟩
/-- a word read is part of the pattern -/
theorem rn_sub {l : List (Nat × Bool)} : ∀ (w : List Nat) (j : Nat), rnP l w j → w.reverse.Sublist ((l.take j).map (fun x => x.1)) := by
  intro w
  induction w with
  | nil => exact fun j h => List.nil_sublist _
  | cons a w ih =>
    rintro j ⟨i, h1, ⟨o, e⟩, h3⟩
    have h4 := ih i h1
    have h5 := h3.1
    rw [List.reverse_cons]
    have e1 : l.take (i + 1) = l.take i ++ [(a, o)] := by
      rw [List.take_succ, e]
      rfl
    have h6 : (w.reverse ++ [a]).Sublist ((l.take (i + 1)).map (fun x => x.1)) := by
      rw [e1, List.map_append]
      exact List.Sublist.append h4 (List.Sublist.refl _)
    have h7 : (l.take (i + 1)).Sublist (l.take j) := by
      have : l.take (i + 1) = (l.take j).take (i + 1) := by
        rw [List.take_take, show min (i + 1) j = i + 1 by omega]
      rw [this]
      exact List.take_sublist _ _
    exact h6.trans (h7.map _)
def subs : List Nat → List (List Nat)
  | [] => [[]]
  | s :: l => (subs l).map (fun t => s :: t) ++ subs l
theorem subs_len (l : List Nat) : (subs l).length = 2 ^ l.length := by
  induction l with
  | nil => rfl
  | cons s l ih =>
    show ((subs l).map (fun t => s :: t) ++ subs l).length = _
    rw [List.length_append, List.length_map, ih, List.length_cons, Nat.pow_succ]
    omega
theorem subs_m {w l : List Nat} (h : w.Sublist l) : w ∈ subs l := by
  induction h with
  | slnil => exact List.mem_singleton.mpr rfl
  | cons a _ ih => exact List.mem_append_right _ ih
  | cons_cons a _ ih => exact List.mem_append_left _ (List.mem_map.mpr ⟨_, ih, rfl⟩)
def rnS (dn : Pats) (w : List Nat) (p j : Nat) : Prop := ∃ l, dn[p]? = some l ∧ rnP l w j
theorem univ_len {dn : Pats} (h8 : dn.length ≤ 8) (h6 : ∀ l, l ∈ dn → l.length ≤ 6) : (dn.flatMap (fun l => subs (l.map (fun x => x.1)))).length ≤ 512 := by
  have : ∀ d : Pats, (∀ l, l ∈ d → l.length ≤ 6) → (d.flatMap (fun l => subs (l.map (fun x => x.1)))).length ≤ 64 * d.length := by
    intro d
    induction d with
    | nil => exact fun _ => Nat.le_refl _
    | cons l d ih =>
      intro h
      rw [List.flatMap_cons, List.length_append, subs_len, List.length_map, List.length_cons]
      have h1 := ih (fun x hx => h x (List.mem_cons_of_mem _ hx))
      have h2 : 2 ^ l.length ≤ 2 ^ 6 := Nat.pow_le_pow_right (by decide) (h l List.mem_cons_self)
      omega
  have := this dn h6
  omega
/-- new words are not many -/
theorem few {dn : Pats} (h8 : dn.length ≤ 8) (h6 : ∀ l, l ∈ dn → l.length ≤ 6) {m : Nat} {pw : Nat → List Nat} (h0 : pw 0 = []) (hi : ∀ q q', q < m → q' < m → pw q = pw q' → q = q') (hr : ∀ q, 1 ≤ q → q < m → ∃ p j, rnS dn (pw q) p j) {u : List Nat} (hu : ∃ p j, rnS dn u p j) (hn : ∀ q, q < m → pw q ≠ u) : m < 512 := by
  have mem : ∀ w, (∃ p j, rnS dn w p j) → w.reverse ∈ dn.flatMap (fun l => subs (l.map (fun x => x.1))) := by
    rintro w ⟨p, j, l, e, h⟩
    rw [List.mem_flatMap]
    refine ⟨l, List.mem_of_getElem? e, subs_m ((rn_sub w j h).trans ((List.take_sublist _ _).map _))⟩
  have nd : ((u :: (List.range m).map pw).map List.reverse).Nodup := by
    have h1 : (u :: (List.range m).map pw).Nodup := by
      rw [List.nodup_cons]
      refine ⟨fun h => ?_, ?_⟩
      · obtain ⟨q, hq, e⟩ := List.mem_map.mp h
        exact hn q (List.mem_range.mp hq) e
      · rw [List.nodup_iff_pairwise_ne, List.pairwise_map]
        refine List.Pairwise.imp_of_mem ?_ (List.nodup_iff_pairwise_ne.mp List.nodup_range)
        intro a b ha hb hab e
        exact hab (hi a b (List.mem_range.mp ha) (List.mem_range.mp hb) e)
    rw [List.nodup_iff_pairwise_ne, List.pairwise_map]
    refine List.Pairwise.imp ?_ (List.nodup_iff_pairwise_ne.mp h1)
    intro a b hab e
    exact hab (List.reverse_inj.mp e)
  have sub : (u :: (List.range m).map pw).map List.reverse ⊆ dn.flatMap (fun l => subs (l.map (fun x => x.1))) := by
    intro t ht
    obtain ⟨w, hw, e⟩ := List.mem_map.mp ht
    rw [← e]
    rcases List.mem_cons.mp hw with q | q
    · rw [q]
      exact mem u hu
    · obtain ⟨k, hk, e2⟩ := List.mem_map.mp q
      by_cases hk0 : k = 0
      · rw [← e2, hk0, h0]
        obtain ⟨p, j, l, e, h⟩ := hu
        rw [List.mem_flatMap]
        exact ⟨l, List.mem_of_getElem? e, subs_m (List.nil_sublist _)⟩
      · rw [← e2]
        exact mem _ (hr k (by omega) (List.mem_range.mp hk))
  have h1 := nd.length_le_of_subset sub
  have h2 := univ_len h8 h6
  rw [List.length_map, List.length_cons, List.length_map, List.length_range] at h1
  omega
/-! sets of stands as bits -/
def StS (x : Int64) (S : Nat → Nat → Prop) : Prop := ∀ k, k < 64 → (x.toBitVec.getLsbD k = true ↔ ∃ p j, k = 7 * p + j ∧ S p j)
def okS (S : Nat → Nat → Prop) : Prop := ∀ p j, S p j → p < 8 ∧ j ≤ 6
theorem StS.at {x : Int64} {S : Nat → Nat → Prop} (h : StS x S) (hS : okS S) {p j : Nat} (hp : p < 8) (hj : j ≤ 6) : x.toBitVec.getLsbD (7 * p + j) = true ↔ S p j := by
  rw [h _ (by omega)]
  constructor
  · rintro ⟨p', j', e, h1⟩
    have := hS p' j' h1
    have e1 : p' = p := by omega
    have e2 : j' = j := by omega
    rw [← e1, ← e2]
    exact h1
  · exact fun h1 => ⟨p, j, rfl, h1⟩
theorem StS.ext {x y : Int64} {S T : Nat → Nat → Prop} (h : StS x S) (h' : StS y T) (e : ∀ p j, S p j ↔ T p j) : x = y := by
  apply Int64.toBitVec_inj.mp
  apply BitVec.eq_of_getLsbD_eq
  intro k hk
  have h1 := h k hk
  have h2 := h' k hk
  rw [Bool.eq_iff_iff, h1, h2]
  exact ⟨fun ⟨p, j, a, b⟩ => ⟨p, j, a, (e p j).mp b⟩, fun ⟨p, j, a, b⟩ => ⟨p, j, a, (e p j).mpr b⟩⟩
theorem StS.cong {x : Int64} {S T : Nat → Nat → Prop} (h : StS x S) (e : ∀ p j, S p j ↔ T p j) : StS x T := fun k hk => (h k hk).trans ⟨fun ⟨p, j, a, b⟩ => ⟨p, j, a, (e p j).mp b⟩, fun ⟨p, j, a, b⟩ => ⟨p, j, a, (e p j).mpr b⟩⟩
theorem StS.zero : StS (0 : Int64) (fun _ _ => False) := fun k hk => ⟨fun h => by rw [show (0 : Int64).toBitVec = 0#64 from rfl, BitVec.getLsbD_zero] at h; exact absurd h (by decide), fun ⟨p, j, _, h⟩ => h.elim⟩
theorem StS.or {x y : Int64} {S T : Nat → Nat → Prop} (h : StS x S) (h' : StS y T) : StS (x ||| y) (fun p j => S p j ∨ T p j) := by
  intro k hk
  rw [Int64.toBitVec_or, BitVec.getLsbD_or, Bool.or_eq_true, h k hk, h' k hk]
  constructor
  · rintro (⟨p, j, a, b⟩ | ⟨p, j, a, b⟩)
    · exact ⟨p, j, a, Or.inl b⟩
    · exact ⟨p, j, a, Or.inr b⟩
  · rintro ⟨p, j, a, b | b⟩
    · exact Or.inl ⟨p, j, a, b⟩
    · exact Or.inr ⟨p, j, a, b⟩
theorem StS.eq0 {x : Int64} {S : Nat → Nat → Prop} (h : StS x S) (hS : okS S) : x = 0 ↔ ∀ p j, ¬ S p j := by
  constructor
  · intro e p j hp
    have := hS p j hp
    have h1 := (h.at hS this.1 this.2).mpr hp
    rw [e, show (0 : Int64).toBitVec = 0#64 from rfl, BitVec.getLsbD_zero] at h1
    exact absurd h1 (by decide)
  · intro hn
    exact h.ext StS.zero (fun p j => ⟨hn p j, fun q => q.elim⟩)
theorem bit_and {x : Int64} {k : Nat} (hk : k < 64) : (x &&& ((1 : Int64) <<< ((nI k).toInt64 &&& 63))) = 0 ↔ ¬ x.toBitVec.getLsbD k = true := by
  constructor
  · intro e h
    have h1 := congrArg (fun z : Int64 => z.toBitVec.getLsbD k) e
    simp only [Int64.toBitVec_and, BitVec.getLsbD_and, y_1 k hk, BitVec.getLsbD_twoPow, h, hk, decide_true, Bool.and_self] at h1
    rw [show (0 : Int64).toBitVec = 0#64 from rfl, BitVec.getLsbD_zero] at h1
    exact absurd h1 (by decide)
  · intro h
    apply Int64.toBitVec_inj.mp
    apply BitVec.eq_of_getLsbD_eq
    intro j hj
    rw [show (0 : Int64).toBitVec = 0#64 from rfl, BitVec.getLsbD_zero, Int64.toBitVec_and, BitVec.getLsbD_and, y_1 k hk, BitVec.getLsbD_twoPow]
    by_cases q : k = j
    · subst q
      rw [Bool.not_eq_true] at h
      rw [h, Bool.false_and]
    · rw [decide_eq_false q, Bool.and_false, Bool.and_false]
theorem StS.one {p j : Nat} (hp : p < 8) (hj : j ≤ 6) : StS ((1 : Int64) <<< ((nI (7 * p + j)).toInt64 &&& 63)) (fun p' j' => p' = p ∧ j' = j) := by
  intro k hk
  rw [y_1 _ (by omega), BitVec.getLsbD_twoPow, decide_eq_true (show 7 * p + j < 64 by omega), Bool.true_and, decide_eq_true_iff]
  exact ⟨fun e => ⟨p, j, e.symm, rfl, rfl⟩, fun ⟨p', j', e, h1, h2⟩ => by rw [e, h1, h2]⟩

/-! ways and tours, maths -/
theorem path_rev {ed : Nat → Nat → Nat → Prop} (hs : ∀ i j e, ed i j e → ed j i e) {i j c : Nat} (h : path ed i j c) : path ed j i c := by
  obtain ⟨n, hn⟩ := h
  induction n generalizing i c with
  | zero =>
    obtain ⟨e1, e2⟩ := hn
    subst e1 e2
    exact path_0 ed i
  | succ n ih =>
    obtain ⟨m, e, c', h1, h2, h3⟩ := hn
    have := path_t (ih h2) (path_e (hs i m e h1) (path_0 ed i))
    rw [h3, show e + c' = c' + (e + 0) by omega]
    exact this
theorem walk_le {ed : Nat → Nat → Nat → Prop} (he : ∀ i j e, ed i j e → j < 12 ∧ e ≤ 99) : ∀ n i j c, walkN ed n i j c → c ≤ 99 * n
  | 0, _, _, _, h => by
    rw [h.2]
    omega
  | n + 1, i, j, c, h => by
    obtain ⟨m, e, c', h1, h2, h3⟩ := h
    have := walk_le he n m j c' h2
    have := (he i m e h1).2
    omega
noncomputable def ch (p : Prop) : Nat := @ite _ p (Classical.propDecidable p) 1 0
theorem ch_t {p : Prop} (h : p) : ch p = 1 := @if_pos p (Classical.propDecidable p) h _ _ _
theorem ch_f {p : Prop} (h : ¬ p) : ch p = 0 := @if_neg p (Classical.propDecidable p) h _ _ _
theorem ch_mono {p q : Prop} (h : p → q) : ch p ≤ ch q := by
  by_cases hp : p
  · rw [ch_t hp, ch_t (h hp)]
    exact Nat.le_refl _
  · rw [ch_f hp]
    exact Nat.zero_le _
theorem path_short {ed : Nat → Nat → Nat → Prop} (he : ∀ i j e, ed i j e → j < 12 ∧ e ≤ 99) {i j c : Nat} (hi : i < 12) (h : path ed i j c) : ∃ c', c' ≤ 1188 ∧ path ed i j c' := by
  let P : Nat → Nat → Prop := fun k i => ∃ n, n ≤ k ∧ ∃ c, walkN ed n i j c
  have hmono : ∀ k i, P k i → P (k + 1) i := fun k i ⟨n, a, b⟩ => ⟨n, by omega, b⟩
  have hcl : ∃ k, k ≤ 12 ∧ ∀ i, i < 12 → P (k + 1) i → P k i := by
    refine Classical.byContradiction (fun hno => ?_)
    have hst : ∀ k, k ≤ 12 → ∃ i, i < 12 ∧ P (k + 1) i ∧ ¬ P k i := by
      intro k hk
      refine Classical.byContradiction (fun h1 => hno ⟨k, hk, fun i hi h2 => Classical.byContradiction (fun h3 => h1 ⟨i, hi, h2, h3⟩)⟩)
    have hC : ∀ k, k ≤ 13 → k ≤ sm (fun i => ch (P k i)) 12 := by
      intro k
      induction k with
      | zero => exact fun _ => Nat.zero_le _
      | succ k ih =>
        intro hk
        obtain ⟨i, i1, i2, i3⟩ := hst k (by omega)
        have := sm_lt (L := fun i => ch (P k i)) (L' := fun i => ch (P (k + 1) i)) (n := 12) (fun i _ => ch_mono (hmono k i)) ⟨i, i1, by rw [ch_t i2, ch_f i3]; exact Nat.zero_lt_one⟩
        have := ih (by omega)
        omega
    have h13 := hC 13 (Nat.le_refl _)
    have := sm_b (L := fun i => ch (P 13 i)) (n := 12) (M := 1) (fun i _ => by
      by_cases q : P 13 i
      · rw [ch_t q]
        exact Nat.le_refl _
      · rw [ch_f q]
        exact Nat.zero_le _)
    omega
  obtain ⟨k, hk, hcl⟩ := hcl
  have all : ∀ n i c, i < 12 → walkN ed n i j c → P k i := by
    intro n
    induction n with
    | zero => exact fun i c _ h => ⟨0, Nat.zero_le _, c, h⟩
    | succ n ih =>
      intro i c hi h
      obtain ⟨m, e, c', h1, h2, h3⟩ := h
      obtain ⟨n', a, c'', b⟩ := ih m c' (he i m e h1).1 h2
      exact hcl i hi ⟨n' + 1, by omega, e + c'', m, e, c'', h1, b, rfl⟩
  obtain ⟨n, hn⟩ := h
  obtain ⟨n', a, c', b⟩ := all n i c hi hn
  have := walk_le he n' i j c' b
  exact ⟨c', by omega, n', b⟩
/-- ways from stop to stop, the last one first -/
def RW (ed : Nat → Nat → Nat → Prop) : List Nat → Nat → Prop
  | [], _ => False
  | [_], c => c = 0
  | a :: b :: l, c => ∃ c1 c2, path ed b a c1 ∧ RW ed (b :: l) c2 ∧ c = c1 + c2
theorem RW.suf {ed : Nat → Nat → Nat → Prop} {A : Nat → Prop} (hA : ∃ x, A x) : ∀ l h c, RW ed (h :: l) c → (∀ x, A x → x ∈ h :: l) → ∃ a l1 c1 c2, A a ∧ RW ed (a :: l1) c1 ∧ (∀ x, A x → x ∈ a :: l1) ∧ path ed a h c2 ∧ c1 + c2 = c := by
  intro l
  induction l with
  | nil =>
    intro h c hr hc
    obtain ⟨x, hx⟩ := hA
    have : x = h := List.mem_singleton.mp (hc x hx)
    subst this
    exact ⟨x, [], c, 0, hx, hr, hc, path_0 ed x, rfl⟩
  | cons b l ih =>
    intro h c hr hc
    by_cases q : A h
    · exact ⟨h, b :: l, c, 0, q, hr, hc, path_0 ed h, rfl⟩
    · obtain ⟨c1, c2, r1, r2, r3⟩ := hr
      obtain ⟨a, l1, d1, d2, a1, a2, a3, a4, a5⟩ := ih b c2 r2 (fun x hx => by
        rcases List.mem_cons.mp (hc x hx) with e | e
        · exact absurd (e ▸ hx) q
        · exact e)
      exact ⟨a, l1, d1, d2 + c1, a1, a2, a3, path_t a4 r1, by omega⟩
/-- what a way of the table may be: the least, or I -/
def Dok (ed : Nat → Nat → Nat → Prop) (I a b x : Nat) : Prop := x ≤ I ∧ (x < I → path ed a b x) ∧ ∀ c, path ed a b c → x ≤ c
def SpT (ed : Nat → Nat → Nat → Prop) (cf : Nat → Nat) (I S z x : Nat) : Prop := x ≤ I ∧ (S.testBit z = true → (x < I → ∃ l, RW ed (cf z :: l) x ∧ ∀ i, S.testBit i = true → cf i ∈ cf z :: l) ∧ ∀ l c, RW ed (cf z :: l) c → (∀ i, S.testBit i = true → cf i ∈ cf z :: l) → x ≤ c)
def MinI (I : Nat) (A : Nat → Prop) (g : Nat → Nat) (k y : Nat) : Prop := y ≤ I ∧ (y < I → ∃ i, i < k ∧ A i ∧ y = g i) ∧ ∀ i, i < k → A i → y ≤ g i
theorem MinI.zero (I : Nat) (A : Nat → Prop) (g : Nat → Nat) : MinI I A g 0 I := ⟨Nat.le_refl _, fun h => absurd h (Nat.lt_irrefl _), fun i hi => absurd hi (Nat.not_lt_zero _)⟩
theorem MinI.skip {I : Nat} {A : Nat → Prop} {g : Nat → Nat} {k y : Nat} (h : MinI I A g k y) (hn : ¬ A k) : MinI I A g (k + 1) y := by
  refine ⟨h.1, fun q => ?_, fun i hi a => ?_⟩
  · obtain ⟨i, a, b⟩ := h.2.1 q
    exact ⟨i, by omega, b⟩
  · by_cases e : i = k
    · exact absurd (e ▸ a) hn
    · exact h.2.2 i (by omega) a
theorem MinI.keep {I : Nat} {A : Nat → Prop} {g : Nat → Nat} {k y : Nat} (h : MinI I A g k y) (hn : y ≤ g k) : MinI I A g (k + 1) y := by
  refine ⟨h.1, fun q => ?_, fun i hi a => ?_⟩
  · obtain ⟨i, a, b⟩ := h.2.1 q
    exact ⟨i, by omega, b⟩
  · by_cases e : i = k
    · rw [e]
      exact hn
    · exact h.2.2 i (by omega) a
theorem MinI.take {I : Nat} {A : Nat → Prop} {g : Nat → Nat} {k y : Nat} (h : MinI I A g k y) (ha : A k) (hn : g k < y) : MinI I A g (k + 1) (g k) := by
  have h1 := h.1
  refine ⟨by omega, fun q => ⟨k, by omega, ha, rfl⟩, fun i hi a => ?_⟩
  by_cases e : i = k
  · rw [e]
    exact Nat.le_refl _
  · have := h.2.2 i (by omega) a
    omega
theorem MinI.min {I : Nat} {A : Nat → Prop} {g : Nat → Nat} {k y : Nat} (h : MinI I A g k y) (ha : A k) : MinI I A g (k + 1) (if g k < y then g k else y) := by
  by_cases e : g k < y
  · rw [if_pos e]
    exact h.take ha e
  · rw [if_neg e]
    exact h.keep (by omega)
theorem SpT.one {ed : Nat → Nat → Nat → Prop} {cf : Nat → Nat} {I S z : Nat} (hS : ∀ i, S.testBit i = true → i = z) : SpT ed cf I S z 0 := ⟨Nat.zero_le _, fun _ => ⟨fun _ => ⟨[], rfl, fun i hi => by rw [hS i hi]; exact List.mem_singleton.mpr rfl⟩, fun _ _ _ _ => Nat.zero_le _⟩⟩
theorem SpT.out {ed : Nat → Nat → Nat → Prop} {cf : Nat → Nat} {I S z : Nat} (hS : S.testBit z = false) : SpT ed cf I S z I := ⟨Nat.le_refl _, fun h => absurd (hS.symm.trans h) (by decide)⟩
theorem SpT.step {ed : Nat → Nat → Nat → Prop} {cf : Nat → Nat} {I S A z n x : Nat} {tA Dv : Nat → Nat} (hA : ∀ i, A.testBit i = true ↔ S.testBit i = true ∧ i ≠ z) (hn : ∀ i, A.testBit i = true → i < n) (h0 : ∃ i, A.testBit i = true) (ht : ∀ i, A.testBit i = true → SpT ed cf I A i (tA i)) (hD : ∀ i, A.testBit i = true → Dok ed I (cf i) (cf z) (Dv i)) (hx : MinI I (fun i => A.testBit i = true) (fun i => tA i + Dv i) n x) : SpT ed cf I S z x := by
  obtain ⟨x1, x2, x3⟩ := hx
  refine ⟨x1, fun hz => ⟨fun q => ?_, fun l c hr hc => ?_⟩⟩
  · obtain ⟨i, i1, i2, i3⟩ := x2 q
    have i3 : x = tA i + Dv i := i3
    obtain ⟨l, l1, l2⟩ := ((ht i i2).2 i2).1 (by omega)
    have hp := (hD i i2).2.1 (by omega)
    refine ⟨cf i :: l, ⟨Dv i, tA i, hp, l1, by omega⟩, fun k hk => ?_⟩
    by_cases e : k = z
    · rw [e]
      exact List.mem_cons_self ..
    · exact List.mem_cons_of_mem _ (l2 k ((hA k).mpr ⟨hk, e⟩))
  · obtain ⟨k0, hk0⟩ := h0
    obtain ⟨a, l1, c1, c2, a1, a2, a3, a4, a5⟩ := RW.suf (A := fun x => ∃ i, A.testBit i = true ∧ cf i = x) ⟨_, k0, hk0, rfl⟩ l (cf z) c hr (fun x ⟨i, hi, e⟩ => by rw [← e]; exact hc i ((hA i).mp hi).1)
    obtain ⟨i, hi, e⟩ := a1
    subst e
    have h1 := ((ht i hi).2 hi).2 l1 c1 a2 (fun k hk => a3 _ ⟨k, hk, rfl⟩)
    have h2 := (hD i hi).2.2 c2 a4
    have h3 : x ≤ tA i + Dv i := x3 i (hn i hi) hi
    omega
/-- the least way over all stops X, or I -/
def WkT (ed : Nat → Nat → Nat → Prop) (X : Nat → Prop) (I W : Nat) : Prop := W ≤ I ∧ (W < I → ∃ l, RW ed l W ∧ ∀ x, X x → x ∈ l) ∧ ∀ l c, RW ed l c → (∀ x, X x → x ∈ l) → W ≤ c
theorem WkT.of {ed : Nat → Nat → Nat → Prop} {cf : Nat → Nat} {X : Nat → Prop} {I S n W : Nat} {t : Nat → Nat} (hX : ∀ x, X x ↔ ∃ i, i < n ∧ cf i = x) (h0 : 0 < n) (hS : ∀ i, S.testBit i = true ↔ i < n) (ht : ∀ z, z < n → SpT ed cf I S z (t z)) (hW : MinI I (fun _ => True) t n W) : WkT ed X I W := by
  obtain ⟨x1, x2, x3⟩ := hW
  refine ⟨x1, fun q => ?_, fun l c hr hc => ?_⟩
  · obtain ⟨z, z1, -, z3⟩ := x2 q
    obtain ⟨l, l1, l2⟩ := ((ht z z1).2 ((hS z).mpr z1)).1 (by omega)
    refine ⟨cf z :: l, by rw [z3]; exact l1, fun x hx => ?_⟩
    obtain ⟨i, hi, e⟩ := (hX x).mp hx
    rw [← e]
    exact l2 i ((hS i).mpr hi)
  · cases l with
    | nil => exact absurd hr id
    | cons h l =>
      obtain ⟨a, l1, c1, c2, a1, a2, a3, a4, a5⟩ := RW.suf (A := X) ⟨cf 0, (hX _).mpr ⟨0, h0, rfl⟩⟩ l h c hr hc
      obtain ⟨i, hi, e⟩ := (hX a).mp a1
      subst e
      have h1 := ((ht i hi).2 ((hS i).mpr hi)).2 l1 c1 a2 (fun k hk => a3 _ ((hX _).mpr ⟨k, (hS k).mp hk, rfl⟩))
      have h2 := x3 i hi trivial
      omega
theorem RW.all {ed : Nat → Nat → Nat → Prop} (he : ∀ i j e, ed i j e → j < 12 ∧ e ≤ 99) (hs : ∀ i j e, ed i j e → ed j i e) {cf : Nat → Nat} (hcf : ∀ i, cf i < 12) : ∀ n, (∀ i, i < n → ∃ c, path ed (cf 0) (cf i) c) → ∃ l c, RW ed (cf 0 :: l) c ∧ (∀ i, i < n → cf i ∈ cf 0 :: l) ∧ c ≤ 2376 * n
  | 0, _ => ⟨[], 0, rfl, fun i hi => absurd hi (Nat.not_lt_zero _), Nat.zero_le _⟩
  | n + 1, h => by
    obtain ⟨l, c, l1, l2, l3⟩ := RW.all he hs hcf n (fun i hi => h i (by omega))
    obtain ⟨c0, hc0⟩ := h n (by omega)
    obtain ⟨d1, e1, p1⟩ := path_short he (hcf 0) hc0
    obtain ⟨d2, e2, p2⟩ := path_short he (hcf n) (path_rev hs hc0)
    refine ⟨cf n :: cf 0 :: l, d2 + (d1 + c), ⟨d2, d1 + c, p2, ⟨d1, c, p1, l1, rfl⟩, rfl⟩, fun i hi => ?_, by omega⟩
    by_cases e : i = n
    · rw [e]
      exact List.mem_cons_of_mem _ (List.mem_cons_self ..)
    · exact List.mem_cons_of_mem _ (List.mem_cons_of_mem _ (l2 i (by omega)))
/-- from a place to another, by way of a row of stops that holds both -/
theorem RW.path {ed : Nat → Nat → Nat → Prop} (hs : ∀ i j e, ed i j e → ed j i e) : ∀ l c, RW ed l c → ∀ a b, a ∈ l → b ∈ l → ∃ c', path ed a b c'
  | [], _, h => absurd h id
  | [x], c, _ => fun a b ha hb => by
    have e1 := List.mem_singleton.mp ha
    have e2 := List.mem_singleton.mp hb
    subst e1 e2
    exact ⟨0, path_0 ed _⟩
  | x :: y :: l, c, h => by
    obtain ⟨c1, c2, h1, h2, -⟩ := h
    have ih := RW.path hs (y :: l) c2 h2
    intro a b ha hb
    have hy : y ∈ y :: l := List.mem_cons_self ..
    rcases List.mem_cons.mp ha with e | e
    · rcases List.mem_cons.mp hb with e' | e'
      · subst e e'
        exact ⟨0, path_0 ed _⟩
      · subst e
        obtain ⟨c', p⟩ := ih y b hy e'
        exact ⟨_, path_t (path_rev hs h1) p⟩
    · rcases List.mem_cons.mp hb with e' | e'
      · subst e'
        obtain ⟨c', p⟩ := ih a y e hy
        exact ⟨_, path_t p h1⟩
      · exact ih a b e e'

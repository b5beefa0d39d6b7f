/-! readings as sums: least cost, how many, least first word -/
abbrev Vl := Option (Nat × Nat × Nat)
def vadd : Vl → Vl → Vl
  | none, y => y
  | some x, none => some x
  | some (a, m, p), some (b, n, q) => if a < b then some (a, m, p) else if b < a then some (b, n, q) else some (a, m + n, min p q)
theorem vadd_n (x : Vl) : vadd x none = x := by cases x <;> rfl
theorem n_vadd (x : Vl) : vadd none x = x := rfl
theorem vadd_s (a m p b n q : Nat) : vadd (some (a, m, p)) (some (b, n, q)) = if a < b then some (a, m, p) else if b < a then some (b, n, q) else some (a, m + n, min p q) := rfl
theorem vadd_lt {a m p b n q : Nat} (h : a < b) : vadd (some (a, m, p)) (some (b, n, q)) = some (a, m, p) := by rw [vadd_s, if_pos h]
theorem vadd_gt {a m p b n q : Nat} (h : b < a) : vadd (some (a, m, p)) (some (b, n, q)) = some (b, n, q) := by rw [vadd_s, if_neg (by omega), if_pos h]
theorem vadd_eq {a m p n q : Nat} : vadd (some (a, m, p)) (some (a, n, q)) = some (a, m + n, min p q) := by rw [vadd_s, if_neg (by omega), if_neg (by omega)]
theorem vadd_comm (x y : Vl) : vadd x y = vadd y x := by
  match x, y with
  | none, none => rfl
  | none, some _ => rfl
  | some _, none => rfl
  | some (a, m, p), some (b, n, q) =>
    rcases Nat.lt_trichotomy a b with h | h | h
    · rw [vadd_lt h, vadd_gt h]
    · subst h
      rw [vadd_eq, vadd_eq, Nat.add_comm, Nat.min_comm]
    · rw [vadd_lt h, vadd_gt h]
theorem vadd_assoc (x y z : Vl) : vadd (vadd x y) z = vadd x (vadd y z) := by
  match x, y, z with
  | none, y, z => rfl
  | some x, none, z => rw [vadd_n, n_vadd]
  | some x, some y, none => rw [vadd_n, vadd_n]
  | some (a, m, p), some (b, n, q), some (c, o, r) =>
    rcases Nat.lt_trichotomy a b with h | h | h <;> rcases Nat.lt_trichotomy b c with g | g | g
    · rw [vadd_lt h, vadd_lt g, vadd_lt h, vadd_lt (by omega)]
    · subst g
      rw [vadd_lt h, vadd_eq, vadd_lt h, vadd_lt h]
    · rw [vadd_lt h, vadd_gt g]
    · subst h
      rw [vadd_eq, vadd_lt g, vadd_lt g, vadd_eq]
    · subst h g
      rw [vadd_eq, vadd_eq, vadd_eq, vadd_eq, Nat.add_assoc, Nat.min_assoc]
    · subst h
      rw [vadd_eq, vadd_gt g, vadd_gt g, vadd_gt g]
    · rw [vadd_gt h, vadd_lt g, vadd_gt h]
    · subst g
      rw [vadd_gt h, vadd_eq, vadd_gt h]
    · rw [vadd_gt h, vadd_gt g, vadd_gt (by omega)]
def vS (f : Nat → Vl) : Nat → Vl
  | 0 => none
  | n + 1 => vadd (vS f n) (f n)
theorem vS_s (f : Nat → Vl) (n : Nat) : vS f (n + 1) = vadd (vS f n) (f n) := rfl
theorem vS_congr {f g : Nat → Vl} {n : Nat} (h : ∀ i, i < n → f i = g i) : vS f n = vS g n := by
  induction n with
  | zero => rfl
  | succ n ih => rw [vS_s, vS_s, ih (fun i hi => h i (by omega)), h n (by omega)]
theorem vS_none {f : Nat → Vl} {n : Nat} (h : ∀ i, i < n → f i = none) : vS f n = none := by
  induction n with
  | zero => rfl
  | succ n ih => rw [vS_s, ih (fun i hi => h i (by omega)), h n (by omega)]; rfl
theorem vadd4 (a b c e : Vl) : vadd (vadd a b) (vadd c e) = vadd (vadd a c) (vadd b e) := by
  rw [vadd_assoc, ← vadd_assoc b, vadd_comm b c, vadd_assoc c, ← vadd_assoc]
theorem vS_add (f g : Nat → Vl) (n : Nat) : vS (fun i => vadd (f i) (g i)) n = vadd (vS f n) (vS g n) := by
  induction n with
  | zero => rfl
  | succ n ih => rw [vS_s, vS_s, vS_s, ih, vadd4]
theorem vS_comm (f : Nat → Nat → Vl) (n m : Nat) : vS (fun i => vS (fun j => f i j) m) n = vS (fun j => vS (fun i => f i j) n) m := by
  induction n with
  | zero => exact (vS_none (fun _ _ => rfl)).symm
  | succ n ih =>
    rw [vS_s, ih, ← vS_add]
    rfl
theorem vS_one {n a : Nat} {x : Vl} (h : a < n) : vS (fun i => if i = a then x else none) n = x := by
  induction n with
  | zero => omega
  | succ n ih =>
    rw [vS_s]
    by_cases e : n = a
    · rw [if_pos e, vS_none (fun i hi => if_neg (by omega)), n_vadd]
    · rw [if_neg e, vadd_n, ih (by omega)]
def lsum : List Vl → Vl
  | [] => none
  | x :: l => vadd x (lsum l)
theorem lsum_perm {l l' : List Vl} (h : l.Perm l') : lsum l = lsum l' := by
  induction h with
  | nil => rfl
  | cons x _ ih => show vadd x _ = vadd x _; rw [ih]
  | swap x y l => show vadd y (vadd x _) = vadd x (vadd y _); rw [← vadd_assoc, ← vadd_assoc, vadd_comm y x]
  | trans _ _ h1 h2 => rw [h1, h2]
def tag (w : Nat) : Option Nat → Vl → Vl
  | some c, some (b, n, _) => some (c + b, n, w)
  | some _, none => none
  | none, _ => none
theorem tag_n (w : Nat) (c : Option Nat) : tag w c none = none := by cases c <;> rfl
theorem tag_add (w : Nat) (c : Option Nat) (x y : Vl) : tag w c (vadd x y) = vadd (tag w c x) (tag w c y) := by
  match c, x, y with
  | none, _, _ => rfl
  | some c, none, _ => rfl
  | some c, some x, none => rw [vadd_n, tag_n, vadd_n]
  | some c, some (a, m, p), some (b, n, q) =>
    show _ = vadd (some (c + a, m, w)) (some (c + b, n, w))
    rcases Nat.lt_trichotomy a b with h | h | h
    · rw [vadd_lt h, vadd_lt (by omega)]
      rfl
    · subst h
      rw [vadd_eq, vadd_eq, Nat.min_self]
      rfl
    · rw [vadd_gt h, vadd_gt (by omega)]
      rfl
def vmul : Vl → Vl → Vl
  | some (a, m, w), some (b, n, _) => some (a + b, m * n, w)
  | some _, none => none
  | none, _ => none
theorem vmul_n (x : Vl) : vmul x none = none := by cases x <;> rfl
theorem vmul_add (x y z : Vl) : vmul (vadd x y) z = vadd (vmul x z) (vmul y z) := by
  match x, y, z with
  | none, _, _ => rfl
  | some x, none, z => rw [vadd_n]; exact (vadd_n _).symm
  | some x, some y, none => rw [vmul_n, vmul_n, vmul_n]; rfl
  | some (a, m, p), some (b, n, q), some (c, o, r) =>
    show _ = vadd (some (a + c, m * o, p)) (some (b + c, n * o, q))
    rcases Nat.lt_trichotomy a b with h | h | h
    · rw [vadd_lt h, vadd_lt (by omega)]
      rfl
    · subst h
      rw [vadd_eq, vadd_eq, ← Nat.add_mul]
      rfl
    · rw [vadd_gt h, vadd_gt (by omega)]
      rfl
theorem vmul_vS (f : Nat → Vl) (z : Vl) (n : Nat) : vmul (vS f n) z = vS (fun i => vmul (f i) z) n := by
  induction n with
  | zero => rfl
  | succ n ih => rw [vS_s, vS_s, vmul_add, ih]
def vone (w : Nat) : Option Nat → Vl
  | some c => some (c, 1, w)
  | none => none
theorem vmul_one (w : Nat) (c : Option Nat) (z : Vl) : vmul (vone w c) z = tag w c z := by
  match c, z with
  | none, _ => rfl
  | some c, none => rfl
  | some c, some (b, n, q) => show some (c + b, 1 * n, w) = _; rw [Nat.one_mul]; rfl
/-- places, words, lengths, sorts, cost of a word at a place -/
abbrev Cx := Nat × Nat × (Nat → Nat) × (Nat → Nat) × (Nat → Nat → Option Nat)
def cN (G : Cx) : Nat := G.1
def cW (G : Cx) : Nat := G.2.1
def cl (G : Cx) : Nat → Nat := G.2.2.1
def cs (G : Cx) : Nat → Nat := G.2.2.2.1
def cc (G : Cx) : Nat → Nat → Option Nat := G.2.2.2.2
def vt (G : Cx) : List Nat → Nat → Vl
  | [], k => if k = cN G then some (0, 1, 0) else none
  | s :: t, k => if k < cN G then vS (fun w => if cs G w = s then tag w (cc G w k) (vt G t (k + cl G w)) else none) (cW G) else none
theorem vt_0 (G : Cx) (k : Nat) : vt G [] k = if k = cN G then some (0, 1, 0) else none := rfl
theorem vt_s (G : Cx) (s : Nat) (t : List Nat) (k : Nat) : vt G (s :: t) k = if k < cN G then vS (fun w => if cs G w = s then tag w (cc G w k) (vt G t (k + cl G w)) else none) (cW G) else none := rfl
/-- what may follow behind a sort -/
def der (s : Nat) : List (List Nat) → List (List Nat)
  | [] => []
  | [] :: L => der s L
  | (a :: t) :: L => if a = s then t :: der s L else der s L
theorem der_m {s : Nat} {L : List (List Nat)} {t : List Nat} : t ∈ der s L ↔ s :: t ∈ L := by
  induction L with
  | nil => exact ⟨fun h => (nomatch h), fun h => (nomatch h)⟩
  | cons x L ih =>
    cases x with
    | nil =>
      show t ∈ der s L ↔ _
      rw [ih, List.mem_cons]
      exact ⟨Or.inr, fun h => h.elim (fun h => (nomatch h)) id⟩
    | cons a u =>
      show t ∈ (if a = s then u :: der s L else der s L) ↔ _
      rw [List.mem_cons]
      split
      · rename_i e
        subst e
        rw [List.mem_cons, ih, List.cons.injEq]
        exact ⟨fun h => h.elim (fun h => Or.inl ⟨rfl, h⟩) Or.inr, fun h => h.elim (fun h => Or.inl h.2) Or.inr⟩
      · rename_i e
        rw [ih, List.cons.injEq]
        exact ⟨Or.inr, fun h => h.elim (fun h => absurd h.1.symm e) id⟩
theorem der_perm {s : Nat} {L L' : List (List Nat)} (h : L.Perm L') : (der s L).Perm (der s L') := by
  induction h with
  | nil => exact List.Perm.refl _
  | cons x _ ih =>
    cases x with
    | nil => exact ih
    | cons a u =>
      show (if a = s then u :: der s _ else der s _).Perm (if a = s then u :: der s _ else der s _)
      split
      · exact List.Perm.cons _ ih
      · exact ih
  | swap x y l =>
    cases x with
    | nil => cases y <;> exact List.Perm.refl _
    | cons a u =>
      cases y with
      | nil => exact List.Perm.refl _
      | cons b w =>
        show (if b = s then w :: (if a = s then u :: der s l else der s l) else (if a = s then u :: der s l else der s l)).Perm (if a = s then u :: (if b = s then w :: der s l else der s l) else (if b = s then w :: der s l else der s l))
        by_cases h1 : b = s <;> by_cases h2 : a = s
        · rw [if_pos h1, if_pos h2, if_pos h2, if_pos h1]
          exact List.Perm.swap _ _ _
        · rw [if_pos h1, if_neg h2, if_neg h2, if_pos h1]
        · rw [if_neg h1, if_pos h2, if_pos h2, if_neg h1]
        · rw [if_neg h1, if_neg h2, if_neg h2, if_neg h1]
  | trans _ _ h1 h2 => exact h1.trans h2
theorem der_nd {s : Nat} {L : List (List Nat)} (h : L.Nodup) : (der s L).Nodup := by
  induction L with
  | nil => exact List.nodup_nil
  | cons x L ih =>
    rw [List.nodup_cons] at h
    cases x with
    | nil => exact ih h.2
    | cons a u =>
      show (if a = s then u :: der s L else der s L).Nodup
      split
      · rename_i e
        rw [List.nodup_cons, der_m, ← e]
        exact ⟨h.1, e ▸ ih h.2⟩
      · exact ih h.2
def UL (G : Cx) (L : List (List Nat)) (k : Nat) : Vl := lsum (L.map (fun t => vt G t k))
theorem UL_perm (G : Cx) {L L' : List (List Nat)} (h : L.Perm L') (k : Nat) : UL G L k = UL G L' k := lsum_perm (h.map _)
theorem UL_cons (G : Cx) (t : List Nat) (L : List (List Nat)) (k : Nat) : UL G (t :: L) k = vadd (vt G t k) (UL G L k) := rfl
theorem UL_rec {G : Cx} {k : Nat} (hk : k < cN G) (L : List (List Nat)) : UL G L k = vS (fun w => tag w (cc G w k) (UL G (der (cs G w) L) (k + cl G w))) (cW G) := by
  induction L with
  | nil => exact (vS_none (fun i _ => tag_n _ _)).symm
  | cons x L ih =>
    rw [UL_cons]
    cases x with
    | nil =>
      rw [vt_0, if_neg (by omega), n_vadd, ih]
      rfl
    | cons a u =>
      rw [vt_s, if_pos hk, ih, ← vS_add]
      apply vS_congr
      intro w _
      show _ = tag w (cc G w k) (UL G (if a = cs G w then u :: der (cs G w) L else der (cs G w) L) (k + cl G w))
      by_cases e : cs G w = a
      · rw [if_pos e, if_pos e.symm, UL_cons, tag_add]
      · rw [if_neg e, if_neg (fun h => e h.symm), n_vadd]
theorem UL_end {G : Cx} {L : List (List Nat)} (h : L.Nodup) : UL G L (cN G) = if [] ∈ L then some (0, 1, 0) else none := by
  induction L with
  | nil => rfl
  | cons x L ih =>
    rw [List.nodup_cons] at h
    rw [UL_cons, ih h.2]
    cases x with
    | nil => rw [vt_0, if_pos rfl, if_neg h.1, vadd_n, if_pos (List.mem_cons_self ..)]
    | cons a u =>
      rw [vt_s, if_neg (by omega), n_vadd]
      by_cases e : [] ∈ L
      · rw [if_pos e, if_pos (List.mem_cons_of_mem _ e)]
      · rw [if_neg e, if_neg]
        intro g
        rw [List.mem_cons] at g
        exact g.elim (fun g => (nomatch g)) e
def FV (G : Cx) (s n k : Nat) : Vl := vS (fun w => if cs G w = s ∧ cl G w = n then vone w (cc G w k) else none) (cW G)
theorem UL_cls {G : Cx} {k : Nat} (hk : k < cN G) (hw : ∀ w, w < cW G → cs G w < 5 ∧ 1 ≤ cl G w ∧ cl G w ≤ 10) (L : List (List Nat)) : UL G L k = vS (fun s => vS (fun j => vmul (FV G s (j + 1) k) (UL G (der s L) (k + (j + 1)))) 10) 5 := by
  rw [UL_rec hk]
  have e1 : ∀ s j, vmul (FV G s (j + 1) k) (UL G (der s L) (k + (j + 1))) = vS (fun w => if cs G w = s ∧ cl G w = j + 1 then tag w (cc G w k) (UL G (der s L) (k + (j + 1))) else none) (cW G) := by
    intro s j
    unfold FV
    rw [vmul_vS]
    apply vS_congr
    intro w _
    split
    · rw [vmul_one]
    · rfl
  have e2 : (fun s => vS (fun j => vmul (FV G s (j + 1) k) (UL G (der s L) (k + (j + 1)))) 10) = fun s => vS (fun w => vS (fun j => if cs G w = s ∧ cl G w = j + 1 then tag w (cc G w k) (UL G (der s L) (k + (j + 1))) else none) 10) (cW G) := by
    funext s
    rw [← vS_comm]
    exact vS_congr (fun j _ => e1 s j)
  rw [e2, vS_comm]
  apply vS_congr
  intro w hw'
  obtain ⟨h1, h2, h3⟩ := hw w hw'
  have e3 : ∀ s, vS (fun j => if cs G w = s ∧ cl G w = j + 1 then tag w (cc G w k) (UL G (der s L) (k + (j + 1))) else none) 10 = if s = cs G w then tag w (cc G w k) (UL G (der (cs G w) L) (k + cl G w)) else none := by
    intro s
    by_cases e : s = cs G w
    · subst e
      rw [if_pos rfl, ← vS_one (n := 10) (a := cl G w - 1) (x := tag w (cc G w k) (UL G (der (cs G w) L) (k + cl G w))) (by omega)]
      apply vS_congr
      intro j _
      by_cases e : j = cl G w - 1
      · rw [if_pos e, if_pos ⟨rfl, by omega⟩, show j + 1 = cl G w by omega]
      · rw [if_neg e, if_neg (by omega)]
    · rw [if_neg e, vS_none]
      intro j _
      rw [if_neg (fun g => e g.1.symm)]
  rw [← vS_one (n := 5) (x := tag w (cc G w k) (UL G (der (cs G w) L) (k + cl G w))) h1]
  exact vS_congr (fun s _ => (e3 s).symm)
/-- of a sum whose parts bear their own number: which part is the pick -/
theorem vS_pick {f : Nat → Vl} {n : Nat} (h : ∀ i, i < n → ∀ c m p, f i = some (c, m, p) → p = i) : ∀ c m p, vS f n = some (c, m, p) → p < n ∧ (∃ m', f p = some (c, m', p)) ∧ ∀ i, i < n → ∀ c' m' p', f i = some (c', m', p') → c ≤ c' ∧ (c' = c → p ≤ i) := by
  induction n with
  | zero => intro c m p e; cases e
  | succ n ih =>
    intro c m p e
    have ih := ih (fun i hi => h i (by omega))
    rw [vS_s] at e
    cases e1 : vS f n with
    | none =>
      rw [e1, n_vadd] at e
      have hp := h n (by omega) c m p e
      subst hp
      refine ⟨by omega, ⟨m, e⟩, fun i hi c' m' p' e' => ?_⟩
      by_cases hin : i = p
      · subst hin
        rw [e] at e'
        cases e'
        exact ⟨Nat.le_refl _, fun _ => Nat.le_refl _⟩
      · exfalso
        have hn : ∀ k, k ≤ p → vS f k = none := by
          intro k hk
          by_cases hk2 : k = p
          · rw [hk2, e1]
          · have : ∀ r, r + k = p → vS f k = none := by
              intro r
              induction r generalizing k with
              | zero => intro h0; rw [show k = p by omega, e1]
              | succ r ihr =>
                intro h0
                have e3 : vS f (k + 1) = none := by
                  by_cases hk3 : k + 1 = p
                  · rw [hk3, e1]
                  · exact ihr (k + 1) (by omega) (by omega) (by omega)
                rw [vS_s] at e3
                cases e4 : vS f k with
                | none => rfl
                | some x =>
                  rw [e4] at e3
                  cases e5 : f k with
                  | none => rw [e5, vadd_n] at e3; cases e3
                  | some y =>
                    rw [e5] at e3
                    obtain ⟨a1, a2, a3⟩ := x
                    obtain ⟨b1, b2, b3⟩ := y
                    rw [vadd_s] at e3
                    split at e3
                    · cases e3
                    · split at e3 <;> cases e3
            exact this (p - k) (by omega)
        have e3 := hn (i + 1) (by omega)
        rw [vS_s, hn i (by omega), n_vadd, e'] at e3
        cases e3
    | some x =>
      obtain ⟨a, ma, pa⟩ := x
      rw [e1] at e
      obtain ⟨i1, ⟨m1, i2⟩, i3⟩ := ih a ma pa e1
      cases e2 : f n with
      | none =>
        rw [e2, vadd_n] at e
        cases e
        refine ⟨by omega, ⟨m1, i2⟩, fun i hi c' m' p' e' => ?_⟩
        by_cases hin : i = n
        · subst hin
          rw [e2] at e'
          cases e'
        · exact i3 i (by omega) c' m' p' e'
      | some y =>
        obtain ⟨b, mb, pb⟩ := y
        have hpb := h n (by omega) b mb pb e2
        subst hpb
        rw [e2, vadd_s] at e
        split at e
        · cases e
          refine ⟨by omega, ⟨m1, i2⟩, fun i hi c' m' p' e' => ?_⟩
          by_cases hin : i = pb
          · subst hin
            rw [e2] at e'
            cases e'
            omega
          · exact i3 i (by omega) c' m' p' e'
        · split at e
          · simp only [Option.some.injEq, Prod.mk.injEq] at e
            obtain ⟨rfl, rfl, rfl⟩ := e
            refine ⟨by omega, ⟨mb, e2⟩, fun i hi c' m' p' e' => ?_⟩
            by_cases hin : i = pb
            · subst hin
              rw [e2] at e'
              cases e'
              omega
            · have := i3 i (by omega) c' m' p' e'
              omega
          · simp only [Option.some.injEq, Prod.mk.injEq] at e
            obtain ⟨rfl, rfl, rfl⟩ := e
            have hab : b = a := by omega
            subst hab
            have hm : min pa pb = pa := by omega
            rw [hm]
            refine ⟨by omega, ⟨m1, i2⟩, fun i hi c' m' p' e' => ?_⟩
            by_cases hin : i = pb
            · subst hin
              rw [e2] at e'
              cases e'
              omega
            · exact i3 i (by omega) c' m' p' e'
theorem tag_p {w : Nat} {c : Option Nat} {x : Vl} {a m p : Nat} (h : tag w c x = some (a, m, p)) : p = w ∧ ∃ c' b q, c = some c' ∧ x = some (b, m, q) ∧ a = c' + b := by
  match c, x with
  | none, _ => cases h
  | some c, none => cases h
  | some c, some (b, n, q) =>
    cases h
    exact ⟨rfl, c, b, q, rfl, rfl, rfl⟩
/-- the first word of the best -/
theorem UL_pick {G : Cx} {k : Nat} (hk : k < cN G) {L : List (List Nat)} {c n p : Nat} (h : UL G L k = some (c, n, p)) : p < cW G ∧ ∃ cw b m q, cc G p k = some cw ∧ UL G (der (cs G p) L) (k + cl G p) = some (b, m, q) ∧ c = cw + b := by
  rw [UL_rec hk] at h
  obtain ⟨h1, ⟨m', h2⟩, _⟩ := vS_pick (fun i _ c m p e => (tag_p e).1) c n p h
  obtain ⟨_, c', b, q, e1, e2, e3⟩ := tag_p h2
  exact ⟨h1, c', b, m', q, e1, e2, e3⟩
/-- it is the least word that goes on -/
theorem UL_pick2 {G : Cx} {k : Nat} (hk : k < cN G) {L : List (List Nat)} {c n p : Nat} (h : UL G L k = some (c, n, p)) : ∀ w, w < cW G → ∀ cw b m q, cc G w k = some cw → UL G (der (cs G w) L) (k + cl G w) = some (b, m, q) → c ≤ cw + b ∧ (cw + b = c → p ≤ w) := by
  rw [UL_rec hk] at h
  obtain ⟨_, _, h3⟩ := vS_pick (fun i _ c m p e => (tag_p e).1) c n p h
  intro w hw cw b m q e1 e2
  exact h3 w hw (cw + b) m w (by rw [e1, e2]; rfl)

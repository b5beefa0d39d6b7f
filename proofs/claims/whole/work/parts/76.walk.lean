/-! the reference: the best reading -/
def ders : List Nat → List (List Nat) → List (List Nat)
  | [], L => L
  | z :: zs, L => ders zs (der z L)
theorem ders_m (zs : List Nat) : ∀ {L : List (List Nat)} {t : List Nat}, t ∈ ders zs L ↔ zs ++ t ∈ L := by
  induction zs with
  | nil => exact fun {L t} => Iff.rfl
  | cons z zs ih =>
    intro L t
    show t ∈ ders zs (der z L) ↔ _
    rw [ih, der_m]
    rfl
theorem ders_s (zs : List Nat) (z : Nat) : ∀ L, ders (zs ++ [z]) L = der z (ders zs L) := by
  induction zs with
  | nil => exact fun L => rfl
  | cons y zs ih => exact fun L => ih (der y L)
def mrows (v : xV) (R : Nat) : List (List Nat) := (List.range R).map (rw1 v)
theorem lsum_app (a b : List Vl) : lsum (a ++ b) = vadd (lsum a) (lsum b) := by
  induction a with
  | nil => rfl
  | cons x a ih =>
    show vadd x (lsum (a ++ b)) = vadd (vadd x (lsum a)) (lsum b)
    rw [ih, vadd_assoc]
theorem lsum_range (f : Nat → Vl) (n : Nat) : lsum ((List.range n).map f) = vS f n := by
  induction n with
  | zero => rfl
  | succ n ih =>
    rw [List.range_succ, List.map_append, lsum_app, ih, vS_s]
    show vadd _ (vadd (f n) none) = _
    rw [vadd_n]
theorem UL_range (v : xV) (G : Cx) (R k : Nat) : UL G (mrows v R) k = vS (fun r => vt G (rw1 v r) k) R := by
  unfold UL mrows
  rw [List.map_map]
  exact lsum_range _ _
theorem UL_mem {G : Cx} {k : Nat} : ∀ {L : List (List Nat)} {c n p : Nat}, UL G L k = some (c, n, p) → ∃ t, t ∈ L ∧ ∃ n' p', vt G t k = some (c, n', p') := by
  intro L
  induction L with
  | nil =>
    intro c n p h
    cases h
  | cons x L ih =>
    intro c n p h
    rw [UL_cons] at h
    match e1 : vt G x k, e2 : UL G L k with
    | none, _ =>
      rw [e1, n_vadd] at h
      obtain ⟨t, ht, q⟩ := ih h
      exact ⟨t, List.mem_cons_of_mem _ ht, q⟩
    | some (a, ma, pa), none =>
      rw [e1, e2, vadd_n] at h
      simp only [Option.some.injEq, Prod.mk.injEq] at h
      exact ⟨x, List.mem_cons_self .., ma, pa, by rw [e1, h.1]⟩
    | some (a, ma, pa), some (b, mb, pb) =>
      obtain ⟨t, ht, q⟩ := ih e2
      rw [e1, e2, vadd_s] at h
      split at h
      · simp only [Option.some.injEq, Prod.mk.injEq] at h
        exact ⟨x, List.mem_cons_self .., ma, pa, by rw [e1, h.1]⟩
      · split at h
        · simp only [Option.some.injEq, Prod.mk.injEq] at h
          rw [h.1] at q
          exact ⟨t, List.mem_cons_of_mem _ ht, q⟩
        · simp only [Option.some.injEq, Prod.mk.injEq] at h
          exact ⟨x, List.mem_cons_self .., ma, pa, by rw [e1, h.1]⟩
theorem UL_min {G : Cx} {k : Nat} : ∀ {L : List (List Nat)} {t : List Nat} {c n p : Nat}, t ∈ L → vt G t k = some (c, n, p) → ∃ c' n' p', UL G L k = some (c', n', p') ∧ c' ≤ c := by
  intro L
  induction L with
  | nil =>
    intro t c n p h
    cases h
  | cons x L ih =>
    intro t c n p h e
    rw [UL_cons]
    rw [List.mem_cons] at h
    rcases h with h | h
    · subst h
      match e2 : UL G L k with
      | none => exact ⟨c, n, p, by rw [e, vadd_n], Nat.le_refl _⟩
      | some (b, mb, pb) =>
        rcases Nat.lt_trichotomy c b with z | z | z
        · exact ⟨c, n, p, by rw [e, vadd_lt z], Nat.le_refl _⟩
        · subst z
          exact ⟨c, _, _, by rw [e, vadd_eq], Nat.le_refl _⟩
        · exact ⟨b, mb, pb, by rw [e, vadd_gt z], by omega⟩
    · obtain ⟨b, mb, pb, e2, hb⟩ := ih h e
      rw [e2]
      match e1 : vt G x k with
      | none => exact ⟨b, mb, pb, rfl, hb⟩
      | some (a, ma, pa) =>
        rcases Nat.lt_trichotomy a b with z | z | z
        · exact ⟨a, ma, pa, by rw [vadd_lt z], by omega⟩
        · subst z
          exact ⟨a, _, _, by rw [vadd_eq], hb⟩
        · exact ⟨b, mb, pb, by rw [vadd_gt z], hb⟩
theorem vS_min {f : Nat → Vl} {n i c m p : Nat} (hi : i < n) (e : f i = some (c, m, p)) : ∃ c' n' p', vS f n = some (c', n', p') ∧ c' ≤ c := by
  induction n with
  | zero => omega
  | succ n ih =>
    rw [vS_s]
    by_cases h : i = n
    · subst h
      match e2 : vS f i with
      | none => exact ⟨c, m, p, by rw [e]; rfl, Nat.le_refl _⟩
      | some (b, mb, pb) =>
        rcases Nat.lt_trichotomy b c with z | z | z
        · exact ⟨b, mb, pb, by rw [e, vadd_lt z], by omega⟩
        · subst z
          exact ⟨b, _, _, by rw [e, vadd_eq], Nat.le_refl _⟩
        · exact ⟨c, m, p, by rw [e, vadd_gt z], Nat.le_refl _⟩
    · obtain ⟨b, mb, pb, e2, hb⟩ := ih (by omega)
      rw [e2]
      match e1 : f n with
      | none => exact ⟨b, mb, pb, by rw [vadd_n], hb⟩
      | some (a, ma, pa) =>
        rcases Nat.lt_trichotomy b a with z | z | z
        · exact ⟨b, mb, pb, by rw [vadd_lt z], hb⟩
        · subst z
          exact ⟨b, _, _, by rw [vadd_eq], hb⟩
        · exact ⟨a, ma, pa, by rw [vadd_gt z], by omega⟩
def isByP (v : xV) (G : Cx) (r w i k left : Nat) : Prop := (rw1 v r)[i]? = some (cs G w) ∧ ∃ cw b, cc G w k = some cw ∧ vc (vt G ((rw1 v r).drop (i + 1)) (k + cl G w)) = some b ∧ cw + b = left
def lfP (v : xV) (G : Cx) (pre : List Nat) (r k left : Nat) : Prop := ∃ t, rw1 v r = pre.map (cs G) ++ t ∧ vc (vt G t k) = some left
theorem vc_some {x : Vl} {c : Nat} (h : vc x = some c) : ∃ n p, x = some (c, n, p) := by
  match x with
  | none => cases h
  | some (a, n, p) =>
    have h : some a = some c := h
    rw [Option.some.injEq] at h
    exact ⟨n, p, by rw [h]⟩
/-- a row that goes on by w is among those left -/
theorem row_on {v : xV} {G : Cx} {R k left n p w cw b : Nat} {pre t' : List Nat} (hk : k < cN G) (hU : UL G (ders (pre.map (cs G)) (mrows v R)) k = some (left, n, p)) (hw : w < cW G) (hm : cs G w :: t' ∈ ders (pre.map (cs G)) (mrows v R)) (e1 : cc G w k = some cw) (e2 : vc (vt G t' (k + cl G w)) = some b) (e3 : cw + b = left) : vc (vt G (cs G w :: t') k) = some left := by
  obtain ⟨bn, bp, e2⟩ := vc_some e2
  have hv : ∃ c' n' p', vt G (cs G w :: t') k = some (c', n', p') ∧ c' ≤ cw + b := by
    rw [vt_s, if_pos hk]
    refine vS_min hw (m := bn) (p := w) ?_
    rw [if_pos rfl, e1, e2]
    rfl
  obtain ⟨c', n', p', e4, h4⟩ := hv
  obtain ⟨c'', n'', p'', e5, h5⟩ := UL_min hm e4
  rw [hU] at e5
  simp only [Option.some.injEq, Prod.mk.injEq] at e5
  rw [e4]
  show some c' = some left
  rw [show c' = left by omega]
theorem mem_mrows {v : xV} {R : Nat} {t : List Nat} : t ∈ mrows v R ↔ ∃ r, r < R ∧ rw1 v r = t := by
  unfold mrows
  rw [List.mem_map]
  constructor
  · rintro ⟨r, h1, h2⟩
    exact ⟨r, List.mem_range.mp h1, h2⟩
  · rintro ⟨r, h1, h2⟩
    exact ⟨r, List.mem_range.mpr h1, h2⟩
theorem goes_iff {v : xV} {G : Cx} {R k left n p w : Nat} {pre : List Nat} (hk : k < cN G) (hU : UL G (ders (pre.map (cs G)) (mrows v R)) k = some (left, n, p)) (hw : w < cW G) : (∃ r, r < R ∧ lfP v G pre r k left ∧ isByP v G r w pre.length k left) ↔ ∃ cw b m q, cc G w k = some cw ∧ UL G (der (cs G w) (ders (pre.map (cs G)) (mrows v R))) (k + cl G w) = some (b, m, q) ∧ cw + b = left := by
  have hlen : (pre.map (cs G)).length = pre.length := List.length_map ..
  constructor
  · rintro ⟨r, hr, ⟨t, e1, e2⟩, e3, cw, b, e4, e5, e6⟩
    rw [e1, List.getElem?_append_right (by omega), hlen, Nat.sub_self] at e3
    cases t with
    | nil => cases e3
    | cons a t' =>
      have e3 : some a = some (cs G w) := e3
      rw [Option.some.injEq] at e3
      subst e3
      have ed : (rw1 v r).drop (pre.length + 1) = t' := by
        rw [e1, ← hlen, ← List.drop_drop, List.drop_append_of_le_length (Nat.le_refl _), List.drop_length]
        rfl
      rw [ed] at e5
      have hm : t' ∈ der (cs G w) (ders (pre.map (cs G)) (mrows v R)) := by
        rw [der_m, ders_m, mem_mrows]
        exact ⟨r, hr, e1⟩
      obtain ⟨bn, bp, e5⟩ := vc_some e5
      obtain ⟨b', m', q', e7, h7⟩ := UL_min hm e5
      have := (UL_pick2 hk hU w hw cw b' m' q' e4 e7).1
      exact ⟨cw, b', m', q', e4, e7, by omega⟩
  · rintro ⟨cw, b, m, q, e1, e2, e3⟩
    obtain ⟨t', hm, n', p', e4⟩ := UL_mem e2
    have hm2 := der_m.mp hm
    obtain ⟨r, hr, e5⟩ := mem_mrows.mp ((ders_m _).mp hm2)
    have e4' : vc (vt G t' (k + cl G w)) = some b := by rw [e4]; rfl
    refine ⟨r, hr, ⟨cs G w :: t', e5, row_on hk hU hw hm2 e1 e4' e3⟩, ?_, cw, b, e1, ?_, e3⟩
    · rw [e5, List.getElem?_append_right (by omega), hlen, Nat.sub_self]
      rfl
    · rw [e5, ← hlen, ← List.drop_drop, List.drop_append_of_le_length (Nat.le_refl _), List.drop_length]
      exact e4'
theorem left_iff {v : xV} {G : Cx} {R k left n p w cw b r : Nat} {pre : List Nat} (hk : k < cN G) (hU : UL G (ders (pre.map (cs G)) (mrows v R)) k = some (left, n, p)) (hw : w < cW G) (hr : r < R) (e1 : cc G w k = some cw) (e3 : cw + b = left) : lfP v G (pre ++ [w]) r (k + cl G w) b ↔ lfP v G pre r k left ∧ isByP v G r w pre.length k left := by
  have hlen : (pre.map (cs G)).length = pre.length := List.length_map ..
  constructor
  · rintro ⟨t', f1, f2⟩
    rw [List.map_append, List.append_assoc] at f1
    have f1 : rw1 v r = pre.map (cs G) ++ (cs G w :: t') := f1
    have hm : cs G w :: t' ∈ ders (pre.map (cs G)) (mrows v R) := by
      rw [ders_m, mem_mrows]
      exact ⟨r, hr, f1⟩
    refine ⟨⟨cs G w :: t', f1, row_on hk hU hw hm e1 f2 e3⟩, ?_, cw, b, e1, ?_, e3⟩
    · rw [f1, List.getElem?_append_right (by omega), hlen, Nat.sub_self]
      rfl
    · rw [f1, ← hlen, ← List.drop_drop, List.drop_append_of_le_length (Nat.le_refl _), List.drop_length]
      exact f2
  · rintro ⟨⟨t, f1, f2⟩, f3, cw', b', f4, f5, f6⟩
    rw [f1, List.getElem?_append_right (by omega), hlen, Nat.sub_self] at f3
    cases t with
    | nil => cases f3
    | cons a t' =>
      have f3 : some a = some (cs G w) := f3
      rw [Option.some.injEq] at f3
      subst f3
      have ed : (rw1 v r).drop (pre.length + 1) = t' := by
        rw [f1, ← hlen, ← List.drop_drop, List.drop_append_of_le_length (Nat.le_refl _), List.drop_length]
        rfl
      rw [ed] at f5
      rw [e1, Option.some.injEq] at f4
      refine ⟨t', ?_, ?_⟩
      · rw [f1, List.map_append, List.append_assoc]
        rfl
      · rw [f5, show b' = b by omega]

/-! a look at a scrawl: what the readings then hold -/
theorem rdl_len (G : Cx) (n : Nat) : ∀ L k, (rdl G n L k).length ≤ n := by
  induction n with
  | zero => exact fun _ _ => Nat.le_refl _
  | succ n ih =>
    intro L k
    show (if k < cN G then _ else _ : List Nat).length ≤ _
    split
    · cases UL G L k with
      | none => exact Nat.zero_le _
      | some x =>
        obtain ⟨a, b, w⟩ := x
        show (w :: rdl G n (der (cs G w) L) (k + cl G w)).length ≤ _
        rw [List.length_cons]
        have := ih (der (cs G w) L) (k + cl G w)
        omega
    · exact Nat.zero_le _
theorem rdl_lt (G : Cx) (n : Nat) : ∀ L k w, w ∈ rdl G n L k → w < cW G := by
  induction n with
  | zero =>
    intro L k w h
    cases h
  | succ n ih =>
    intro L k w h
    by_cases hk : k < cN G
    · match e : UL G L k with
      | none =>
        have : rdl G (n + 1) L k = [] := by
          show (if k < cN G then _ else _) = _
          rw [if_pos hk, e]
        rw [this] at h
        cases h
      | some (a, b, x) =>
        rw [rdl_s hk e, List.mem_cons] at h
        rcases h with h | h
        · subst h
          exact (UL_pick hk e).1
        · exact ih _ _ w h
    · rw [rdl_e hk] at h
      cases h
theorem rdl_fit {G : Cx} (hG : Gok G) (lw : Nat → Nat → Nat) (n : Nat) : ∀ L k, k ≤ cN G → (lts (cl G) lw (rdl G n L k)).length + k ≤ cN G := by
  induction n with
  | zero =>
    intro L k hk
    show 0 + k ≤ _
    omega
  | succ n ih =>
    intro L k hk
    by_cases hkN : k < cN G
    · match e : UL G L k with
      | none =>
        have : rdl G (n + 1) L k = [] := by
          show (if k < cN G then _ else _) = _
          rw [if_pos hkN, e]
        rw [this]
        show 0 + k ≤ _
        omega
      | some (a, b, x) =>
        rw [rdl_s hkN e]
        obtain ⟨hx, cw, b', m', q', e1, e2, e3⟩ := UL_pick hkN e
        have h1 := ((hG x hx).2 k cw e1).2
        have h2 := ih (der (cs G x) L) (k + cl G x) h1
        show ((List.range (cl G x)).map (lw x) ++ lts (cl G) lw (rdl G n (der (cs G x) L) (k + cl G x))).length + k ≤ _
        rw [List.length_append, List.length_map, List.length_range]
        omega
    · rw [rdl_e hkN]
      show 0 + k ≤ _
      omega
def vn : Vl → Option Nat
  | none => none
  | some (_, n, _) => some (min n 1000)
def ltX (v : xV) (w j : Nat) : Nat := (gA v 6 (10 * w + j)).toNatClampNeg
def UsedX (v : xV) (p : Int32) (ws : List Nat) : Nat → Int32 := fun l => if p = -1 then -1 else onlyI (eX (fbk (fmX v p.toNatClampNeg) (fun k => (lts (fun w => (gA v 7 w).toNatClampNeg) (ltX v) ws)[k]?.getD 0) l (lts (fun w => (gA v 7 w).toNatClampNeg) (ltX v) ws).length))
def RDw (v : xV) (L : List (List Nat)) (N : Nat) (p : Int32) (dr : Nat → Int32) : List Nat := rdl (Gx v (LCx v p dr) N) 6 L 0
def RDv (v : xV) (L : List (List Nat)) (N : Nat) (p : Int32) (dr : Nat → Int32) : Vl := UL (Gx v (LCx v p dr) N) L 0
/-- what is kept of a scrawl is right -/
def Cached (v : xV) (L : List (List Nat)) (s N : Nat) (p : Int32) (dr : Nat → Int32) : Prop :=
  gA v 42 s = eX (vc (RDv v L N p dr)) ∧ gA v 43 s = eX (vn (RDv v L N p dr)) ∧ gA v 44 s = nI (RDw v L N p dr).length ∧ (∀ i w, (RDw v L N p dr)[i]? = some w → gA v 45 (6 * s + i) = nI w) ∧ (∀ j, j < 3 → gA v 46 (3 * s + j) = fstI (fun w => (gA v 8 w).toNatClampNeg) j (RDw v L N p dr)) ∧ (∀ l, l < 26 → gA v 47 (26 * s + l) = UsedX v p (RDw v L N p dr) l) ∧ gA v 48 s = nI (cntU (UsedX v p (RDw v L N p dr)) 26)
theorem lcst_congr {dl dl' M : Nat → Int32} {l n : Nat} {c0 : Option Nat} (h : ∀ q, q < n → dl q = dl' q) : lcst dl M l c0 n = lcst dl' M l c0 n := by
  induction n with
  | zero => rfl
  | succ n ih =>
    show (match lcst dl M l c0 n with | none => none | some c => _) = (match lcst dl' M l c0 n with | none => none | some c => _)
    rw [ih (fun q hq => h q (by omega)), h n (by omega)]
theorem LCx_congr {v : xV} {p : Int32} {dr dr' : Nat → Int32} (h : ∀ q, q < 4 → dr q = dr' q) : LCx v p dr = LCx v p dr' := by
  funext k l
  unfold LCx LC
  exact lcst_congr (fun q hq => by show dlet _ (dr q) k = dlet _ (dr' q) k; rw [h q hq])
theorem Cached.ev {v : xV} {L : List (List Nat)} {s N : Nat} {p p' : Int32} {dr dr' : Nat → Int32} (h : Cached v L s N p dr) (hp : p = p') (hd : ∀ q, q < 4 → dr q = dr' q) : Cached v L s N p' dr' := by
  subst hp
  unfold Cached RDv RDw at h ⊢
  rw [← LCx_congr hd]
  exact h
def SameE (v v' : xV) (s : Nat) : Prop := gA v' 39 s = gA v 39 s ∧ gA v' 40 s = gA v 40 s ∧ (∀ q, q < 4 → gA v' 41 (4 * s + q) = gA v 41 (4 * s + q)) ∧ gA v' 42 s = gA v 42 s ∧ gA v' 43 s = gA v 43 s ∧ gA v' 44 s = gA v 44 s ∧ (∀ i, i < 6 → gA v' 45 (6 * s + i) = gA v 45 (6 * s + i)) ∧ (∀ j, j < 3 → gA v' 46 (3 * s + j) = gA v 46 (3 * s + j)) ∧ (∀ l, l < 26 → gA v' 47 (26 * s + l) = gA v 47 (26 * s + l)) ∧ gA v' 48 s = gA v 48 s
theorem SameE.refl (v : xV) (s : Nat) : SameE v v s := ⟨rfl, rfl, fun _ _ => rfl, rfl, rfl, rfl, fun _ _ => rfl, fun _ _ => rfl, fun _ _ => rfl, rfl⟩
theorem SameE.trans {u v w : xV} {s : Nat} (h : SameE u v s) (h' : SameE v w s) : SameE u w s := by
  obtain ⟨a1, a2, a3, a4, a5, a6, a7, a8, a9, a10⟩ := h
  obtain ⟨b1, b2, b3, b4, b5, b6, b7, b8, b9, b10⟩ := h'
  exact ⟨b1.trans a1, b2.trans a2, fun q hq => (b3 q hq).trans (a3 q hq), b4.trans a4, b5.trans a5, b6.trans a6, fun q hq => (b7 q hq).trans (a7 q hq), fun q hq => (b8 q hq).trans (a8 q hq), fun q hq => (b9 q hq).trans (a9 q hq), b10.trans a10⟩
/-- the lore of words, forms and drawings is the same -/
def SameL (v v' : xV) : Prop := gI v' 3 7 = gI v 3 7 ∧ gA v' 4 = gA v 4 ∧ gA v' 5 = gA v 5 ∧ gA v' 6 = gA v 6 ∧ gA v' 7 = gA v 7 ∧ gA v' 8 = gA v 8 ∧ gA v' 9 = gA v 9 ∧ gA v' 32 = gA v 32 ∧ gA v' 33 = gA v 33 ∧ gA v' 37 = gA v 37
theorem RdF.L {v v' : xV} (h : RdF v v') : SameL v v' := ⟨h.1 3 7 (by decide), h.2.2.1 4 (by decide), h.2.2.1 5 (by decide), h.2.2.1 6 (by decide), h.2.2.1 7 (by decide), h.2.2.1 8 (by decide), h.2.2.1 9 (by decide), h.2.2.1 32 (by decide), h.2.2.1 33 (by decide), h.2.2.1 37 (by decide)⟩
theorem SameL.lc {v v' : xV} (h : SameL v v') (p : Int32) (dr : Nat → Int32) : LCx v' p dr = LCx v p dr := by
  obtain ⟨h1, h2, h3, h4, h5, h6, h7, h8, h9, h10⟩ := h
  unfold LCx
  rw [h2, h3, h7, h8, h9, h10]
theorem SameL.gx {v v' : xV} (h : SameL v v') (lc : Nat → Nat → Option Nat) (N : Nat) : Gx v' lc N = Gx v lc N := by
  obtain ⟨h1, h2, h3, h4, h5, h6, h7, h8, h9, h10⟩ := h
  unfold Gx
  rw [h1, h4, h5, h6]
theorem SameL.u {v v' : xV} (h : SameL v v') (p : Int32) (ws : List Nat) : UsedX v' p ws = UsedX v p ws := by
  obtain ⟨h1, h2, h3, h4, h5, h6, h7, h8, h9, h10⟩ := h
  have e1 : fmX v' = fmX v := by
    funext a b c
    unfold fmX
    rw [h2, h3, h8, h9]
  have e2 : ltX v' = ltX v := by
    funext a b
    unfold ltX
    rw [h4]
  unfold UsedX
  rw [e1, e2, h5]
theorem Cached.mv {v v' : xV} {L : List (List Nat)} {s N : Nat} {p : Int32} {dr : Nat → Int32} (h : Cached v L s N p dr) (hL : SameL v v') (hE : SameE v v' s) : Cached v' L s N p dr := by
  have e1 : RDv v' L N p dr = RDv v L N p dr := by
    unfold RDv
    rw [hL.lc, hL.gx]
  have e2 : RDw v' L N p dr = RDw v L N p dr := by
    unfold RDw
    rw [hL.lc, hL.gx]
  have hlen : (RDw v L N p dr).length ≤ 6 := rdl_len _ _ _ _
  obtain ⟨a1, a2, a3, a4, a5, a6, a7, a8, a9, a10⟩ := hE
  obtain ⟨b1, b2, b3, b4, b5, b6, b7⟩ := h
  unfold Cached
  rw [e1, e2, hL.u, hL.2.2.2.2.2.1]
  refine ⟨a4.trans b1, a5.trans b2, a6.trans b3, fun i w e => ?_, fun j hj => (a8 j hj).trans (b5 j hj), fun l hl => (a9 l hl).trans (b6 l hl), a10.trans b7⟩
  have hi : i < (RDw v L N p dr).length := by
    rcases Nat.lt_or_ge i (RDw v L N p dr).length with z | z
    · exact z
    · rw [List.getElem?_eq_none z] at e
      cases e
  exact (a7 i (by omega)).trans (b4 i w e)
/-- all that a look at scrawl s needs -/
def LookX (v : xV) (k0 z0 Z Qn P D W S : Nat) (Lf : Nat → List (List Nat)) : Prop :=
  LoreX v ∧ WordX v W ∧ DynX k0 z0 v Z ∧ gI v 21 3 = nI Qn ∧ DFA (gA v 23) (gA v 24) Qn Lf ∧ (∀ t, t ∈ Lf 0 → t.length ≤ 6) ∧ (gI v 25 13 = nI P ∧ P ≤ 60) ∧ (gI v 25 14 = nI D ∧ D ≤ 40) ∧ (gI v 25 12 = nI S ∧ S ≤ 20) ∧ (∀ i, ∃ n, n < 4 ∧ gA v 35 i = nI n) ∧ (∀ s, s < S → ∃ n, (1 ≤ n ∧ n ≤ 24) ∧ gA v 28 s = nI n) ∧ ∀ s, gA v 39 s = nI 0 ∨ gA v 39 s = nI 1
theorem LookX.mv {v v' : xV} {k0 z0 Z Z' Qn P D W S : Nat} {Lf : Nat → List (List Nat)} (h : LookX v k0 z0 Z Qn P D W S Lf) (hF : RdF v v') (hD : DynX k0 z0 v' Z') (h39 : ∀ s, gA v' 39 s = nI 0 ∨ gA v' 39 s = nI 1) : LookX v' k0 z0 Z' Qn P D W S Lf := by
  obtain ⟨h1, h2, h3, h4, h5, h6, h7, h8, h9, h10, h11, h12⟩ := h
  obtain ⟨f1, f2, f3, f4⟩ := hF
  unfold LookX LoreX WordX
  rw [f1 3 7 (by decide), f1 21 3 (by decide), f1 25 13 (by decide), f1 25 14 (by decide), f1 25 12 (by decide), f3 37 (by decide), f3 9 (by decide), f3 5 (by decide), f3 4 (by decide), f3 7 (by decide), f3 6 (by decide), f3 8 (by decide), f3 23 (by decide), f3 24 (by decide), f3 35 (by decide), f3 28 (by decide)]
  exact ⟨h1, h2, hD, h4, h5, h6, h7, h8, h9, h10, h11, h39⟩
def evP (v : xV) (s : Nat) (t : Int32) (P : Nat) : Int32 := lastI (phP (gA v 30) (gA v 31) (nI s) t) P
def evD (v : xV) (s : Nat) (t : Int32) (D : Nat) : Nat → Int32 := fun q => lastI (drP (gA v 34) (gA v 35) (gA v 36) (nI s) t q) D

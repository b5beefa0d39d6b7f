/-! patterns read, the reference -/
def TkW (B : Nat → Nat) (n : Nat) (w : xV) (i : Nat) : Prop := ∃ pl, gI w 80 26 = nI 1 ∧ gI w 80 25 = nI pl ∧ pl ≤ 240 ∧ ∀ f dn cu ak, 241 ≤ f + i → prs B n f i dn cu ak = (1, pl, dn)
def Tk0 (B : Nat → Nat) (n : Nat) (w : xV) (i : Nat) : Prop := gI w 80 26 = nI 0 ∧ gI w 80 25 = nI n ∧ ∀ f dn cu ak, 241 ≤ f + i → prs B n f i dn cu ak = if cu = [] then (0, 0, dn) else (1, n, dn)
def Tk3 (B : Nat → Nat) (n : Nat) (w : xV) (i : Nat) : Prop := ∃ p, gI w 80 26 = nI 3 ∧ gI w 80 25 = nI p ∧ gI w 80 24 = nI (p + 1) ∧ (p < 200 ∧ p < n ∧ i ≤ p) ∧ ∀ f, 241 ≤ f + i → ∃ f', 241 ≤ f' + (p + 1) ∧ ∀ dn cu ak, prs B n f i dn cu ak = if ak = true then prs B n f' (p + 1) dn (setO cu) false else (1, p, dn)
def Tk4 (B : Nat → Nat) (n : Nat) (w : xV) (i : Nat) : Prop := ∃ p, gI w 80 26 = nI 4 ∧ gI w 80 25 = nI p ∧ gI w 80 24 = nI (p + 1) ∧ (p < 200 ∧ p < n ∧ i ≤ p) ∧ ∀ f, 241 ≤ f + i → ∃ f', 241 ≤ f' + (p + 1) ∧ ∀ dn cu ak, prs B n f i dn cu ak = if cu = [] then (1, p, dn) else if cu.all (fun x => x.2) = true then (3, p, dn) else prs B n f' (p + 1) (dn ++ [cu]) [] false
def Tk2 (B : Nat → Nat) (n : Nat) (w : xV) (i : Nat) : Prop := ∃ p e, gI w 80 26 = nI 2 ∧ gI w 80 25 = nI p ∧ gI w 80 24 = nI e ∧ (p < 200 ∧ i ≤ p ∧ p + 1 ≤ e ∧ e ≤ n) ∧ gL w 80 32 = cdW (wd B p e) ∧ isLs (wd B p e) ∧ ∀ f, 241 ≤ f + i → ∃ f', 241 ≤ f' + e ∧ ∀ dn cu ak, prs B n f i dn cu ak = match srt (wd B p e) with
        | none => (1, p, dn)
        | some s => if 6 ≤ cu.length ∨ 8 ≤ dn.length then (2, p, dn) else prs B n f' e dn (cu ++ [(s, false)]) true
def Tk (B : Nat → Nat) (n : Nat) (w : xV) (i : Nat) : Prop := TkW B n w i ∨ Tk0 B n w i ∨ Tk3 B n w i ∨ Tk4 B n w i ∨ Tk2 B n w i
theorem k_goT {E : Nat × (Nat → Int32)} {d : Nat} {w : xV} {B : Nat → Nat} {n i : Nat} {Q : xV → Prop} (hn : gI w 80 23 = nI n) (hn2 : n ≤ 240) (hB : ∀ k, k < n → gA w 81 k = nI (B k) ∧ B k < 256) (hi : gI w 80 24 = nI i) (hi2 : i ≤ n) (kk : ∀ w', GoF w w' → Tk B n w' i → Q w') : KV E (d + 1) 163 [.ref 80] w Q := by
  refine k_goM hn hn2 hB hi hi2 (fun w' pl a b c d e => kk w' a (Or.inl ⟨pl, b, c, d, e⟩)) (fun w' a b c e => kk w' a (Or.inr (Or.inl ⟨b, c, e⟩))) (fun w' p a b c d e f => kk w' a (Or.inr (Or.inr (Or.inl ⟨p, b, c, d, e, f⟩)))) (fun w' p a b c d e f => kk w' a (Or.inr (Or.inr (Or.inr (Or.inl ⟨p, b, c, d, e, f⟩))))) (fun w' p e a b c d g h1 h2 h3 => kk w' a (Or.inr (Or.inr (Or.inr (Or.inr ⟨p, e, b, c, d, g, h1, ?_, h3⟩)))))
  intro c hc
  obtain ⟨k, hk, ek⟩ := List.mem_map.mp hc
  have hk' := List.mem_range.mp hk
  rw [← ek]
  exact of_decide_eq_true (h2 (p + k) (by omega) (by omega))
def PmF (v w : xV) : Prop := w.2.2.2 = v.2.2.2 ∧ (∀ a b, ¬ (a = 80 ∧ ((24 ≤ b ∧ b ≤ 29) ∨ b = 31)) → gI w a b = gI v a b) ∧ (∀ j, ¬ (96 ≤ j ∧ j ≤ 99) → gA w j = gA v j) ∧ (∀ r, r < 256 → gA w 96 r = gA v 96 r) ∧ ∀ k, k < 1536 → gA w 97 k = gA v 97 k
theorem PmF.refl (v : xV) : PmF v v := ⟨rfl, fun _ _ _ => rfl, fun _ _ => rfl, fun _ _ => rfl, fun _ _ => rfl⟩
theorem PmF.trans {u v w : xV} (h : PmF u v) (h' : PmF v w) : PmF u w := ⟨h'.1.trans h.1, fun a b hn => (h'.2.1 a b hn).trans (h.2.1 a b hn), fun j hj => (h'.2.2.1 j hj).trans (h.2.2.1 j hj), fun r hr => (h'.2.2.2.1 r hr).trans (h.2.2.2.1 r hr), fun k hk => (h'.2.2.2.2 k hk).trans (h.2.2.2.2 k hk)⟩
theorem GoF.pm {v w : xV} (h : GoF v w) : PmF v w := ⟨congrArg Prod.snd h.1, fun a b hn => h.2 a b (by omega), fun j _ => by rw [h.a], fun r _ => by rw [h.a], fun k _ => by rw [h.a]⟩
theorem RwF.pm {v w : xV} (h : RwF v w) : PmF v w := ⟨h.2.1, fun a b hn => h.2.2.1 a b (by omega), fun j hj => h.2.2.2.1 j (by omega) (by omega), h.2.2.2.2.1, h.2.2.2.2.2⟩
theorem PmF.vI (v : xV) {k : Nat} (x : Int32) (hk : (24 ≤ k ∧ k ≤ 29) ∨ k = 31) : PmF v (v_I v 80 k x) := by
  refine ⟨rfl, fun a b h => ?_, fun _ _ => rfl, fun _ _ => rfl, fun _ _ => rfl⟩
  rw [gI_I]
  by_cases e : a = 80
  · rw [if_pos e, if_neg (fun q => h ⟨e, by omega⟩)]
  · rw [if_neg e]
theorem PmF.vA (v : xV) {j : Nat} (f : Nat → Int32) (hj : j = 98 ∨ j = 99) : PmF v (v_A v j f) := by
  refine ⟨rfl, fun _ _ _ => rfl, fun i hi => by rw [gA_A, if_neg (by omega)], fun r _ => by rw [gA_A, if_neg (by omega)], fun k _ => by rw [gA_A, if_neg (by omega)]⟩
def RpM (w : xV) (dn : Pats) (L : List (List Nat)) : Prop := gI w 80 29 = nI dn.length ∧ gI w 80 31 = nI L.length ∧ RwN w L ∧ L.Nodup ∧ ∀ t, t ∈ L ↔ ∃ l, l ∈ dn ∧ t ∈ lang l
theorem RpM.go {v w : xV} {dn : Pats} {L : List (List Nat)} (h : RpM v dn L) (hF : GoF v w) : RpM w dn L := by
  refine ⟨by rw [hF.2 80 29 (by decide)]; exact h.1, by rw [hF.2 80 31 (by decide)]; exact h.2.1, ?_, h.2.2.2⟩
  unfold RwN RAt
  rw [hF.a]
  exact h.2.2.1
def ItM (w : xV) (cu : List (Nat × Bool)) : Prop := ∀ (k s : Nat) (o : Bool), cu[k]? = some (s, o) → gA w 98 k = nI s
def MuM (cu : List (Nat × Bool)) (mu : Nat) : Prop := mu < 2 ^ cu.length ∧ ∀ k, mu.testBit k = true ↔ ∃ s, cu[k]? = some (s, false)
theorem MuM.ok {cu : List (Nat × Bool)} {mu m : Nat} (h : MuM cu mu) : m &&& mu = mu ↔ okM cu m := by
  constructor
  · intro e k s hk
    have h1 := (h.2 k).mpr ⟨s, hk⟩
    rw [← e, Nat.testBit_and] at h1
    exact (Bool.and_eq_true_iff.mp h1).1
  · intro ho
    apply Nat.eq_of_testBit_eq
    intro k
    rw [Nat.testBit_and]
    cases hh : mu.testBit k with
    | false => exact Bool.and_false _
    | true =>
      obtain ⟨s, hk⟩ := (h.2 k).mp hh
      rw [ho k s hk]
      rfl
theorem MuM.no {cu : List (Nat × Bool)} {mu : Nat} (h : MuM cu mu) : mu = 0 ↔ cu.all (fun x => x.2) = true := by
  rw [List.all_eq_true]
  constructor
  · intro e x hx
    obtain ⟨k, hk, ek⟩ := List.mem_iff_getElem.mp hx
    cases hx2 : x.2 with
    | true => rfl
    | false =>
      have := (h.2 k).mpr ⟨x.1, by rw [List.getElem?_eq_getElem hk, ek, ← hx2]⟩
      rw [e, Nat.zero_testBit] at this
      exact this
  · intro ha
    apply Nat.eq_of_testBit_eq
    intro k
    rw [Nat.zero_testBit]
    cases hh : mu.testBit k with
    | false => rfl
    | true =>
      obtain ⟨s, hk⟩ := (h.2 k).mp hh
      exact absurd (ha _ (List.mem_of_getElem? hk)) (show ¬ false = true by decide)
theorem MuM.ask {cu : List (Nat × Bool)} {mu : Nat} (h : MuM cu mu) (s : Nat) : MuM (cu ++ [(s, true)]) mu := by
  refine ⟨?_, fun k => ?_⟩
  · rw [List.length_append, List.length_singleton, Nat.pow_succ]
    have := h.1
    omega
  · rw [h.2, snoc_at2]
    by_cases e : k = cu.length
    · rw [if_pos e, e, List.getElem?_eq_none (Nat.le_refl _)]
      exact ⟨fun ⟨s', q⟩ => (nomatch q), fun ⟨s', q⟩ => absurd (Prod.mk.inj (Option.some.inj q)).2 (by decide)⟩
    · rw [if_neg e]
theorem MuM.item {cu : List (Nat × Bool)} {mu : Nat} (h : MuM cu mu) (s : Nat) : MuM (cu ++ [(s, false)]) (mu ||| 2 ^ cu.length) := by
  refine ⟨?_, fun k => ?_⟩
  · rw [List.length_append, List.length_singleton]
    exact n_lt_or (Nat.lt_trans h.1 (Nat.pow_lt_pow_right (by decide) (by omega))) (by omega)
  · rw [n_or_b, Bool.or_eq_true, decide_eq_true_iff, h.2, snoc_at2]
    by_cases e : k = cu.length
    · rw [if_pos e]
      exact ⟨fun _ => ⟨s, rfl⟩, fun _ => Or.inr e.symm⟩
    · rw [if_neg e]
      exact ⟨fun q => q.elim id (fun q => absurd q.symm e), Or.inl⟩
theorem nodup_snoc {α : Type} {L : List α} {x : α} (h : L.Nodup) (hx : ¬ x ∈ L) : (L ++ [x]).Nodup := by
  rw [List.nodup_append]
  refine ⟨h, List.nodup_cons.mpr ⟨List.not_mem_nil, List.nodup_nil⟩, fun a ha b hb e => hx ?_⟩
  rw [← List.mem_singleton.mp hb, ← e]
  exact ha
theorem rwN_len (dn : Pats) : (dn.flatMap lang).length = rwN dn := by
  induction dn with
  | nil => rfl
  | cons l dn ih =>
    rw [List.flatMap_cons, List.length_append, lang_len, ih]
    rfl
theorem k_bad {E : Nat × (Nat → Int32)} {d : Nat} {w : xV} {k : Nat} {Q : Int32 → xV → Prop} (h : Q (nI 0) (v_I (v_I w 80 27 (if gI w 80 26 = nI 1 then nI 1 else nI k)) 80 28 (gI w 80 25))) : KI E d 166 [.ref 80, .int (nI k)] w (fun y w' => vp_in y 2 ∧ Q y w') := by
  have hv : vp_in (nI 0) 2 := vp_in_nI (by decide) (by decide)
  refine KI.of ok_166 (Nat.le_of_ble_eq_true rfl) (w_X12_bad_0 ⟨fun z => ⟨hv, ?_⟩, fun z => ⟨hv, ?_⟩⟩)
  · rw [if_neg z] at h
    exact h
  · rw [if_pos z] at h
    exact h
theorem k_rowsP {E : Nat × (Nat → Int32)} {d : Nat} {v w : xV} {dn : Pats} {cu : List (Nat × Bool)} {L : List (List Nat)} {mu p : Nat} {Q : Int32 → xV → Prop} (hF : PmF v w) (hR : RpM w dn L) (hit : ItM w cu) (hmu : MuM cu mu) (hw : Wf (p + 1) (dn ++ [cu]) [] false) (hp : p < 200) (hmu0 : ¬ mu = 0)
    (kk : ∀ w' L', PmF v w' → gI w' 80 24 = gI w 80 24 → gI w' 80 27 = gI w 80 27 → RpM w' (dn ++ [cu]) L' → Q (nI 1) w') : RI E (d + 2) 168 140 [(0, .ref 80), (1, .int (nI cu.length)), (2, .int (nI mu)), (3, .int (nI 1))] w Q := by
  have hcu : okP cu := hw.1 cu (List.mem_append_right _ (List.mem_singleton.mpr rfl))
  have hc6 := hcu.1
  have h64 : 2 ^ cu.length ≤ 64 := Nat.pow_le_pow_right (n := 2) (by decide) hc6
  have hmu1 := hmu.1
  have h213 : rwN (dn ++ [cu]) ≤ 213 := by
    have := hw.2.2.2.2
    omega
  obtain ⟨r1, r2, r3, r4, r5⟩ := hR
  have h1p : 1 ≤ 2 ^ cu.length := Nat.one_le_two_pow
  refine lp_up (n := 2 ^ cu.length) (P := fun m => 1 ≤ m → ∀ w' L', RwF w w' → gI w' 80 31 = nI L'.length → RwN w' L' → L'.Nodup → (∀ t, t ∈ L' ↔ (∃ l, l ∈ dn ∧ t ∈ lang l) ∨ ∃ m', 1 ≤ m' ∧ m' < m ∧ okM cu m' ∧ t = pick cu m') → RI E (d + 2) 168 140 [(0, .ref 80), (1, .int (nI cu.length)), (2, .int (nI mu)), (3, .int (nI m))] w' Q) (fun _ w' L' g1 g2 g3 g4 g5 => w_X12_readPattern_140 ?_) (fun m hm ih h1 w' L' g1 g2 g3 g4 g5 => w_X12_readPattern_140 ?_) h1p (Nat.le_refl _) w L (RwF.refl w) r2 r3 r4 (fun t => by rw [r5]; exact ⟨Or.inl, fun q => q.elim id (fun ⟨m', a, b, _⟩ => by omega)⟩)
  · rw [n_s1 (by omega)]
    refine ⟨fun _ => kk _ L' (hF.trans (g1.pm.trans (PmF.vI w' _ (by omega)))) (g1.2.2.1 80 24 (by decide)) (g1.2.2.1 80 27 (by decide)) ⟨?_, g2, g3, g4, fun t => ?_⟩, fun z => absurd (nI_le (Nat.le_refl _) (by omega)) z⟩
    · show gI w' 80 29 + nI 1 = _
      rw [g1.2.2.1 80 29 (by decide), r1, nI_add, List.length_append, List.length_singleton]
    · rw [g5]
      constructor
      · rintro (⟨l, h1, h2⟩ | ⟨m', h1, h2, h3, h4⟩)
        · exact ⟨l, List.mem_append_left _ h1, h2⟩
        · exact ⟨cu, List.mem_append_right _ (List.mem_singleton.mpr rfl), mem_lang.mpr ⟨m', h2, h3, h4⟩⟩
      · rintro ⟨l, h1, h2⟩
        rcases List.mem_append.mp h1 with q | q
        · exact Or.inl ⟨l, q, h2⟩
        · rw [List.mem_singleton.mp q] at h2
          obtain ⟨m', a, b, c⟩ := mem_lang.mp h2
          refine Or.inr ⟨m', ?_, a, b, c⟩
          refine Nat.pos_of_ne_zero (fun e => hmu0 ?_)
          subst e
          have := hmu.ok.mpr b
          rw [Nat.zero_and] at this
          exact this.symm
  · have hmm := Nat.and_le_left (n := m) (m := mu)
    rw [n_s1 (by omega), nI_leI (by omega) (by omega), n_and, nI_inj (by omega) (by omega), hmu.ok, nI_add]
    refine ⟨fun z => by omega, fun _ => ⟨fun z => ih (by omega) w' L' g1 g2 g3 g4 (fun t => ?_), fun z => ?_⟩⟩
    · rw [g5]
      refine or_congr Iff.rfl ⟨fun ⟨m', a, b, c, e⟩ => ⟨m', a, by omega, c, e⟩, fun ⟨m', a, b, c, e⟩ => ⟨m', a, ?_, c, e⟩⟩
      have : m' ≠ m := fun q => z (by rw [← q]; exact c)
      omega
    · have hsub : L' ⊆ (dn ++ [cu]).flatMap lang := by
        intro t ht
        rw [List.mem_flatMap]
        rcases (g5 t).mp ht with ⟨l, h1, h2⟩ | ⟨m', h1, h2, h3, h4⟩
        · exact ⟨l, List.mem_append_left _ h1, h2⟩
        · exact ⟨cu, List.mem_append_right _ (List.mem_singleton.mpr rfl), mem_lang.mpr ⟨m', by omega, h3, h4⟩⟩
      have hlen := g4.length_le_of_subset hsub
      rw [rwN_len] at hlen
      refine k_addRow (w := w') (cu := cu) (m := m) (L := L') (by omega) hc6 hcu.2.1 ?_ g2 (by omega) g3 (fun w2 L2 a1 a2 a3 a4 => ih (by omega) w2 L2 (g1.trans a1) a2 a3 ?_ (fun t => ?_))
      · rw [g1.2.2.2.1 98 (by decide) (by decide)]
        exact hit
      · rw [a4]
        split
        · exact g4
        · rename_i q
          exact nodup_snoc g4 q
      · have e : t ∈ L2 ↔ t ∈ L' ∨ t = pick cu m := by
          rw [a4]
          split
          · rename_i q
            exact ⟨Or.inl, fun h => h.elim id (fun h => by rw [h]; exact q)⟩
          · rw [List.mem_append, List.mem_singleton]
        rw [e, g5]
        constructor
        · rintro ((h | ⟨m', a, b, c, e⟩) | h)
          · exact Or.inl h
          · exact Or.inr ⟨m', a, by omega, c, e⟩
          · exact Or.inr ⟨m, h1, by omega, z, h⟩
        · rintro (h | ⟨m', a, b, c, e5⟩)
          · exact Or.inl (Or.inl h)
          · by_cases q : m' = m
            · subst q
              exact Or.inr e5
            · exact Or.inl (Or.inr ⟨m', a, by omega, c, e5⟩)

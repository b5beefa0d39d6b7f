/-! the class: patterns read -/
def PxF (v w : xV) : Prop := w.2.1 = v.2.1 ∧ w.2.2.2 = v.2.2.2 ∧ (∀ a b, a ≠ 17 → gI w a b = gI v a b) ∧ ∀ j, ¬ (18 ≤ j ∧ j ≤ 20) → gA w j = gA v j
theorem PxF.refl (v : xV) : PxF v v := ⟨rfl, rfl, fun _ _ _ => rfl, fun _ _ => rfl⟩
theorem PxF.trans {u v w : xV} (h : PxF u v) (h' : PxF v w) : PxF u w := ⟨h'.1.trans h.1, h'.2.1.trans h.2.1, fun a b hn => (h'.2.2.1 a b hn).trans (h.2.2.1 a b hn), fun j hj => (h'.2.2.2 j hj).trans (h.2.2.2 j hj)⟩
theorem PxF.vI (v : xV) (k : Nat) (x : Int32) : PxF v (v_I v 17 k x) := ⟨rfl, rfl, fun a b h => by rw [gI_I, if_neg h], fun _ _ => rfl⟩
theorem PxF.vA (v : xV) {j : Nat} (f : Nat → Int32) (hj : 18 ≤ j ∧ j ≤ 20) : PxF v (v_A v j f) := ⟨rfl, rfl, fun _ _ _ => rfl, fun i hi => by rw [gA_A, if_neg (by omega)]⟩
def RpX (F O : Nat → Int32) (p : Nat) (l : List (Nat × Bool)) : Prop := ∀ (k s : Nat) (o : Bool), l[k]? = some (s, o) → F (6 * p + k) = nI s ∧ O (6 * p + k) = bB o
def RpD (w : xV) (dn : Pats) : Prop := dn.length ≤ 8 ∧ gI w 17 4 = nI dn.length ∧ ∀ (p : Nat) (l : List (Nat × Bool)), dn[p]? = some l → (gA w 20 p = nI l.length ∧ l.length ≤ 6) ∧ RpX (gA w 18) (gA w 19) p l
def RpC (w : xV) (dn : Pats) (cu : List (Nat × Bool)) (ak : Bool) : Prop := cu.length ≤ 6 ∧ gI w 17 7 = nI cu.length ∧ gI w 17 8 = bB ak ∧ (ak = true → cu ≠ []) ∧ (cu ≠ [] → dn.length < 8) ∧ RpX (gA w 18) (gA w 19) dn.length cu
theorem RpD.mv {w w' : xV} {dn : Pats} {m : Nat} (h : RpD w dn) (h4 : gI w' 17 4 = gI w 17 4) (h20 : gA w' 20 = gA w 20) (hm : 6 * dn.length ≤ m) (h18 : ∀ j, j < m → gA w' 18 j = gA w 18 j) (h19 : ∀ j, j < m → gA w' 19 j = gA w 19 j) : RpD w' dn := by
  refine ⟨h.1, by rw [h4]; exact h.2.1, fun p l e => ?_⟩
  obtain ⟨⟨a1, a2⟩, a3⟩ := h.2.2 p l e
  have hp := (List.getElem?_eq_some_iff.mp e).1
  refine ⟨⟨by rw [h20]; exact a1, a2⟩, fun k s o ek => ?_⟩
  have hk := (List.getElem?_eq_some_iff.mp ek).1
  rw [h18 _ (by omega), h19 _ (by omega)]
  exact a3 k s o ek
theorem snoc_at2 {α : Type} (l : List α) (x : α) (k : Nat) : (l ++ [x])[k]? = if k = l.length then some x else l[k]? := by
  by_cases e : k = l.length
  · rw [if_pos e, e, List.getElem?_append_right (Nat.le_refl _), Nat.sub_self]
    rfl
  · rw [if_neg e]
    by_cases q : k < l.length
    · rw [List.getElem?_append_left q]
    · rw [List.getElem?_eq_none (by rw [List.length_append, List.length_singleton]; omega), List.getElem?_eq_none (by omega)]
theorem isL_b {c : Nat} (h : c < 256) : (decide (nI 97 ≤ nI c) && decide (nI c ≤ nI 122)) = isL c := by
  unfold isL
  by_cases e : 97 ≤ c ∧ c ≤ 122
  · rw [decide_eq_true e, decide_eq_true ((nI_leI (by decide) (by omega)).mpr e.1), decide_eq_true ((nI_leI (by omega) (by decide)).mpr e.2)]
    rfl
  · rw [decide_eq_false e, Bool.and_eq_false_iff, decide_eq_false_iff_not, decide_eq_false_iff_not, nI_leI (by decide) (by omega), nI_leI (by omega) (by decide)]
    omega
theorem k_tokenX {E : Nat × (Nat → Int32)} {d : Nat} {v w : xV} {B : Nat → Nat} {n i : Nat} {dn : Pats} {cu : List (Nat × Bool)} {ak : Bool} {Q : Int32 → xV → Prop} (hn : gI v 1 1 = nI n) (hn2 : n ≤ 240) (hB : ∀ k, k < n → gA v 2 k = nI (B k) ∧ B k < 256) (hF : PxF v w) (hD : RpD w dn) (hC : RpC w dn cu ak) (h5 : gI w 17 5 = nI 0) (hi : i < n) (hi2 : i < 200)
    (kE : ∀ y w' k, PxF v w' → gI w' 17 5 = nI k → (1 ≤ k ∧ k ≤ 3) → gI w' 17 6 = nI i → (∀ f, prs B n (f + 1) i dn cu ak = (k, i, dn)) → Q y w')
    (kN : ∀ i' dn' cu' ak' w', PxF v w' → i + 1 ≤ i' → i' ≤ 240 → RpD w' dn' → RpC w' dn' cu' ak' → gI w' 17 5 = nI 0 → (∀ f, prs B n (f + 1) i dn cu ak = prs B n f i' dn' cu' ak') → Q (nI i') w') : KI E (d + 7) 44 [.ref 17, .int (nI i)] w Q := by
  have hnw : gI w 1 1 = nI n := (hF.2.2.1 1 1 (by decide)).trans hn
  have hBw : ∀ k, k < n → gA w 2 k = nI (B k) ∧ B k < 256 := by
    rw [hF.2.2.2 2 (by decide)]
    exact hB
  obtain ⟨d1, d2, d3⟩ := id hD
  obtain ⟨c1, c2, c3, c4, c5, c6⟩ := id hC
  have hBi := hBw i hi
  have unf : ∀ f, prs B n (f + 1) i dn cu ak = (if isL (B i) = true then
      (match srt (wd B i (rEnd B n i)) with
        | none => (1, i, dn)
        | some s => if 6 ≤ cu.length ∨ 8 ≤ dn.length then (2, i, dn) else prs B n f (rEnd B n i) dn (cu ++ [(s, false)]) true)
    else if B i = 63 then (if ak = true then prs B n f (i + 1) dn (setO cu) false else (1, i, dn))
    else if B i = 59 then (if cu = [] then (1, i, dn) else if cu.all (fun x => x.2) = true then (3, i, dn) else prs B n f (i + 1) (dn ++ [cu]) [] false)
    else if B i = 32 ∨ B i = 10 then prs B n f (i + 1) dn cu ak
    else (1, i, dn)) := by
    intro f
    show (if 200 ≤ i ∧ 200 < n then _ else if n ≤ i then _ else _) = _
    rw [if_neg (by omega), if_neg (by omega)]
    rfl
  have ref : ∀ (y : Int32) (k : Nat), (1 ≤ k ∧ k ≤ 3) → (∀ f, prs B n (f + 1) i dn cu ak = (k, i, dn)) → Q y (v_I (v_I w 17 5 (nI k)) 17 6 (nI i)) := fun y k hk hp => kE y _ k ((hF.trans (PxF.vI w 5 _)).trans (PxF.vI _ 6 _)) rfl hk rfl hp
  refine KI.of ok_44 (Nat.le_of_ble_eq_true rfl) (w_X5_takeToken_0 (k_at hnw hn2 hi ?_))
  rw [hBi.1]
  refine k_isSmall ?_
  rw [isL_b hBi.2, nI_inj (by omega) (by decide), nI_inj (by omega) (by decide), nI_inj (by omega) (by decide), nI_inj (by omega) (by decide), nI_add, bB_0]
  refine ⟨fun hl => ?_, fun hl => ?_⟩
  · have hl' : ¬ isL (B i) = true := by rw [hl]; decide
    refine ⟨fun q1 => ⟨fun q2 => ⟨fun q3 => ?_, fun q3 => ⟨fun q4 => ?_, fun q4 => ?_⟩⟩, fun q2 => ?_⟩, fun q1 => ?_⟩
    · refine kN (i + 1) dn cu ak w hF (Nat.le_refl _) (by omega) hD hC h5 (fun f => ?_)
      rw [unf, if_neg hl', if_neg q1, if_neg q2, if_pos (Or.inl q3)]
    · refine kN (i + 1) dn cu ak w hF (Nat.le_refl _) (by omega) hD hC h5 (fun f => ?_)
      rw [unf, if_neg hl', if_neg q1, if_neg q2, if_pos (Or.inr q4)]
    · refine KV.of ok_43 (Nat.le_of_ble_eq_true rfl) (w_X5_refuse_0 (ref _ 1 (by decide) (fun f => ?_)))
      rw [unf, if_neg hl', if_neg q1, if_neg q2, if_neg (by omega)]
    · -- ;
      refine KV.of ok_47 (Nat.le_of_ble_eq_true rfl) (w_X5_takeStop_0 ?_)
      rw [c2, nI_inj (by omega) (by decide)]
      refine ⟨fun q3 => ?_, fun q3 => ?_⟩
      · have hcu : cu ≠ [] := fun e => q3 (by rw [e]; rfl)
        have h8 := c5 hcu
        refine lp_up (n := cu.length) (P := fun k => ∀ m : Bool, (m = true ↔ ∃ j s, j < k ∧ cu[j]? = some (s, false)) → RV E (d + 6) 47 18 [(0, .ref 17), (1, .int (nI i)), (2, .int (bB m)), (3, .int (nI k))] w (fun v6 => Q (nI (i + 1)) v6)) (fun m hm => w_X5_takeStop_18 ?_) (fun k hk ih m hm => w_X5_takeStop_18 ?_) (Nat.zero_le _) false ⟨fun z => absurd z (by decide), fun ⟨j, s, hj, _⟩ => absurd hj (Nat.not_lt_zero _)⟩
        · rw [c2, d2, nI_clamp (by omega), nI_add]
          have hall : cu.all (fun x => x.2) = true ↔ m = false := by
            rw [List.all_eq_true]
            constructor
            · intro h
              cases m with
              | false => rfl
              | true =>
                obtain ⟨j, s, hj, e⟩ := hm.mp rfl
                exact absurd (h _ (List.mem_of_getElem? e)) (show ¬ false = true by decide)
            · intro h x hx
              obtain ⟨j, hj, e⟩ := List.mem_iff_getElem.mp hx
              cases hx2 : x.2 with
              | true => rfl
              | false =>
                have : m = true := hm.mpr ⟨j, x.1, hj, by rw [List.getElem?_eq_getElem hj, e, ← hx2]⟩
                rw [h] at this
                exact absurd this (by decide)
          refine ⟨fun _ => ⟨fun z => ⟨vp_in_nI (by omega) (by decide), KV.of ok_42 (Nat.le_of_ble_eq_true rfl) (w_X5_startPattern_0 ?_)⟩, fun z => KV.of ok_43 (Nat.le_of_ble_eq_true rfl) (w_X5_refuse_0 (ref _ 3 (by decide) (fun f => ?_)))⟩, fun z => absurd (nI_le (Nat.le_refl _) (by omega)) z⟩
          · have hmt : ¬ cu.all (fun x => x.2) = true := by
              rw [hall]
              intro e
              subst e
              exact z rfl
            refine kN (i + 1) (dn ++ [cu]) [] false _ ((((hF.trans (PxF.vA w _ (by omega))).trans (PxF.vI _ 4 _)).trans (PxF.vI _ 7 _)).trans (PxF.vI _ 8 _)) (Nat.le_refl _) (by omega) ⟨?_, ?_, fun p l e => ?_⟩ ⟨by exact Nat.zero_le _, rfl, rfl, fun z => absurd z (by decide), fun z => absurd rfl z, fun k s o e => by rw [List.getElem?_nil] at e; exact nomatch e⟩ h5 (fun f => ?_)
            · rw [List.length_append, List.length_singleton]
              omega
            · rw [List.length_append, List.length_singleton]
              rfl
            · rw [snoc_at2] at e
              show (upd (gA w 20) dn.length (nI cu.length) p = nI l.length ∧ l.length ≤ 6) ∧ RpX (gA w 18) (gA w 19) p l
              rw [upd_i]
              by_cases ep : p = dn.length
              · rw [if_pos ep] at e ⊢
                cases e
                rw [ep]
                exact ⟨⟨rfl, c1⟩, c6⟩
              · rw [if_neg ep] at e ⊢
                exact d3 p l e
            · rw [unf, if_neg hl', if_neg q1, if_pos q2, if_neg hcu, if_neg hmt]
          · rw [unf, if_neg hl', if_neg q1, if_pos q2, if_neg hcu, if_pos (hall.mpr (bB_0.mp z))]
        · obtain ⟨⟨s, o⟩, ek⟩ : ∃ x, cu[k]? = some x := ⟨_, List.getElem?_eq_getElem hk⟩
          have hk6 := c6 k s o ek
          simp only [c2, d2, pk_mul, nI_add]
          rw [nI_leI (by omega) (by omega), nI_clamp (by omega), Nat.mul_comm dn.length 6, nI_clamp (by omega), hk6.2]
          have h1 : ∀ m' : Bool, (m' = true ↔ m = true ∨ o = false) → (m' = true ↔ ∃ j s, j < k + 1 ∧ cu[j]? = some (s, false)) := by
            intro m' hm'
            rw [hm', hm]
            constructor
            · rintro (⟨j, s', hj, e⟩ | e)
              · exact ⟨j, s', by omega, e⟩
              · exact ⟨k, s, by omega, by rw [ek, e]⟩
            · rintro ⟨j, s', hj, e⟩
              by_cases ej : j = k
              · subst ej
                rw [ek] at e
                exact Or.inr (Prod.mk.inj (Option.some.inj e)).2
              · exact Or.inl ⟨j, s', by omega, e⟩
          refine ⟨fun z => by omega, fun _ => ⟨fun z => ih true (h1 true ⟨fun _ => Or.inl ?_, fun _ => rfl⟩), fun z => ⟨vp_in_nI (by omega) (by decide), fun z2 => ih false (h1 false ⟨fun z => absurd z (by decide), fun z3 => ?_⟩), fun z2 => ih true (h1 true ⟨fun _ => Or.inr (bB_0.mp z2), fun _ => rfl⟩)⟩⟩⟩
          · cases m with
            | true => rfl
            | false => exact absurd rfl z
          · rcases z3 with z3 | z3
            · subst z3
              exact absurd z nI_01
            · subst z3
              exact absurd rfl z2
      · have hcu : cu = [] := List.length_eq_zero_iff.mp q3
        refine KV.of ok_43 (Nat.le_of_ble_eq_true rfl) (w_X5_refuse_0 (ref _ 1 (by decide) (fun f => ?_)))
        rw [unf, if_neg hl', if_neg q1, if_pos q2, if_pos hcu]
    · -- ?
      have wrong : ¬ ak = true → RV E (d + 6) 46 15 [(0, .ref 17), (1, .int (nI i))] w (fun v7 => Q (nI (i + 1)) v7) := by
        intro hak
        refine w_X5_takeAsk_15 (KV.of ok_43 (Nat.le_of_ble_eq_true rfl) (w_X5_refuse_0 (ref _ 1 (by decide) (fun f => ?_))))
        rw [unf, if_neg hl', if_pos q1, if_neg hak]
      refine KV.of ok_46 (Nat.le_of_ble_eq_true rfl) (w_X5_takeAsk_0 ?_)
      rw [c3, bB_0, c2, d2]
      refine ⟨fun z => wrong (by rw [z]; decide), fun z => ?_⟩
      have hak : ak = true := by
        cases ak with
        | true => rfl
        | false => exact absurd rfl z
      have hcu := c4 hak
      have h8 := c5 hcu
      have hlen : 1 ≤ cu.length := by
        cases cu with
        | nil => exact absurd rfl hcu
        | cons a l => exact Nat.succ_le_succ (Nat.zero_le _)
      obtain ⟨l, ⟨s, o⟩, el⟩ : ∃ l x, cu = l ++ [x] := ⟨cu.dropLast, cu.getLast hcu, (List.dropLast_concat_getLast hcu).symm⟩
      have ell : cu.length = l.length + 1 := by rw [el, List.length_append, List.length_singleton]
      rw [nI_leI (by omega) (by omega), pk_mul, nI_add, nI_sub (by omega), nI_clamp (by omega)]
      refine ⟨fun _ => ⟨vp_in_nI (by omega) (by decide), ?_⟩, fun z => by omega⟩
      refine kN (i + 1) dn (setO cu) false _ ((hF.trans (PxF.vA w _ (by omega))).trans (PxF.vI _ 8 _)) (Nat.le_refl _) (by omega) (hD.mv (m := 6 * dn.length) rfl rfl (Nat.le_refl _) (fun j _ => rfl) (fun j hj => ?_)) ?_ h5 (fun f => ?_)
      · exact upd_n _ _ (by omega)
      · have es : setO cu = l ++ [(s, true)] := by rw [el, setO_snoc]
        have el2 : (l ++ [(s, true)]).length = cu.length := by rw [List.length_append, List.length_singleton, ell]
        rw [es]
        have c6 : RpX (gA w 18) (gA w 19) dn.length (l ++ [(s, o)]) := by
          rw [← el]
          exact c6
        refine ⟨by rw [el2]; exact c1, by rw [el2]; exact c2, rfl, fun z => absurd z (by decide), fun _ => h8, fun k s' o' e => ?_⟩
        show gA w 18 (6 * dn.length + k) = nI s' ∧ upd (gA w 19) (dn.length * 6 + cu.length - 1) (nI 1) (6 * dn.length + k) = bB o'
        rw [snoc_at2] at e
        rw [upd_i]
        by_cases ek : k = l.length
        · rw [if_pos ek] at e
          cases e
          rw [if_pos (by omega)]
          exact ⟨(c6 k s o (by rw [snoc_at2, if_pos ek])).1, rfl⟩
        · rw [if_neg ek] at e
          rw [if_neg (by omega)]
          exact c6 k s' o' (by rw [snoc_at2, if_neg ek]; exact e)
      · rw [unf, if_neg hl', if_pos q1, if_pos hak]
  · have hl' : isL (B i) = true := by
      cases hh : isL (B i) with
      | true => rfl
      | false => exact absurd hh hl
    obtain ⟨g1, g2⟩ := rEnd_gt (B := B) ⟨hi, hl'⟩
    refine KI.of ok_45 (Nat.le_of_ble_eq_true rfl) (w_X5_takeItem_0 ?_)
    have fin : RI E (d + 6) 45 39 [(0, .ref 17), (1, .int (nI i)), (2, .int (nI (rEnd B n i)))] w Q := by
      refine w_X5_takeItem_39 (k_sortOf hnw hn2 hBw (by omega) g2 (fun s hs es => ⟨fun _ => ?_, fun z => absurd z (m1_ne (by omega))⟩) (fun es => ⟨fun z => absurd rfl z, fun _ => KV.of ok_43 (Nat.le_of_ble_eq_true rfl) (w_X5_refuse_0 (ref _ 1 (by decide) (fun f => ?_)))⟩))
      · have many : (6 ≤ cu.length ∨ 8 ≤ dn.length) → RI E (d + 6) 45 78 [(0, .ref 17), (1, .int (nI i)), (2, .int (nI (rEnd B n i)))] w Q := by
          intro hm
          refine w_X5_takeItem_78 (KV.of ok_43 (Nat.le_of_ble_eq_true rfl) (w_X5_refuse_0 (ref _ 2 (by decide) (fun f => ?_))))
          rw [unf, if_pos hl', es]
          exact if_pos hm
        rw [c2, d2, nI_leI (by omega) (by omega), nI_ltI (by omega) (by omega), pk_mul, nI_add, nI_add, nI_clamp (by omega)]
        refine ⟨fun z => many (Or.inl z), fun z => ⟨fun z2 => ?_, fun z2 => many (Or.inr (by omega))⟩⟩
        have hv : vp_in (nI (dn.length * 6 + cu.length)) 48 := vp_in_nI (by omega) (by decide)
        refine ⟨hv, hv, ?_⟩
        refine kN (rEnd B n i) dn (cu ++ [(s, false)]) true _ ((((hF.trans (PxF.vA w _ (by omega))).trans (PxF.vA _ _ (by omega))).trans (PxF.vI _ 7 _)).trans (PxF.vI _ 8 _)) g1 (by omega) (hD.mv (m := 6 * dn.length) rfl rfl (Nat.le_refl _) (fun j hj => upd_n _ _ (by omega)) (fun j hj => upd_n _ _ (by omega))) ?_ h5 (fun f => ?_)
        · refine ⟨by rw [List.length_append, List.length_singleton]; omega, by rw [List.length_append, List.length_singleton]; rfl, rfl, fun _ => by simp, fun _ => z2, fun k s' o' e => ?_⟩
          show upd (gA w 18) (dn.length * 6 + cu.length) (nI s) (6 * dn.length + k) = nI s' ∧ upd (gA w 19) (dn.length * 6 + cu.length) (nI 0) (6 * dn.length + k) = bB o'
          rw [snoc_at2] at e
          rw [upd_i, upd_i]
          by_cases ek : k = cu.length
          · rw [if_pos ek] at e
            cases e
            rw [if_pos (by omega), if_pos (by omega)]
            exact ⟨rfl, rfl⟩
          · rw [if_neg ek] at e
            rw [if_neg (by omega), if_neg (by omega)]
            exact c6 k s' o' e
        · rw [unf, if_pos hl', es]
          exact if_neg (by omega)
      · rw [unf, if_pos hl', es]
    refine lp_up (n := n) (P := fun j => rEnd B n j = rEnd B n i → RI E (d + 6) 45 4 [(0, .ref 17), (1, .int (nI i)), (2, .int (nI j)), (3, .int (nI j))] w Q) (fun e => w_X5_takeItem_4 ?_) (fun j hj ih e => w_X5_takeItem_4 ?_) (show i ≤ n by omega) rfl
    · rw [hnw]
      refine ⟨fun _ => ?_, fun z => absurd (nI_le (Nat.le_refl _) (by omega)) z⟩
      rw [rEnd_no (by omega)] at e
      rw [← e] at fin
      exact fin
    · have hBj := hBw j hj
      rw [hnw, nI_leI (by omega) (by omega), nI_add]
      refine ⟨fun z => by omega, fun _ => k_at hnw hn2 hj ?_⟩
      rw [hBj.1]
      refine k_isSmall ?_
      rw [isL_b hBj.2, bB_0]
      refine ⟨fun z => ?_, fun z y5 hy5 => ?_⟩
      · rw [rEnd_no (by rw [z]; exact fun q => absurd q.2 (by decide))] at e
        rw [← e] at fin
        exact fin
      · subst hy5
        refine ih ?_
        rw [← e]
        refine (rEnd_yes ⟨hj, ?_⟩).symm
        cases hh : isL (B j) with
        | true => rfl
        | false => exact absurd hh z

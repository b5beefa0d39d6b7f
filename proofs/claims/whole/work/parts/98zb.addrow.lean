/-! rows of patterns, the reference -/
def RAt (w : xV) (r : Nat) (t : List Nat) : Prop := gA w 96 r = nI t.length ∧ t.length ≤ 6 ∧ ∀ (k z : Nat), t[k]? = some z → z < 5 ∧ gA w 97 (6 * r + k) = nI z
def RwN (w : xV) (L : List (List Nat)) : Prop := ∀ (r : Nat) (t : List Nat), L[r]? = some t → RAt w (256 + r) t
def RwF (v w : xV) : Prop := w.2.1 = v.2.1 ∧ w.2.2.2 = v.2.2.2 ∧ (∀ a b, ¬ (a = 80 ∧ b = 31) → gI w a b = gI v a b) ∧ (∀ j, j ≠ 96 → j ≠ 97 → gA w j = gA v j) ∧ (∀ r, r < 256 → gA w 96 r = gA v 96 r) ∧ ∀ k, k < 1536 → gA w 97 k = gA v 97 k
theorem RwF.refl (v : xV) : RwF v v := ⟨rfl, rfl, fun _ _ _ => rfl, fun _ _ _ => rfl, fun _ _ => rfl, fun _ _ => rfl⟩
theorem RwF.trans {u v w : xV} (h : RwF u v) (h' : RwF v w) : RwF u w := ⟨h'.1.trans h.1, h'.2.1.trans h.2.1, fun a b hn => (h'.2.2.1 a b hn).trans (h.2.2.1 a b hn), fun j h1 h2 => (h'.2.2.2.1 j h1 h2).trans (h.2.2.2.1 j h1 h2), fun r hr => (h'.2.2.2.2.1 r hr).trans (h.2.2.2.2.1 r hr), fun k hk => (h'.2.2.2.2.2 k hk).trans (h.2.2.2.2.2 k hk)⟩
theorem RwF.i31 (v : xV) (x : Int32) : RwF v (v_I v 80 31 x) := by
  refine ⟨rfl, rfl, fun a b h => ?_, fun _ _ _ => rfl, fun _ _ => rfl, fun _ _ => rfl⟩
  rw [gI_I]
  by_cases e : a = 80
  · rw [if_pos e, if_neg (fun q => h ⟨e, q⟩)]
  · rw [if_neg e]
theorem RwF.a96 (v : xV) {k : Nat} (x : Int32) (hk : 256 ≤ k) : RwF v (v_A v 96 (upd (gA v 96) k x)) := by
  refine ⟨rfl, rfl, fun _ _ _ => rfl, fun j h1 h2 => by rw [gA_A, if_neg h1], fun r hr => ?_, fun k _ => rfl⟩
  show upd (gA v 96) k x r = _
  exact upd_n _ _ (by omega)
theorem RwF.a97 (v : xV) {k : Nat} (x : Int32) (hk : 1536 ≤ k) : RwF v (v_A v 97 (upd (gA v 97) k x)) := by
  refine ⟨rfl, rfl, fun _ _ _ => rfl, fun j h1 h2 => by rw [gA_A, if_neg h2], fun r _ => rfl, fun r hr => ?_⟩
  show upd (gA v 97) k x r = _
  exact upd_n _ _ (by omega)
theorem n_bit (m k : Nat) : m / 2 ^ k &&& 1 = 0 ↔ m.testBit k = false := by
  rw [Nat.and_one_is_mod, ← Nat.shiftRight_eq_div_pow]
  unfold Nat.testBit
  rw [Nat.one_and_eq_mod_two, bne_eq_false_iff_eq]
theorem list_eq_of {t u : List Nat} (hl : t.length = u.length) (h : ∀ j, j < u.length → t[j]? = u[j]?) : t = u := by
  apply List.ext_getElem?
  intro k
  by_cases hk : k < u.length
  · exact h k hk
  · rw [List.getElem?_eq_none (by omega), List.getElem?_eq_none (by omega)]
theorem k_addRow {E : Nat × (Nat → Int32)} {d : Nat} {w : xV} {cu : List (Nat × Bool)} {m : Nat} {L : List (List Nat)} {Q : xV → Prop} (hm : m < 64) (hc6 : cu.length ≤ 6) (hc5 : ∀ x, x ∈ cu → x.1 < 5) (hit : ∀ (k s : Nat) (o : Bool), cu[k]? = some (s, o) → gA w 98 k = nI s) (hLn : gI w 80 31 = nI L.length) (hL : L.length ≤ 255) (hR : RwN w L)
    (kk : ∀ w' L', RwF w w' → gI w' 80 31 = nI L'.length → RwN w' L' → L' = (if pick cu m ∈ L then L else L ++ [pick cu m]) → Q w') : KV E d 167 [.ref 80, .int (nI m), .int (nI cu.length)] w Q := by
  have l1 : ∀ k, (pick (cu.take k) m).length ≤ k := fun k => Nat.le_trans (pick_len _ m) (by rw [List.length_take]; omega)
  refine KV.of ok_167 (Nat.le_of_ble_eq_true rfl) (w_X12_addRow_0 (fun y hy => ?_))
  rw [hLn, nI_add] at hy
  subst hy
  refine lp_up (n := cu.length) (P := fun k => ∀ w', RwF w w' → gI w' 80 31 = gI w 80 31 → RwN w' L → (∀ (j z : Nat), (pick (cu.take k) m)[j]? = some z → gA w' 97 (6 * (256 + L.length) + j) = nI z) → RV E d 167 15 [(0, .ref 80), (1, .int (nI m)), (2, .int (nI cu.length)), (3, .int (nI (256 + L.length))), (4, .int (nI (pick (cu.take k) m).length)), (5, .int (nI k))] w' Q) (fun w' hF h31 hR' hp => w_X12_addRow_15 ?_) (fun k hk ih w' hF h31 hR' hp => w_X12_addRow_15 ?_) (Nat.zero_le _) w (RwF.refl w) rfl hR (fun j z e => by rw [List.take_zero] at e; exact nomatch e)
  · rw [List.take_length] at hp ⊢
    have hpl := pick_len cu m
    have hp5 := pick_lt cu hc5 m
    generalize hu : pick cu m = u at *
    refine ⟨fun _ => ⟨vp_in_nI (by omega) (by decide), ?_⟩, fun z => absurd (nI_le (Nat.le_refl _) (by omega)) z⟩
    rw [nI_clamp (by omega)]
    have hF2 := hF.trans (RwF.a96 w' (k := 256 + L.length) (nI u.length) (by omega))
    have hR2 : RwN (v_A w' 96 (upd (gA w' 96) (256 + L.length) (nI u.length))) L := by
      intro r t e
      have hr := (List.getElem?_eq_some_iff.mp e).1
      obtain ⟨a1, a2, a3⟩ := hR' r t e
      refine ⟨?_, a2, a3⟩
      show upd (gA w' 96) (256 + L.length) (nI u.length) (256 + r) = _
      rw [upd_n _ _ (by omega)]
      exact a1
    have hU : RAt (v_A w' 96 (upd (gA w' 96) (256 + L.length) (nI u.length))) (256 + L.length) u := by
      refine ⟨upd_s _ _ _, by omega, fun k z e => ⟨hp5 z (List.mem_of_getElem? e), hp k z e⟩⟩
    have h31' : gI (v_A w' 96 (upd (gA w' 96) (256 + L.length) (nI u.length))) 80 31 = nI L.length := by
      show gI w' 80 31 = _
      rw [h31, hLn]
    generalize v_A w' 96 (upd (gA w' 96) (256 + L.length) (nI u.length)) = w2 at *
    have go : ∀ r, r ≤ L.length → (∀ (r' : Nat) (t : List Nat), r' < r → L[r']? = some t → ¬ t = u) → RV E d 167 74 [(0, .ref 80), (3, .int (nI (256 + L.length))), (4, .int (nI u.length)), (5, .int (nI (256 + r)))] w2 Q := by
      intro r hr
      refine lp_up (n := L.length) (P := fun r => (∀ (r' : Nat) (t : List Nat), r' < r → L[r']? = some t → ¬ t = u) → RV E d 167 74 [(0, .ref 80), (3, .int (nI (256 + L.length))), (4, .int (nI u.length)), (5, .int (nI (256 + r)))] w2 Q) (fun hno => w_X12_addRow_74 ?_) (fun r hr ih hno => w_X12_addRow_74 ?_) hr
      · refine ⟨fun _ => ?_, fun z => absurd (nI_le (Nat.le_refl _) (by omega)) z⟩
        refine kk _ (L ++ [u]) (hF2.trans (RwF.i31 w2 _)) ?_ ?_ ?_
        · show gI w2 80 31 + nI 1 = _
          rw [h31', nI_add, List.length_append, List.length_singleton]
        · intro r t e
          rw [snoc_at2] at e
          by_cases q : r = L.length
          · rw [if_pos q] at e
            cases e
            rw [q]
            exact hU
          · rw [if_neg q] at e
            exact hR2 r t e
        · rw [if_neg]
          intro hmem
          obtain ⟨r, hr, e⟩ := List.mem_iff_getElem.mp hmem
          exact hno r u hr (by rw [List.getElem?_eq_getElem hr, e]) rfl
      · obtain ⟨t, et⟩ : ∃ t, L[r]? = some t := ⟨_, List.getElem?_eq_getElem hr⟩
        obtain ⟨a1, a2, a3⟩ := hR2 r t et
        rw [nI_leI (by omega) (by omega), nI_clamp (by omega), a1, nI_inj (by omega) (by omega)]
        have same : ∀ b : Bool, (b = true ↔ t = u) → RV E d 167 155 [(0, .ref 80), (3, .int (nI (256 + L.length))), (4, .int (nI u.length)), (5, .int (nI (256 + r))), (6, .int (bB b))] w2 Q := by
          intro b hb
          refine w_X12_addRow_155 ?_
          rw [bB_0, nI_add]
          refine ⟨fun z => ih (fun r' t' hr' e' => ?_), fun z => ?_⟩
          · by_cases q : r' = r
            · subst q
              rw [et] at e'
              cases e'
              exact fun q => absurd (hb.mpr q) (by rw [z]; decide)
            · exact hno r' t' (by omega) e'
          · have hbt : b = true := by
              cases b with
              | true => rfl
              | false => exact absurd rfl z
            refine kk _ L hF2 h31' hR2 ?_
            rw [if_pos]
            rw [← hb.mp hbt]
            exact List.mem_of_getElem? et
        have inner : ∀ b0 : Bool, (b0 = true ↔ t.length = u.length) → RV E d 167 102 [(0, .ref 80), (3, .int (nI (256 + L.length))), (4, .int (nI u.length)), (5, .int (nI (256 + r))), (6, .int (bB b0)), (7, .int (nI 0))] w2 Q := by
          intro b0 hb0
          refine lp_up (n := u.length) (P := fun j => ∀ b : Bool, (b = true ↔ t.length = u.length ∧ ∀ j', j' < j → t[j']? = u[j']?) → RV E d 167 102 [(0, .ref 80), (3, .int (nI (256 + L.length))), (4, .int (nI u.length)), (5, .int (nI (256 + r))), (6, .int (bB b)), (7, .int (nI j))] w2 Q) (fun b hb => w_X12_addRow_102 ?_) (fun j hj ih2 b hb => w_X12_addRow_102 ?_) (Nat.zero_le _) b0 (by rw [hb0]; exact ⟨fun h => ⟨h, fun j' hj' => absurd hj' (Nat.not_lt_zero _)⟩, fun h => h.1⟩)
          · refine ⟨fun _ => same b ?_, fun z => absurd (nI_le (Nat.le_refl _) (by omega)) z⟩
            rw [hb]
            exact ⟨fun h => list_eq_of h.1 h.2, fun h => by rw [h]; exact ⟨rfl, fun _ _ => rfl⟩⟩
          · rw [nI_leI (by omega) (by omega)]
            refine ⟨fun z => by omega, fun _ => ⟨fun z => same b ?_, fun z => ?_⟩⟩
            · rw [bB_0] at z
              constructor
              · intro q
                rw [z] at q
                exact absurd q (by decide)
              · intro q
                exact absurd (hb.mpr (by rw [q]; exact ⟨rfl, fun _ _ => rfl⟩)) (by rw [z]; decide)
            · have hbt : b = true := by
                cases b with
                | true => rfl
                | false => exact absurd rfl z
              obtain ⟨g1, g2⟩ := hb.mp hbt
              have et2 : t[j]? = some t[j] := List.getElem?_eq_getElem (by omega)
              have eu2 : u[j]? = some u[j] := List.getElem?_eq_getElem hj
              obtain ⟨q1, q2⟩ := a3 j t[j] et2
              obtain ⟨q3, q4⟩ := hU.2.2 j u[j] eu2
              rw [pk_mul, pk_mul, nI_add, nI_add, nI_clamp (by omega), nI_clamp (by omega), q2, q4, nI_inj (by omega) (by omega), nI_add]
              refine ⟨vp_in_nI (by omega) (by decide), vp_in_nI (by omega) (by decide), fun z2 => ih2 false ⟨fun q => absurd q (by decide), fun q => ?_⟩, fun z2 => ih2 true ⟨fun _ => ⟨g1, fun j' hj' => ?_⟩, fun _ => rfl⟩⟩
              · have := q.2 j (by omega)
                rw [et2, eu2] at this
                exact absurd (Option.some.inj this) z2
              · by_cases e : j' = j
                · rw [e, et2, eu2, z2]
                · exact g2 j' (by omega)
        exact ⟨fun z => by omega, fun _ => ⟨vp_in_nI (by omega) (by decide), fun z => inner false ⟨fun q => absurd q (by decide), fun q => absurd q z⟩, fun z => inner true ⟨fun _ => z, fun _ => rfl⟩⟩⟩
    exact go 0 (Nat.zero_le _) (fun r' t hr' => absurd hr' (Nat.not_lt_zero _))
  · obtain ⟨⟨s, o⟩, ek⟩ : ∃ x, cu[k]? = some x := ⟨_, List.getElem?_eq_getElem hk⟩
    have etk : cu.take (k + 1) = cu.take k ++ [(s, o)] := by
      rw [List.take_succ, ek]
      rfl
    have hlk : (cu.take k).length = k := by
      rw [List.length_take]
      omega
    have eps := pick_snoc (cu.take k) s o m
    rw [← etk, hlk] at eps
    have hl1 := l1 k
    have h98 : gA w' 98 = gA w 98 := hF.2.2.2.1 98 (by decide) (by decide)
    rw [nI_leI (by omega) (by omega), n_shr (by omega) (by omega), n_and, nI_inj (by have := n_lt_and (b := 1) (show m / 2 ^ k < 2 ^ 31 from Nat.lt_of_le_of_lt (Nat.div_le_self _ _) (by omega)); omega) (by decide), n_bit, show (nI k).toNatClampNeg = k from nI_clamp (by omega), h98, hit k s o ek, pk_mul, nI_add, nI_add, nI_add, show (nI (6 * (256 + L.length) + (pick (cu.take k) m).length)).toNatClampNeg = 6 * (256 + L.length) + (pick (cu.take k) m).length from nI_clamp (by omega)]
    refine ⟨fun z => by omega, fun _ => ⟨fun z => ?_, fun z => ?_⟩⟩
    · rw [if_pos (by cases hh : m.testBit k with | true => rfl | false => exact absurd hh z)] at eps
      refine ⟨vp_in_nI (by omega) (by decide), vp_in_nI (by omega) (by decide), ?_⟩
      have ih' := ih (v_A w' 97 (upd (gA w' 97) (6 * (256 + L.length) + (pick (cu.take k) m).length) (nI s))) (hF.trans (RwF.a97 w' _ (by omega))) h31 ?_ ?_
      · rw [eps, List.length_append, List.length_singleton] at ih'
        exact ih'
      · intro r t e
        have hr := (List.getElem?_eq_some_iff.mp e).1
        obtain ⟨a1, a2, a3⟩ := hR' r t e
        refine ⟨a1, a2, fun j z ej => ⟨(a3 j z ej).1, ?_⟩⟩
        have hj := (List.getElem?_eq_some_iff.mp ej).1
        show upd (gA w' 97) (6 * (256 + L.length) + (pick (cu.take k) m).length) (nI s) (6 * (256 + r) + j) = _
        rw [upd_n _ _ (by omega)]
        exact (a3 j z ej).2
      · intro j z ej
        rw [eps, snoc_at2] at ej
        show upd (gA w' 97) (6 * (256 + L.length) + (pick (cu.take k) m).length) (nI s) (6 * (256 + L.length) + j) = _
        rw [upd_i]
        by_cases q : j = (pick (cu.take k) m).length
        · rw [if_pos q] at ej
          cases ej
          rw [if_pos (by omega)]
        · rw [if_neg q] at ej
          rw [if_neg (by omega)]
          exact hp j z ej
    · rw [if_neg (by rw [z]; decide), List.append_nil] at eps
      have ih' := ih w' hF h31 hR' (by rw [eps]; exact hp)
      rw [eps] at ih'
      exact ih'

/-! forms that were used, the class -/
def fmb (m : Nat → Bool) : Nat → Nat
  | 0 => 0
  | f + 1 => if m f = true then fmb m f ||| 2 ^ f else fmb m f
theorem fmb_lt (m : Nat → Bool) (n : Nat) : fmb m n < 2 ^ n := by
  induction n with
  | zero => exact Nat.one_pos
  | succ n ih =>
    have h2 : 2 ^ n ≤ 2 ^ (n + 1) := Nat.pow_le_pow_right (by decide) (by omega)
    show (if m n = true then fmb m n ||| 2 ^ n else fmb m n) < _
    split
    · exact n_lt_or (Nat.lt_of_lt_of_le ih h2) (by omega)
    · exact Nat.lt_of_lt_of_le ih h2
theorem fmb_b (m : Nat → Bool) (n f : Nat) : (fmb m n).testBit f = (decide (f < n) && m f) := by
  induction n with
  | zero =>
    show (0 : Nat).testBit f = _
    rw [Nat.zero_testBit, decide_eq_false (by omega), Bool.false_and]
  | succ n ih =>
    show (if m n = true then fmb m n ||| 2 ^ n else fmb m n).testBit f = _
    by_cases h : m n = true
    · rw [if_pos h, n_or_b, ih]
      by_cases e : n = f
      · subst e
        rw [decide_eq_true (rfl : n = n), Bool.or_true, decide_eq_true (by omega), h]
        rfl
      · rw [decide_eq_false e, Bool.or_false]
        by_cases hlt : f < n
        · rw [decide_eq_true hlt, decide_eq_true (by omega)]
        · rw [decide_eq_false hlt, decide_eq_false (by omega)]
    · rw [if_neg h, ih]
      by_cases e : n = f
      · subst e
        rw [Bool.not_eq_true] at h
        rw [h, Bool.and_false, Bool.and_false]
      · by_cases hlt : f < n
        · rw [decide_eq_true hlt, decide_eq_true (by omega)]
        · rw [decide_eq_false hlt, decide_eq_false (by omega)]
def fmX (v : xV) (p k l : Nat) : Nat := fmb (fun f => mayF (gA v 4 (3 * l + f)) (gA v 32 (24 * p + k)) (gA v 33 (24 * p + k))) (gA v 5 l).toNatClampNeg
theorem fmX_lt {v : xV} {p k l n : Nat} (hc : gA v 5 l = nI n) (hn : n ≤ 3) : fmX v p k l < 8 := by
  unfold fmX
  rw [hc, nI_clamp (by omega)]
  exact Nat.lt_of_lt_of_le (fmb_lt _ _) (Nat.pow_le_pow_right (by decide) hn)
theorem k_formsMay {E : Nat × (Nat → Int32)} {d : Nat} {v : xV} {p k l n : Nat} {Q : Int32 → xV → Prop} (hp : gI v 49 14 = nI p) (hp2 : p < 60) (hk : k < 24) (hl : l < 26) (hc : gA v 5 l = nI n) (hn : n ≤ 3) (kk : Q (nI (fmX v p k l)) v) : KI E (d + 1) 69 [.ref 49, .int (nI k), .int (nI l)] v Q := by
  unfold fmX at kk
  rw [hc, nI_clamp (by omega)] at kk
  refine KI.of ok_69 (Nat.le_of_ble_eq_true rfl) (w_X6_formsThatMay_0 ?_)
  refine lp_up (n := n) (P := fun f => RI E (d + 1) 69 5 [(0, .ref 49), (1, .int (nI k)), (2, .int (nI l)), (3, .int (nI (fmb (fun f => mayF (gA v 4 (3 * l + f)) (gA v 32 (24 * p + k)) (gA v 33 (24 * p + k))) f))), (4, .int (nI f))] v Q) (w_X6_formsThatMay_5 ?_) (fun f hf ih => w_X6_formsThatMay_5 ?_) (Nat.zero_le _)
  · simp (disch := omega) only [nI_add, pk_mul, nI_clamp, nI_leI, nI_ltI, nI_eq, vp_t, true_and, hc]
    exact ⟨fun _ => kk, fun h => absurd (Nat.le_refl _) h⟩
  · simp (disch := omega) only [nI_add, pk_mul, nI_clamp, nI_leI, nI_ltI, nI_eq, vp_t, true_and, hc]
    refine ⟨fun h => by omega, fun _ => k_mayFX hp hp2 hk hl (by omega) (bbc (fun h => ?_) (fun h => ?_))⟩
    · have e : fmb (fun f => mayF (gA v 4 (3 * l + f)) (gA v 32 (24 * p + k)) (gA v 33 (24 * p + k))) (f + 1) = fmb (fun f => mayF (gA v 4 (3 * l + f)) (gA v 32 (24 * p + k)) (gA v 33 (24 * p + k))) f := if_neg (show ¬ mayF (gA v 4 (3 * l + f)) (gA v 32 (24 * p + k)) (gA v 33 (24 * p + k)) = true by rw [h]; exact Bool.false_ne_true)
      rw [e] at ih
      exact ih
    · have e : fmb (fun f => mayF (gA v 4 (3 * l + f)) (gA v 32 (24 * p + k)) (gA v 33 (24 * p + k))) (f + 1) = fmb (fun f => mayF (gA v 4 (3 * l + f)) (gA v 32 (24 * p + k)) (gA v 33 (24 * p + k))) f ||| 2 ^ f := if_pos h
      rw [e] at ih
      intro y ey
      rw [ey, n_s1 (by omega), n_or]
      exact ih
def onlyI (x : Int32) : Int32 := if x = nI 1 then nI 0 else if x = nI 2 then nI 1 else if x = nI 4 then nI 2 else -1
theorem k_onlyForm {E : Nat × (Nat → Int32)} {d : Nat} {v : xV} {x : Int32} {Q : Int32 → xV → Prop} (kk : Q (onlyI x) v) : KI E d 70 [.int x] v Q := by
  have s0 : nI 1 <<< (nI 0 &&& 31) = nI 1 := by decide
  have s1 : nI 1 <<< (nI 1 &&& 31) = nI 2 := by decide
  have s2 : nI 1 <<< (nI 2 &&& 31) = nI 4 := by decide
  unfold onlyI at kk
  refine KI.of ok_70 (Nat.le_of_ble_eq_true rfl) (w_X6_onlyForm_0 (w_X6_onlyForm_2 ⟨fun h => absurd h (by decide), fun _ => ?_⟩))
  rw [s0]
  refine ⟨fun h0 => w_X6_onlyForm_2 ⟨fun h => absurd h (by decide), fun _ => ?_⟩, fun h0 => by rw [if_pos h0] at kk; exact kk⟩
  rw [if_neg h0] at kk
  rw [show nI 0 + nI 1 = nI 1 from nI_add _ _, s1]
  refine ⟨fun h1 => w_X6_onlyForm_2 ⟨fun h => absurd h (by decide), fun _ => ?_⟩, fun h1 => by rw [if_pos h1] at kk; exact kk⟩
  rw [if_neg h1] at kk
  rw [show nI 1 + nI 1 = nI 2 from nI_add _ _, s2]
  refine ⟨fun h2 => w_X6_onlyForm_2 ⟨fun _ => ?_, fun h => absurd (by decide) h⟩, fun h2 => by rw [if_pos h2] at kk; exact kk⟩
  rw [if_neg h2] at kk
  exact kk
/-- the letters of words, one behind another -/
def lts (clw : Nat → Nat) (lw : Nat → Nat → Nat) : List Nat → List Nat
  | [] => []
  | w :: t => (List.range (clw w)).map (lw w) ++ lts clw lw t
theorem lts_app (clw : Nat → Nat) (lw : Nat → Nat → Nat) (a b : List Nat) : lts clw lw (a ++ b) = lts clw lw a ++ lts clw lw b := by
  induction a with
  | nil => rfl
  | cons w a ih =>
    show (List.range (clw w)).map (lw w) ++ lts clw lw (a ++ b) = _
    rw [ih, ← List.append_assoc]
    rfl
theorem lts_at (clw : Nat → Nat) (lw : Nat → Nat → Nat) (a b : List Nat) (w j : Nat) (hj : j < clw w) : (lts clw lw (a ++ w :: b))[(lts clw lw a).length + j]? = some (lw w j) := by
  rw [lts_app, List.getElem?_append_right (by omega), Nat.add_sub_cancel_left]
  show ((List.range (clw w)).map (lw w) ++ lts clw lw b)[j]? = _
  rw [List.getElem?_append_left (by rw [List.length_map, List.length_range]; exact hj), List.getElem?_map, List.getElem?_range hj]
  rfl
theorem lts_len (clw : Nat → Nat) (lw : Nat → Nat → Nat) (a : List Nat) (w : Nat) : (lts clw lw (a ++ [w])).length = (lts clw lw a).length + clw w := by
  rw [lts_app, List.length_append]
  show _ + ((List.range (clw w)).map (lw w) ++ []).length = _
  rw [List.append_nil, List.length_map, List.length_range]
/-- forms that may be at all places of a letter so far -/
def fbk (fm : Nat → Nat → Nat) (lt : Nat → Nat) (l : Nat) : Nat → Option Nat
  | 0 => none
  | k + 1 => if lt k = l then (match fbk fm lt l k with | none => some (fm k l) | some b => some (b &&& fm k l)) else fbk fm lt l k
theorem m1_and (x : Int32) : -1 &&& x = x := by
  apply Int32.toBitVec_inj.mp
  rw [Int32.toBitVec_and, show (-1 : Int32).toBitVec = BitVec.allOnes 32 by decide, BitVec.allOnes_and]
def fbF (fm : Nat → Nat → Nat) (lt : Nat → Nat) (o : Nat → Int32) (k : Nat) : Nat → Int32 := fun l => if l < 26 then eX (fbk fm lt l k) else o l
theorem fbF_s (fm : Nat → Nat → Nat) (lt : Nat → Nat) (o : Nat → Int32) (k : Nat) (h : lt k < 26) : upd (fbF fm lt o k) (lt k) (fbF fm lt o k (lt k) &&& nI (fm k (lt k))) = fbF fm lt o (k + 1) := by
  funext l
  rw [upd_i]
  by_cases e : l = lt k
  · subst e
    rw [if_pos rfl]
    unfold fbF
    rw [if_pos h, if_pos h]
    show _ = eX (if lt k = lt k then (match fbk fm lt (lt k) k with | none => some (fm k (lt k)) | some b => some (b &&& fm k (lt k))) else fbk fm lt (lt k) k)
    rw [if_pos rfl]
    cases fbk fm lt (lt k) k with
    | none => exact m1_and _
    | some b => exact n_and _ _
  · rw [if_neg e]
    unfold fbF
    split
    · show _ = eX (if lt k = l then _ else fbk fm lt l k)
      rw [if_neg (fun z => e z.symm)]
    · rfl
def kf (v : xV) (A B C : Nat → Int32) : xV := v_A (v_A (v_A v 47 A) 48 B) 56 C
theorem kf_56 (v : xV) (A B C C' : Nat → Int32) : v_A (kf v A B C) 56 C' = kf v A B C' := by unfold kf; rw [vA_s]
theorem kf_48 (v : xV) (A B C B' : Nat → Int32) : v_A (kf v A B C) 48 B' = kf v A B' C := by unfold kf; rw [vA_c _ (i := 48) (j := 56) (by decide), vA_s]
theorem kf_47 (v : xV) (A B C A' : Nat → Int32) : v_A (kf v A B C) 47 A' = kf v A' B C := by unfold kf; rw [vA_c _ (i := 47) (j := 56) (by decide), vA_c _ (i := 47) (j := 48) (by decide), vA_s]
def ufF (o U : Nat → Int32) (s n : Nat) : Nat → Int32 := fun j => if 26 * s ≤ j ∧ j < 26 * s + n then U (j - 26 * s) else o j
theorem ufF_s (o U : Nat → Int32) (s n : Nat) : upd (ufF o U s n) (26 * s + n) (U n) = ufF o U s (n + 1) := by
  funext j
  rw [upd_i]
  unfold ufF
  by_cases h : j = 26 * s + n
  · subst h
    rw [if_pos rfl, if_pos (by omega), Nat.add_sub_cancel_left]
  · rw [if_neg h]
    by_cases h2 : 26 * s ≤ j ∧ j < 26 * s + n
    · rw [if_pos h2, if_pos (by omega)]
    · rw [if_neg h2, if_neg (by omega)]
def cntU (U : Nat → Int32) : Nat → Nat
  | 0 => 0
  | n + 1 => cntU U n + (if U n = -1 then 0 else 1)
theorem cntU_le (U : Nat → Int32) (n : Nat) : cntU U n ≤ n := by
  induction n with
  | zero => exact Nat.le_refl _
  | succ n ih =>
    show cntU U n + (if U n = -1 then 0 else 1) ≤ _
    split <;> omega
theorem k_keepForms {E : Nat × (Nat → Int32)} {d : Nat} {v : xV} {s p N : Nat} {ws : List Nat} {clw : Nat → Nat} {lw : Nat → Nat → Nat} {Q : xV → Prop} (hs : s < 20) (hp : gI v 49 14 = nI p) (hp2 : p < 60) (hN : gI v 49 15 = nI N) (hN2 : N ≤ 24) (h44 : gA v 44 s = nI ws.length) (hws : ws.length ≤ 6) (h45 : ∀ i w, ws[i]? = some w → gA v 45 (6 * s + i) = nI w) (hw : ∀ w, w ∈ ws → w < 80 ∧ gA v 7 w = nI (clw w) ∧ clw w ≤ 10) (hlw : ∀ w j, gA v 6 (10 * w + j) = nI (lw w j) ∧ lw w j < 26) (hT : (lts clw lw ws).length ≤ N) (hcn : ∀ i, ∃ n, n ≤ 3 ∧ gA v 5 i = nI n) (h48 : gA v 48 s = nI 0)
    (kk : Q (kf v (ufF (gA v 47) (fun l => onlyI (eX (fbk (fmX v p) (fun k => (lts clw lw ws)[k]?.getD 0) l (lts clw lw ws).length))) s 26) (upd (gA v 48) s (nI (cntU (fun l => onlyI (eX (fbk (fmX v p) (fun k => (lts clw lw ws)[k]?.getD 0) l (lts clw lw ws).length))) 26))) (fbF (fmX v p) (fun k => (lts clw lw ws)[k]?.getD 0) (gA v 56) (lts clw lw ws).length))) : KV E (d + 2) 68 [.ref 49, .int (nI s)] v Q := by
  obtain ⟨U, hU⟩ : ∃ U : Nat → Int32, U = (fun l => onlyI (eX (fbk (fmX v p) (fun k => (lts clw lw ws)[k]?.getD 0) l (lts clw lw ws).length))) := ⟨_, rfl⟩
  obtain ⟨C, hC⟩ : ∃ C : Nat → Nat → Int32, C = fbF (fmX v p) (fun k => (lts clw lw ws)[k]?.getD 0) (gA v 56) := ⟨_, rfl⟩
  rw [← hU, ← hC] at kk
  have c0 : C 0 = fun a => if a < gN v 56 then (-1 : Int32) else gA v 56 a := by rw [hC]; rfl
  have cT : ∀ l, l < 26 → onlyI (C (lts clw lw ws).length l) = U l := by
    intro l hl
    rw [hC, hU]
    unfold fbF
    rw [if_pos hl]
  have cS : ∀ k, (lts clw lw ws)[k]?.getD 0 < 26 → upd (C k) ((lts clw lw ws)[k]?.getD 0) (C k ((lts clw lw ws)[k]?.getD 0) &&& nI (fmX v p k ((lts clw lw ws)[k]?.getD 0))) = C (k + 1) := by
    intro k hk
    rw [hC]
    exact fbF_s (fmX v p) (fun k => (lts clw lw ws)[k]?.getD 0) (gA v 56) k hk
  clear hU hC
  refine KV.of ok_68 (Nat.le_of_ble_eq_true rfl) (w_X6_keepForms_0 ⟨fun _ => k_fill (by rfl) (by show 26 < 2 ^ 31; decide) ?_, fun h => absurd (hp.symm.trans h) (m1_ne (by omega))⟩)
  have e0 : v_A v 56 (fun a => if a < gN v 56 then (-1 : Int32) else gA v 56 a) = kf v (gA v 47) (gA v 48) (C 0) := by
    unfold kf
    rw [vAself, vAself, c0]
  rw [e0]
  -- the last loop
  have last : RV E (d + 2) 68 128 [(0, .ref 49), (1, .int (nI s)), (3, .int (nI 0))] (kf v (gA v 47) (gA v 48) (C (lts clw lw ws).length)) Q := by
    have e1 : kf v (gA v 47) (gA v 48) (C (lts clw lw ws).length) = kf v (ufF (gA v 47) U s 0) (upd (gA v 48) s (nI (cntU U 0))) (C (lts clw lw ws).length) := by
      congr 1
      · funext j
        unfold ufF
        rw [if_neg (by omega)]
      · funext j
        rw [upd_i]
        split
        · rename_i ej
          rw [ej, h48]
          rfl
        · rfl
    rw [e1]
    refine lp_up (n := 26) (P := fun l => RV E (d + 2) 68 128 [(0, .ref 49), (1, .int (nI s)), (3, .int (nI l))] (kf v (ufF (gA v 47) U s l) (upd (gA v 48) s (nI (cntU U l))) (C (lts clw lw ws).length)) Q) (w_X6_keepForms_128 ⟨fun _ => kk, fun h => absurd (by decide) h⟩) (fun l hl ih => w_X6_keepForms_128 ⟨fun h => ?_, fun _ => ⟨vp_in_nI hl (by decide), k_onlyForm ?_⟩⟩) (Nat.zero_le _)
    · exfalso
      rw [nI_leI (by decide) (by omega)] at h
      omega
    · have e56 : onlyI (gA (kf v (ufF (gA v 47) U s l) (upd (gA v 48) s (nI (cntU U l))) (C (lts clw lw ws).length)) 56 l) = U l := cT l hl
      have e47 : upd (gA (kf v (ufF (gA v 47) U s l) (upd (gA v 48) s (nI (cntU U l))) (C (lts clw lw ws).length)) 47) (26 * s + l) (U l) = ufF (gA v 47) U s (l + 1) := ufF_s _ U _ _
      have e48 : gA (kf v (ufF (gA v 47) U s l) (upd (gA v 48) s (nI (cntU U l))) (C (lts clw lw ws).length)) 48 = upd (gA v 48) s (nI (cntU U l)) := rfl
      rw [nI_clamp (show l < 2 ^ 31 by omega), e56]
      simp (disch := omega) only [pk_mul, nI_add, Nat.mul_comm s 26, nI_clamp, vp_t, true_and, forall_eq, e47, e48, upd_s, kf_47, kf_48]
      have eu : ∀ x : Int32, upd (upd (gA v 48) s (nI (cntU U l))) s x = upd (gA v 48) s x := by
        intro x
        funext j
        rw [upd_i, upd_i, upd_i]
        split <;> rfl
      rw [eu, eu]
      have ec : cntU U (l + 1) = cntU U l + (if U l = -1 then 0 else 1) := rfl
      rw [ec] at ih
      refine ⟨fun h => ?_, fun h => ?_⟩
      · rw [if_neg h] at ih
        exact ih
      · rw [if_pos h] at ih
        exact ih
  -- the words
  have outer : ∀ post pre, ws = pre ++ post → ∀ off, off = (lts clw lw pre).length → RV E (d + 2) 68 21 [(0, .ref 49), (1, .int (nI s)), (2, .int (nI off)), (3, .int (nI pre.length))] (kf v (gA v 47) (gA v 48) (C off)) Q := by
    intro post
    induction post with
    | nil =>
      intro pre hpre off hoff
      rw [List.append_nil] at hpre
      subst hpre hoff
      refine w_X6_keepForms_21 ?_
      rw [nI_clamp (by omega), show gA (kf v (gA v 47) (gA v 48) (C (lts clw lw ws).length)) 44 s = nI ws.length from h44]
      exact ⟨vp_in_nI hs (by decide), fun _ => last, fun h => absurd (nI_le (Nat.le_refl _) (by omega)) h⟩
    | cons w post ih =>
      intro pre hpre off hoff
      have hlen : ws.length = pre.length + (post.length + 1) := by rw [hpre, List.length_append, List.length_cons]
      have hmem : w ∈ ws := by rw [hpre]; exact List.mem_append_right _ (List.mem_cons_self ..)
      obtain ⟨hw80, hw7, hw10⟩ := hw w hmem
      have hwi : ws[pre.length]? = some w := by rw [hpre, List.getElem?_append_right (Nat.le_refl _), Nat.sub_self]; rfl
      have hle : off + clw w ≤ (lts clw lw ws).length := by
        rw [hoff, hpre, lts_app, List.length_append]
        show _ ≤ _ + ((List.range (clw w)).map (lw w) ++ lts clw lw post).length
        rw [List.length_append, List.length_map, List.length_range]
        omega
      have elt : ∀ j, j < clw w → (lts clw lw ws)[off + j]?.getD 0 = lw w j := by
        intro j hj
        rw [hoff, hpre, lts_at _ _ _ _ _ _ hj]
        rfl
      have hnext := ih (pre ++ [w]) (by rw [hpre, List.append_assoc]; rfl) (off + clw w) (by rw [lts_len, hoff])
      rw [List.length_append, List.length_singleton] at hnext
      refine w_X6_keepForms_21 ?_
      have e44 : gA (kf v (gA v 47) (gA v 48) (C off)) 44 s = nI ws.length := h44
      have e45 : gA (kf v (gA v 47) (gA v 48) (C off)) 45 (6 * s + pre.length) = nI w := h45 _ _ hwi
      simp (disch := omega) only [pk_mul, nI_add, Nat.mul_comm s 6, nI_clamp, vp_t, true_and, forall_eq, e44, e45, nI_leI]
      refine ⟨fun h => by omega, fun _ => ?_⟩
      have inner : ∀ j, j ≤ clw w → RV E (d + 2) 68 53 [(0, .ref 49), (1, .int (nI s)), (2, .int (nI (off + j))), (3, .int (nI pre.length)), (4, .int (nI w)), (5, .int (nI j))] (kf v (gA v 47) (gA v 48) (C (off + j))) Q := by
        intro j hj
        refine lp_up (n := clw w) (P := fun j => RV E (d + 2) 68 53 [(0, .ref 49), (1, .int (nI s)), (2, .int (nI (off + j))), (3, .int (nI pre.length)), (4, .int (nI w)), (5, .int (nI j))] (kf v (gA v 47) (gA v 48) (C (off + j))) Q) (w_X6_keepForms_53 ?_) (fun j hj ih2 => w_X6_keepForms_53 ?_) hj
        · have e7 : gA (kf v (gA v 47) (gA v 48) (C (off + clw w))) 7 w = nI (clw w) := hw7
          simp (disch := omega) only [nI_add, nI_clamp, vp_t, true_and, e7, nI_leI]
          exact ⟨fun _ => hnext, fun h => absurd (Nat.le_refl _) h⟩
        · have e7 : gA (kf v (gA v 47) (gA v 48) (C (off + j))) 7 w = nI (clw w) := hw7
          have e49 : gI (kf v (gA v 47) (gA v 48) (C (off + j))) 49 15 = nI N := hN
          obtain ⟨e6, hl26⟩ := hlw w j
          have e6 : gA (kf v (gA v 47) (gA v 48) (C (off + j))) 6 (10 * w + j) = nI (lw w j) := e6
          simp (disch := omega) only [pk_mul, nI_add, Nat.mul_comm w 10, nI_clamp, vp_t, true_and, forall_eq, e7, e49, e6, nI_leI]
          refine ⟨fun h => by omega, fun _ => ⟨fun h => by omega, fun _ => ?_⟩⟩
          obtain ⟨nf, hnf, enf⟩ := hcn (lw w j)
          refine k_formsMay (v := kf v (gA v 47) (gA v 48) (C (off + j))) hp hp2 (by omega) hl26 enf hnf ?_
          rw [kf_56]
          have ej := elt j hj
          have efb := cS (off + j) (by rw [ej]; exact hl26)
          rw [ej] at efb
          have efb : upd (gA (kf v (gA v 47) (gA v 48) (C (off + j))) 56) (lw w j) (gA (kf v (gA v 47) (gA v 48) (C (off + j))) 56 (lw w j) &&& nI (fmX (kf v (gA v 47) (gA v 48) (C (off + j))) p (off + j) (lw w j))) = C (off + j + 1) := efb
          rw [efb]
          exact ih2
      exact inner 0 (Nat.zero_le _)
  exact outer ws [] rfl 0 rfl

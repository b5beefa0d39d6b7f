/-! persons, person: both sides agree -/
theorem p_persons {E : Nat × (Nat → Int32)} {d : Nat} {c : Nat} {v : xV} {x t : Int32} (hJ : J c v) (hc : c < 2 ^ 30) : P2 E (d + 13) 137 [.ref 0, .int x, .int t] 220 [.ref 80, .int x, .int t] v (J c) := by
  obtain ⟨n1, n2⟩ := hJ.num.2.2.2.1
  refine KI.of ok_137 (Nat.le_of_ble_eq_true rfl) (w_X11_persons_0 (k_sortX (k := 0) n1 n2 (fun hso => ⟨fun _ => ?_, fun h => absurd h nI_01⟩) (fun hso => ⟨fun h => absurd rfl h, fun _ => ?_⟩)))
  · refine k_lookAllF hJ (fun v1 K hK f1 f2 f3 => k_setX2 f2 hK f3 (fun n w cb L G hn hy sp1 sp2 => ?_))
    have hw : J c w := f2.sc hy.sc
    have bd := hy.sc.bd
    have e46 : gA w 46 = gA v1 46 := bd.2.2.1 46 (by decide)
    refine k_partX (K := K) (tr := fun s => gA v1 46 (3 * s + 1)) (P := fun s => decide (gA v1 46 (3 * s) = x)) sp1 (by funext s; exact (congrFun e46 _).symm) (fun s => by rw [e46]) hw.num.1.1 hw.num.1.2 (by rw [bd.n.1, bd.2.2.1 29 (by decide)]; exact hK) (fun w2 M q s1 s2 s3 s4 s5 => ?_)
    have hw2 : J c w2 := hw.sc s1
    have bd2 := bd.trans s1.bd
    have e87 : gA (v_I w2 80 0 (nI 0)) 87 = gA v 8 := by
      have h : gA w2 8 = gA w2 87 := hw2.1.W.2.1.2.2
      show gA w2 87 = gA v 8
      rw [← h, bd2.2.2.1 8 (by decide), f1.2.2.1 8 (by decide)]
    have eW : nW w2 = nW v := bd2.n.2.2.2.1.trans f1.n.2.2.2.1
    refine KI.of ok_220 (Nat.le_of_ble_eq_true rfl) (w_X12_persons_0 (k_sortM (v := v_I w2 80 0 (nI 0)) (N := nW v) (k := 0) (eW ▸ hw2.numM.2.2.2.1) n2 (fun _ => ⟨fun _ => ?_, fun h => absurd h nI_01⟩) (fun h => absurd hso (by rw [e87] at h; exact h))))
    refine k_partAll (v := v1) (w := v_I w2 80 0 (nI 0)) (bd2.trans (ScF.thr w2 _).bd) (hw2.thr _) hc hK hn f3 sp2 sp1.2.2 rfl (fun s => rfl) rfl s4 (fun u b1 b2 b3 b4 b5 b6 => ⟨?_, b2⟩)
    rw [s3, b5]
  · have e87 : gA (v_I v 80 0 (nI 0)) 87 = gA v 8 := hJ.1.W.2.1.2.2.symm
    refine KI.of ok_220 (Nat.le_of_ble_eq_true rfl) (w_X12_persons_0 (k_sortM (v := v_I v 80 0 (nI 0)) (N := nW v) (k := 0) hJ.numM.2.2.2.1 n2 (fun h => absurd (by rw [e87] at h; exact h) hso) (fun h => ⟨fun h => absurd rfl h, fun _ => ⟨rfl, hJ⟩⟩)))
def Nr (l : List Nat) (s : Nat) (q : Nat → Nat) (y : Int32) : Prop := (∃ i : Nat, l[i]? = some s ∧ (∀ j : Nat, j < i → ¬ l[j]? = some s) ∧ y = nI (q i)) ∨ ((∀ j : Nat, ¬ l[j]? = some s) ∧ y = -1)
theorem Nr.uniq {l : List Nat} {s : Nat} {q : Nat → Nat} {y y' : Int32} (h : Nr l s q y) (h' : Nr l s q y') : y = y' := by
  rcases h with ⟨i, a1, a2, a3⟩ | ⟨a1, a2⟩
  · rcases h' with ⟨j, b1, b2, b3⟩ | ⟨b1, b2⟩
    · rcases Nat.lt_trichotomy i j with z | z | z
      · exact absurd a1 (b2 i z)
      · rw [a3, b3, z]
      · exact absurd b1 (a2 j z)
    · exact absurd a1 (b1 i)
  · rcases h' with ⟨j, b1, b2, b3⟩ | ⟨b1, b2⟩
    · exact absurd b1 (a1 j)
    · rw [a2, b2]
theorem k_numX {E : Nat × (Nat → Int32)} {d : Nat} {S : xV} {l : List Nat} {s : Nat} {q : Nat → Nat} {Q : Int32 → xV → Prop} (hl : l.length ≤ 10) (hlK : ∀ x, x ∈ l → x < 20) (hs : s < 20) (h8 : gI S 74 8 = nI l.length) (hm : ∀ i x, l[i]? = some x → gA S 76 i = nI x) (hq : ∀ i, i < l.length → gA S 78 i = nI (q i)) (kk : ∀ y, Nr l s q y → Q y S) : KI E d 22 [.ref 74, .int (nI s)] S Q := by
  refine KI.of ok_22 (Nat.le_of_ble_eq_true rfl) (w_X2_numberOf_0 ?_)
  refine lp_up (n := l.length) (P := fun i => (∀ j, j < i → ¬ l[j]? = some s) → RI E d 22 2 [(0, .ref 74), (1, .int (nI s)), (2, .int (nI i))] S Q) (fun h => w_X2_numberOf_2 ?_) (fun i hi ih h => w_X2_numberOf_2 ?_) (Nat.zero_le _) (fun j hj => absurd hj (Nat.not_lt_zero _))
  · rw [h8]
    refine ⟨fun _ => kk _ (Or.inr ⟨fun j e => h j (List.getElem?_eq_some_iff.mp e).1 e, rfl⟩), fun z => absurd (nI_le (Nat.le_refl _) (by omega)) z⟩
  · have ei : l[i]? = some l[i] := List.getElem?_eq_getElem hi
    have hx := hlK _ (List.getElem_mem hi)
    rw [h8, nI_leI (by omega) (by omega), nI_clamp (by omega), hm i _ ei, nI_inj (by omega) (by omega), nI_add, hq i hi]
    refine ⟨fun z => by omega, fun _ => ⟨vp_in_nI (by omega) (by decide), fun z => ih (fun j hj e => ?_), fun z => ⟨vp_in_nI (by omega) (by decide), kk _ (Or.inl ⟨i, by rw [ei, z], h, rfl⟩)⟩⟩⟩
    by_cases e2 : j = i
    · subst e2
      rw [ei] at e
      cases e
      exact z rfl
    · exact h j (by omega) e
theorem k_numM {E : Nat × (Nat → Int32)} {d : Nat} {S : xV} {l : List Nat} {s : Nat} {q : Nat → Nat} {Q : Int32 → xV → Prop} (hl : l.length ≤ 10) (hlK : ∀ x, x ∈ l → x < 20) (hs : s < 20) (h8 : gI S 80 82 = nI l.length) (hm : ∀ i x, l[i]? = some x → gA S 132 i = nI x) (hq : ∀ i, i < l.length → gA S 133 i = nI (q i)) (kk : ∀ y, Nr l s q y → Q y S) : RI E (d + 1) 221 44 [(0, .ref 80), (1, .int (nI s)), (4, .int (nI 0))] S Q := by
  refine lp_up (n := l.length) (P := fun i => (∀ j, j < i → ¬ l[j]? = some s) → RI E (d + 1) 221 44 [(0, .ref 80), (1, .int (nI s)), (4, .int (nI i))] S Q) (fun h => w_X12_person_44 ?_) (fun i hi ih h => w_X12_person_44 ?_) (Nat.zero_le _) (fun j hj => absurd hj (Nat.not_lt_zero _))
  · rw [h8]
    refine ⟨fun _ => kk _ (Or.inr ⟨fun j e => h j (List.getElem?_eq_some_iff.mp e).1 e, rfl⟩), fun z => absurd (nI_le (Nat.le_refl _) (by omega)) z⟩
  · have ei : l[i]? = some l[i] := List.getElem?_eq_getElem hi
    have hx := hlK _ (List.getElem_mem hi)
    rw [h8, nI_leI (by omega) (by omega), nI_clamp (by omega), hm i _ ei, nI_inj (by omega) (by omega), nI_add, hq i hi]
    refine ⟨fun z => by omega, fun _ => ⟨vp_in_nI (by omega) (by decide), fun z => ih (fun j hj e => ?_), fun z => ⟨vp_in_nI (by omega) (by decide), kk _ (Or.inl ⟨i, by rw [ei, z], h, rfl⟩)⟩⟩⟩
    by_cases e2 : j = i
    · subst e2
      rw [ei] at e
      cases e
      exact z rfl
    · exact h j (by omega) e
theorem p_person {E : Nat × (Nat → Int32)} {d : Nat} {c : Nat} {v : xV} {x t : Int32} (hJ : J c v) (hc : c < 2 ^ 30) : P2 E (d + 13) 138 [.ref 0, .int x, .int t] 221 [.ref 80, .int x, .int t] v (J c) := by
  have no : (¬ ∃ s, s < nS v ∧ x = nI s ∧ gA v 29 s ≤ t) → KI E (d + 13) 221 [.ref 80, .int x, .int t] v (fun y2 v2 => (-1 : Int32) = y2 ∧ J c v2) := by
    intro hno
    refine KI.of ok_221 (Nat.le_of_ble_eq_true rfl) (w_X12_person_0 (k_knM (hJ.thr _) (fun s hs ex hd => absurd ⟨s, hs, ex, hd⟩ hno) (fun h => ⟨fun h => absurd rfl h, fun _ => ⟨rfl, hJ⟩⟩)))
  refine KI.of ok_138 (Nat.le_of_ble_eq_true rfl) (w_X11_person_0 (k_knX hJ (fun s hs ex hd => ⟨fun _ => ?_, fun h => absurd h nI_01⟩) (fun h => ⟨fun h => absurd rfl h, fun _ => no h⟩)))
  subst ex
  have hS20 := hJ.num.1.2
  refine k_lookAllF hJ (fun v1 K hK f1 f2 f3 => ?_)
  have hs1 : s < nS v1 := by rw [f1.n.1]; exact hs
  have hd1 : gA v1 29 s ≤ t := by rw [f1.2.2.1 29 (by decide)]; exact hd
  have hsK : s < K := (f2.kn hK s hs1).mp hd1
  have hK1 := hK.1
  have hK20 := f2.num.1.2
  -- the reference, up to its name
  have road : ∀ w (y : Int32), BdF v1 w → J c w → (∀ u, BdF v1 u → J c u → ((¬ gA v1 46 (3 * s) = -1 → KV E (d + 12) 219 [.ref 80, .int (gA v1 46 (3 * s)), .int t] u (fun v6 => RI E (d + 13) 221 44 [(0, .ref 80), (1, .int (nI s)), (4, .int (nI 0))] v6 (fun y2 v2 => y = y2 ∧ J c v2))) ∧ (gA v1 46 (3 * s) = -1 → y = -1 ∧ J c u))) → KI E (d + 13) 221 [.ref 80, .int (nI s), .int t] w (fun y2 v2 => y = y2 ∧ J c v2) := by
    intro w y bd hw h
    have e29 : gA (v_I w 80 0 (nI 0)) 29 = gA v1 29 := bd.2.2.1 29 (by decide)
    have hsw : s < nS (v_I w 80 0 (nI 0)) := bd.n.1 ▸ hs1
    refine KI.of ok_221 (Nat.le_of_ble_eq_true rfl) (w_X12_person_0 (k_knM (hw.thr _) (fun s' _ _ _ => ⟨fun _ => ?_, fun h => absurd h nI_01⟩) (fun h => absurd ⟨s, hsw, rfl, by rw [e29]; exact hd1⟩ h)))
    refine k_workF (hw.thr (nI 0)) hc (fun v2 g1 g2 g3 => ?_)
    have b2 : BdF v1 v2 := (bd.trans (ScF.thr w (nI 0)).bd).trans g1.bd
    have e103 : gA (v_I w 80 0 (nI 0)) 103 = gA v1 29 := by
      have : gA (v_I w 80 0 (nI 0)) 103 = gA (v_I w 80 0 (nI 0)) 29 := hw.1.S.2.1.2.2.2.symm
      rw [this, e29]
    refine k_firstMJ (t := t) (j := 0) g2 (by rw [b2.n.1]; exact hs1) (by decide) ((f3 s hsK).bd b2) (g3 s hsw (by rw [e103]; exact hd1)) ?_
    rw [Nat.add_zero, b2.2.2.1 46 (by decide)]
    exact h v2 b2 g2
  refine KI.of ok_74 (Nat.le_of_ble_eq_true rfl) (w_X7_firstOf_0 ?_)
  simp (disch := omega) only [nI_add, pk_mul, nI_clamp, nI_leI, nI_ltI, nI_eq, vp_t, true_and, Nat.mul_comm s 3]
  rw [Nat.add_zero]
  refine ⟨fun z => ?_, fun z => road v1 _ (BdF.refl v1) f2 (fun u b1 b2 => ⟨fun h => absurd z h, fun _ => ⟨rfl, b2⟩⟩)⟩
  refine k_setX2 f2 hK f3 (fun n w cb L G hn hy sp1 sp2 => ?_)
  have hw : J c w := f2.sc hy.sc
  have bd := hy.sc.bd
  have e46 : gA w 46 = gA v1 46 := bd.2.2.1 46 (by decide)
  refine k_partX (K := K) (tr := fun s => gA v1 46 (3 * s + 1)) (P := fun s' => decide (gA v1 46 (3 * s') = gA v1 46 (3 * s))) sp1 (by funext s; exact (congrFun e46 _).symm) (fun s => by rw [e46]) hw.num.1.1 hw.num.1.2 (by rw [bd.n.1, bd.2.2.1 29 (by decide)]; exact hK) (fun w2 M q s1 s2 s3 s4 s5 => ?_)
  have hw2 : J c w2 := hw.sc s1
  have bd2 := bd.trans s1.bd
  have hlen := mbl_len (fun s' => decide (gA v1 46 (3 * s') = gA v1 46 (3 * s))) K
  have hlt : ∀ x, x ∈ mbl (fun s' => decide (gA v1 46 (3 * s') = gA v1 46 (3 * s))) K → x < 20 := fun x hx => by
    have := mbl_lt _ K x hx
    omega
  refine k_numX (s := s) (q := q) hlen hlt (by omega) s2.1 s2.2.1 s5 (fun y hy => ?_)
  refine road w2 y bd2 hw2 (fun u b1 b2 => ⟨fun _ => ?_, fun h => absurd h z⟩)
  exact k_partAll (v := v1) (w := u) b1 b2 hc hK hn f3 sp2 sp1.2.2 rfl (fun s => rfl) rfl s4 (fun u' c1 c2 c3 c4 c5 c6 => k_numM (q := q) hlen hlt (by omega) c3 c4 c6 (fun y' hy' => ⟨hy.uniq hy', c2⟩))

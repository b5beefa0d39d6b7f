/-! all patterns read, the reference -/
def PtF (v w : xV) : Prop := w.2.2.2 = v.2.2.2 ∧ (∀ a b, ¬ (a = 80 ∧ (b = 0 ∨ b = 3 ∨ b = 6 ∨ (23 ≤ b ∧ b ≤ 31) ∨ b = 37)) → gI w a b = gI v a b) ∧ ∀ j, ¬ (96 ≤ j ∧ j ≤ 99) → gA w j = gA v j
theorem PtF.trans {u v w : xV} (h : PtF u v) (h' : PtF v w) : PtF u w := ⟨h'.1.trans h.1, fun a b hn => (h'.2.1 a b hn).trans (h.2.1 a b hn), fun j hj => (h'.2.2 j hj).trans (h.2.2 j hj)⟩
theorem PmF.pt {v w : xV} (h : PmF v w) : PtF v w := ⟨h.1, fun a b hn => h.2.1 a b (by omega), h.2.2.1⟩
theorem PtF.vI (v : xV) {k : Nat} (x : Int32) (hk : k = 0 ∨ k = 3 ∨ k = 6 ∨ (23 ≤ k ∧ k ≤ 31) ∨ k = 37) : PtF v (v_I v 80 k x) := by
  refine ⟨rfl, fun a b h => ?_, fun _ _ => rfl⟩
  rw [gI_I]
  by_cases e : a = 80
  · rw [if_pos e, if_neg (fun q => h ⟨e, by omega⟩)]
  · rw [if_neg e]
def CpF (v w : xV) : Prop := w.2.2.2 = v.2.2.2 ∧ gI w = gI v ∧ (∀ j, ¬ (96 ≤ j ∧ j ≤ 99) → gA w j = gA v j) ∧ (∀ r, 256 ≤ r → gA w 96 r = gA v 96 r) ∧ ∀ k, 1536 ≤ k → gA w 97 k = gA v 97 k
theorem CpF.refl (v : xV) : CpF v v := ⟨rfl, rfl, fun _ _ => rfl, fun _ _ => rfl, fun _ _ => rfl⟩
theorem CpF.a96 {v w : xV} (h : CpF v w) {k : Nat} (x : Int32) (hk : k < 256) : CpF v (v_A w 96 (upd (gA w 96) k x)) := by
  refine ⟨h.1, h.2.1, fun j h1 => by rw [gA_A, if_neg (by omega)]; exact h.2.2.1 j h1, fun r hr => ?_, h.2.2.2.2⟩
  show upd (gA w 96) k x r = _
  rw [upd_n _ _ (by omega)]
  exact h.2.2.2.1 r hr
theorem CpF.a97 {v w : xV} (h : CpF v w) {k : Nat} (x : Int32) (hk : k < 1536) : CpF v (v_A w 97 (upd (gA w 97) k x)) := by
  refine ⟨h.1, h.2.1, fun j h1 => by rw [gA_A, if_neg (by omega)]; exact h.2.2.1 j h1, h.2.2.2.1, fun r hr => ?_⟩
  show upd (gA w 97) k x r = _
  rw [upd_n _ _ (by omega)]
  exact h.2.2.2.2 r hr
theorem CpF.pt {v w : xV} (h : CpF v w) : PtF v w := ⟨h.1, fun a b _ => by rw [h.2.1], h.2.2.1⟩
theorem k_copyR {E : Nat × (Nat → Int32)} {d : Nat} {w : xV} {L : List (List Nat)} {Q : Int32 → xV → Prop} (hR : RwN w L) (hL : L.length ≤ 256) (h30 : gI w 80 30 = nI L.length)
    (kk : ∀ w', CpF w w' → (∀ (r : Nat) (t : List Nat), L[r]? = some t → RAt w' r t) → Q (gI w' 80 29) (v_I (v_I w' 80 37 (gI w' 80 29)) 80 6 (gI w' 80 6 + nI 1))) : RI E (d + 1) 169 75 [(0, .ref 80), (1, .int (nI 0))] w Q := by
  refine lp_up (n := L.length) (P := fun r => ∀ w', CpF w w' → (∀ (r' : Nat) (t : List Nat), r' < r → L[r']? = some t → RAt w' r' t) → RI E (d + 1) 169 75 [(0, .ref 80), (1, .int (nI r))] w' Q) (fun w' hF hd => w_X12_patterns_75 ?_) (fun r hr ih w' hF hd => w_X12_patterns_75 ?_) (Nat.zero_le _) w (CpF.refl w) (fun r' t h => absurd h (Nat.not_lt_zero _))
  · rw [show gI w' 80 30 = nI L.length by rw [hF.2.1]; exact h30]
    exact ⟨fun _ => kk w' hF (fun r t e => hd r t (List.getElem?_eq_some_iff.mp e).1 e), fun z => absurd (nI_le (Nat.le_refl _) (by omega)) z⟩
  · obtain ⟨t, et⟩ : ∃ t, L[r]? = some t := ⟨_, List.getElem?_eq_getElem hr⟩
    obtain ⟨a1, a2, a3⟩ := hR r t et
    rw [show gI w' 80 30 = nI L.length by rw [hF.2.1]; exact h30, nI_leI (by omega) (by omega), nI_add, show (nI (256 + r)).toNatClampNeg = 256 + r from nI_clamp (by omega), show (nI r).toNatClampNeg = r from nI_clamp (by omega)]
    refine ⟨fun z => by omega, fun _ => ⟨vp_in_nI (by omega) (by decide), vp_in_nI (by omega) (by decide), ?_⟩⟩
    have e96 : gA w' 96 (256 + r) = nI t.length := (hF.2.2.2.1 (256 + r) (by omega)).trans a1
    refine lp_up (n := 6) (P := fun k => ∀ w2, CpF w w2 → gA w2 96 r = nI t.length → (∀ (r' : Nat) (t : List Nat), r' < r → L[r']? = some t → RAt w2 r' t) → (∀ (j z : Nat), j < k → t[j]? = some z → gA w2 97 (6 * r + j) = nI z) → RI E (d + 1) 169 101 [(0, .ref 80), (1, .int (nI r)), (2, .int (nI k))] w2 Q) (fun w2 hF2 h96 hd2 hk2 => w_X12_patterns_101 ?_) (fun k hk ih2 w2 hF2 h96 hd2 hk2 => w_X12_patterns_101 ?_) (Nat.zero_le _) _ (hF.a96 _ (by omega)) ?_ ?_ (fun j z h => absurd h (Nat.not_lt_zero _))
    · rw [nI_add]
      refine ⟨fun _ => ih w2 hF2 (fun r' t' hr' e' => ?_), fun z => absurd (by decide) z⟩
      by_cases q : r' = r
      · subst q
        rw [et] at e'
        cases e'
        exact ⟨h96, a2, fun j z ej => ⟨(a3 j z ej).1, hk2 j z (by have := (List.getElem?_eq_some_iff.mp ej).1; omega) ej⟩⟩
      · exact hd2 r' t' (by omega) e'
    · simp only [pk_mul, nI_add]
      rw [nI_leI (by decide) (by omega), nI_clamp (by omega), nI_clamp (by omega)]
      refine ⟨fun z => by omega, fun _ => ⟨vp_in_nI (by omega) (by decide), vp_in_nI (by omega) (by decide), ih2 _ (hF2.a97 _ (by omega)) h96 ?_ ?_⟩⟩
      · intro r' t' hr' e'
        obtain ⟨b1, b2, b3⟩ := hd2 r' t' hr' e'
        refine ⟨b1, b2, fun j z ej => ⟨(b3 j z ej).1, ?_⟩⟩
        have hj := (List.getElem?_eq_some_iff.mp ej).1
        show upd (gA w2 97) (6 * r + k) _ (6 * r' + j) = _
        rw [upd_n _ _ (by omega)]
        exact (b3 j z ej).2
      · intro j z hj ej
        show upd (gA w2 97) (6 * r + k) (gA w2 97 (6 * (256 + r) + k)) (6 * r + j) = _
        rw [upd_i]
        by_cases q : j = k
        · subst q
          rw [if_pos rfl, hF2.2.2.2.2 _ (by omega)]
          exact (a3 j z ej).2
        · rw [if_neg (by omega)]
          exact hk2 j z (by omega) ej
    · show upd (gA w' 96) r (gA w' 96 (256 + r)) r = _
      rw [upd_s, e96]
    · intro r' t' hr' e'
      obtain ⟨b1, b2, b3⟩ := hd r' t' hr' e'
      refine ⟨?_, b2, b3⟩
      show upd (gA w' 96) r (gA w' 96 (256 + r)) r' = _
      rw [upd_n _ _ (by omega)]
      exact b1
theorem k_patM {E : Nat × (Nat → Int32)} {d : Nat} {v : xV} {B : Nat → Nat} {n : Nat} {Q : Int32 → xV → Prop} (hn : gI v 80 3 = nI n) (hn2 : n ≤ 240) (hB : ∀ k, k < n → gA v 81 k = nI (B k) ∧ B k < 256)
    (kF : ∀ (w' : xV) (k pl : Nat) (dn : Pats), PtF v w' → (∀ r, r < 256 → gA w' 96 r = gA v 96 r) → (∀ k, k < 1536 → gA w' 97 k = gA v 97 k) → gI w' 80 30 = gI v 80 30 → gI w' 80 37 = gI v 80 37 → gI w' 80 6 = gI v 80 6 → gI w' 80 3 = nI 0 → gI w' 80 27 = nI k → (1 ≤ k ∧ k ≤ 3) → pl ≤ 240 → prs B n 241 0 [] [] false = (k, pl, dn) → Q (-1 - nI pl) w')
    (kN : ∀ (w' : xV) (dn : Pats) (L : List (List Nat)), PtF v w' → gI w' 80 30 = nI L.length → gI w' 80 37 = nI dn.length → gI w' 80 6 = gI v 80 6 + nI 1 → gI w' 80 3 = nI 0 → gI w' 80 27 = nI 0 → (∀ (r : Nat) (t : List Nat), L[r]? = some t → RAt w' r t) → L.Nodup → L.length ≤ 256 → (∀ t, t ∈ L ↔ ∃ l, l ∈ dn ∧ t ∈ lang l) → prs B n 241 0 [] [] false = (0, 0, dn) → Q (nI dn.length) w') : KI E (d + 4) 169 [.ref 80] v Q := by
  refine KI.of ok_169 (Nat.le_of_ble_eq_true rfl) (w_X12_patterns_0 (k_take ?_))
  rw [show gI (v_I v 80 0 (nI 0)) 80 3 = nI n from hn]
  have hU : PtF v (v_I (v_I (v_I (v_I (v_I (v_I (v_I v 80 0 (nI 0)) 80 3 (nI 0)) 80 23 (nI n)) 80 27 (nI 0)) 80 29 (nI 0)) 80 31 (nI 0)) 80 24 (nI 0)) := ((((((PtF.vI v _ (by omega)).trans (PtF.vI _ _ (by omega))).trans (PtF.vI _ _ (by omega))).trans (PtF.vI _ _ (by omega))).trans (PtF.vI _ _ (by omega))).trans (PtF.vI _ _ (by omega))).trans (PtF.vI _ _ (by omega))
  have u23 : gI (v_I (v_I (v_I (v_I (v_I (v_I (v_I v 80 0 (nI 0)) 80 3 (nI 0)) 80 23 (nI n)) 80 27 (nI 0)) 80 29 (nI 0)) 80 31 (nI 0)) 80 24 (nI 0)) 80 23 = nI n := rfl
  have u3 : gI (v_I (v_I (v_I (v_I (v_I (v_I (v_I v 80 0 (nI 0)) 80 3 (nI 0)) 80 23 (nI n)) 80 27 (nI 0)) 80 29 (nI 0)) 80 31 (nI 0)) 80 24 (nI 0)) 80 3 = nI 0 := rfl
  have u27 : gI (v_I (v_I (v_I (v_I (v_I (v_I (v_I v 80 0 (nI 0)) 80 3 (nI 0)) 80 23 (nI n)) 80 27 (nI 0)) 80 29 (nI 0)) 80 31 (nI 0)) 80 24 (nI 0)) 80 27 = nI 0 := rfl
  have u29 : gI (v_I (v_I (v_I (v_I (v_I (v_I (v_I v 80 0 (nI 0)) 80 3 (nI 0)) 80 23 (nI n)) 80 27 (nI 0)) 80 29 (nI 0)) 80 31 (nI 0)) 80 24 (nI 0)) 80 29 = nI 0 := rfl
  have u31 : gI (v_I (v_I (v_I (v_I (v_I (v_I (v_I v 80 0 (nI 0)) 80 3 (nI 0)) 80 23 (nI n)) 80 27 (nI 0)) 80 29 (nI 0)) 80 31 (nI 0)) 80 24 (nI 0)) 80 31 = nI 0 := rfl
  have u24 : gI (v_I (v_I (v_I (v_I (v_I (v_I (v_I v 80 0 (nI 0)) 80 3 (nI 0)) 80 23 (nI n)) 80 27 (nI 0)) 80 29 (nI 0)) 80 31 (nI 0)) 80 24 (nI 0)) 80 24 = nI 0 := rfl
  have u30 : gI (v_I (v_I (v_I (v_I (v_I (v_I (v_I v 80 0 (nI 0)) 80 3 (nI 0)) 80 23 (nI n)) 80 27 (nI 0)) 80 29 (nI 0)) 80 31 (nI 0)) 80 24 (nI 0)) 80 30 = gI v 80 30 := rfl
  have u37 : gI (v_I (v_I (v_I (v_I (v_I (v_I (v_I v 80 0 (nI 0)) 80 3 (nI 0)) 80 23 (nI n)) 80 27 (nI 0)) 80 29 (nI 0)) 80 31 (nI 0)) 80 24 (nI 0)) 80 37 = gI v 80 37 := rfl
  have u6 : gI (v_I (v_I (v_I (v_I (v_I (v_I (v_I v 80 0 (nI 0)) 80 3 (nI 0)) 80 23 (nI n)) 80 27 (nI 0)) 80 29 (nI 0)) 80 31 (nI 0)) 80 24 (nI 0)) 80 6 = gI v 80 6 := rfl
  have uA : gA (v_I (v_I (v_I (v_I (v_I (v_I (v_I v 80 0 (nI 0)) 80 3 (nI 0)) 80 23 (nI n)) 80 27 (nI 0)) 80 29 (nI 0)) 80 31 (nI 0)) 80 24 (nI 0)) = gA v := rfl
  generalize v_I (v_I (v_I (v_I (v_I (v_I (v_I v 80 0 (nI 0)) 80 3 (nI 0)) 80 23 (nI n)) 80 27 (nI 0)) 80 29 (nI 0)) 80 31 (nI 0)) 80 24 (nI 0) = u at *
  have uB : ∀ k, k < n → gA u 81 k = nI (B k) ∧ B k < 256 := by rw [uA]; exact hB
  have gn : ∀ w', PmF u w' → gI w' 80 23 = nI n := fun w' h => (h.2.1 80 23 (by decide)).trans u23
  have gB' : ∀ w', PmF u w' → ∀ k, k < n → gA w' 81 k = nI (B k) ∧ B k < 256 := fun w' h => by rw [h.2.2.1 81 (by decide)]; exact uB
  have loop : ∀ N i w (dn : Pats) (L : List (List Nat)) (f : Nat), n + 1 ≤ i + N → i ≤ n → PmF u w → Tk B n w i → RpM w dn L → Wf i dn [] false → gI w 80 27 = nI 0 → 241 ≤ f + i → prs B n 241 0 [] [] false = prs B n f i dn [] false → RI E (d + 4) 169 37 [(0, .ref 80)] w Q := by
    intro N
    induction N with
    | zero => intro i w dn L f h1 h2; omega
    | succ N ih =>
      intro i w dn L f hN hi hF hT hR hW h27 hf hX
      refine w_X12_patterns_37 ⟨fun z => ?_, fun z => ?_⟩
      · have hX0 : prs B n 241 0 [] [] false = (0, 0, dn) := by
          rcases hT with ⟨pl, t1, _⟩ | ⟨t1, t2, t4⟩ | ⟨p, t1, _⟩ | ⟨p, t1, _⟩ | ⟨p, e, t1, _⟩
          · rw [t1] at z; exact absurd z (by decide)
          · rw [hX, t4 f dn [] false hf, if_pos rfl]
          · rw [t1] at z; exact absurd z (by decide)
          · rw [t1] at z; exact absurd z (by decide)
          · rw [t1] at z; exact absurd z (by decide)
        obtain ⟨r1, r2, r3, r4, r5⟩ := hR
        have hL : L.length ≤ 256 := by
          have hsub : L ⊆ dn.flatMap lang := fun t ht => by
            rw [List.mem_flatMap]
            exact (r5 t).mp ht
          have := r4.length_le_of_subset hsub
          rw [rwN_len] at this
          have := hW.2.2.2.2
          omega
        have hg := hU.trans (hF.pt.trans (PtF.vI w (k := 30) (gI w 80 31) (by omega)))
        refine k_copyR (L := L) (w := v_I w 80 30 (gI w 80 31)) r3 hL r2 (fun w' hC hr => ?_)
        have c29 : gI w' 80 29 = nI dn.length := by rw [hC.2.1]; exact r1
        rw [c29]
        refine kN _ dn L (hg.trans (hC.pt.trans ((PtF.vI w' _ (by omega)).trans (PtF.vI _ _ (by omega))))) ?_ rfl ?_ ?_ ?_ hr r4 hL r5 hX0
        · show gI w' 80 30 = _
          rw [hC.2.1]
          exact r2
        · show gI w' 80 6 + nI 1 = _
          rw [hC.2.1]
          show gI w 80 6 + nI 1 = _
          rw [hF.2.1 80 6 (by decide), u6]
        · show gI w' 80 3 = _
          rw [hC.2.1]
          exact (hF.2.1 80 3 (by decide)).trans u3
        · show gI w' 80 27 = _
          rw [hC.2.1]
          exact h27
      · refine k_readP (gn u (PmF.refl u)) hn2 (gB' u (PmF.refl u)) hF hi hT hR hW h27 hf hX z (fun w' k pl dn' g1 g2 g3 g4 g5 g6 => ⟨fun q => absurd rfl q, fun _ => ?_⟩) (fun w' i' dn' L' f' g1 g2 g3 g4 g5 g6 g7 g8 g9 => ⟨fun _ => ?_, fun q => absurd q nI_01⟩)
        · rw [g3]
          refine kF w' k pl dn' (hU.trans g1.pt) (fun r hr => by rw [g1.2.2.2.1 r hr, uA]) (fun k hk => by rw [g1.2.2.2.2 k hk, uA]) ((g1.2.1 80 30 (by decide)).trans u30) ((g1.2.1 80 37 (by decide)).trans u37) ((g1.2.1 80 6 (by decide)).trans u6) ((g1.2.1 80 3 (by decide)).trans u3) g2 g4 g5 g6
        · refine k_goT (gn w' g1) hn2 (gB' w' g1) g4 g3 (fun w2 hG hT2 => ?_)
          exact ih i' w2 dn' L' f' (by omega) g3 (g1.trans hG.pm) hT2 (g5.go hG) g6 ((hG.2 80 27 (by decide)).trans g7) g8 g9
  refine k_goT (gn u (PmF.refl u)) hn2 (gB' u (PmF.refl u)) u24 (Nat.zero_le _) (fun w hG hT => ?_)
  have hRw : RwN w [] := fun r t e => by rw [List.getElem?_nil] at e; exact nomatch e
  refine loop (n + 1) 0 w [] [] 241 (by omega) (Nat.zero_le _) hG.pm hT ⟨(hG.2 80 29 (by decide)).trans u29, (hG.2 80 31 (by decide)).trans u31, hRw, List.nodup_nil, fun t => ⟨fun h => absurd h List.not_mem_nil, fun ⟨l, h, _⟩ => absurd h List.not_mem_nil⟩⟩ Wf.zero ((hG.2 80 27 (by decide)).trans u27) (by decide) rfl

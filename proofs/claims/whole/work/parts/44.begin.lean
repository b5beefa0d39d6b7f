def x_S0 : xS := (fun _ _ => 0, fun _ _ => 0, fun _ _ => none, fun _ _ => 0, fun _ _ => 0, fun _ => 0, fun _ => 999, 0, 0, 0)
def x_G1 : Option xG := x_go 3000 40 239 (some 23) 0 [(0, .ref 1000000)] [] x_S0
def x_lv1 : List (Nat × Value) := [(4, .int (nI 0)), (3, .ref 139), (2, .ref 80), (1, .ref 0), (0, .ref 1000000)]
def x_ints : List (Nat × Nat × Int32) := [(0, 12, nI 0), (0, 13, nI 0), (1, 1, nI 0), (3, 7, nI 0), (11, 5, nI 0), (11, 6, nI 0), (11, 7, nI 0), (17, 4, nI 0), (17, 5, nI 0), (17, 6, nI 0), (17, 7, nI 0), (17, 8, nI 0), (21, 3, nI 1), (21, 4, nI 0), (25, 12, nI 0), (25, 13, nI 0), (25, 14, nI 0), (49, 14, (-1)), (49, 15, nI 0), (60, 6, nI 0), (67, 10, nI 0), (67, 11, nI 0), (67, 12, nI 1), (74, 4, nI 0), (74, 8, nI 0), (74, 9, nI 0), (80, 0, nI 0), (80, 3, nI 0), (80, 4, nI 0), (80, 5, nI 0), (80, 6, nI 1), (80, 20, nI 0), (80, 21, nI 0), (80, 22, nI 0), (80, 23, nI 0), (80, 24, nI 0), (80, 25, nI 0), (80, 26, nI 0), (80, 27, nI 0), (80, 28, nI 0), (80, 29, nI 0), (80, 30, nI 0), (80, 31, nI 0), (80, 37, nI 0), (80, 50, nI 0), (80, 51, nI 0), (80, 52, nI 0), (80, 61, nI 0), (80, 62, nI 0), (80, 70, nI 0), (80, 72, nI 0), (80, 73, nI 0), (80, 82, nI 0), (80, 83, nI 0)]
def x_chkG (g : xG) : Bool := decide (g.1 = x_lv1 ∧ g.2.1 = [] ∧ g.2.2.2 = 23) && decide (x_n g.2.2.1 = 140 ∧ x_k g.2.2.1 = 140 ∧ x_z g.2.2.1 = 133535)
  && (List.range 140).all (fun i => decide (x_K g.2.2.1 i = x_K0 i) && decide (x_N g.2.2.1 i = x_N0 i) && (List.range (x_nf (x_K0 i))).all (fun k => decide (x_P g.2.2.1 i k = x_P0 57 i k)))
  && x_ints.all (fun q => decide (x_I g.2.2.1 q.1 q.2.1 = q.2.2)) && decide (x_L g.2.2.1 80 32 = 0)
  && (List.range 12).all (fun a => (List.range 12).all (fun b => decide (x_A g.2.2.1 12 (12 * a + b) = if a = b then nI 0 else nI 1000000)))
  && (List.range 5).all (fun a => decide (x_A g.2.2.1 23 a = -1))
theorem x_G1_ok : (match x_G1 with
  | some g => x_chkG g
  | none => false) = true := by decide +kernel
def x_S1 : xS := match x_G1 with
  | some g => g.2.2.1
  | none => x_S0
theorem x_G1_g : ∃ g, x_G1 = some g ∧ x_S1 = g.2.2.1 ∧ x_chkG g = true := by
  have h := x_G1_ok
  unfold x_S1
  cases hg : x_G1 with
  | none => rw [hg] at h; cases h
  | some g => rw [hg] at h; exact ⟨g, rfl, rfl, h⟩
def v0 : xV := (x_I x_S1, x_L x_S1, x_A x_S1, x_B x_S1, fun _ => 0, 57, 140, 140, 133535)
theorem x_S1_all : (x_n x_S1 = 140 ∧ x_k x_S1 = 140 ∧ x_z x_S1 = 133535) ∧ (∀ i, i < 140 → x_K x_S1 i = x_K0 i ∧ x_N x_S1 i = x_N0 i ∧ ∀ k, k < x_nf (x_K0 i) → x_P x_S1 i k = x_P0 57 i k) ∧ (∀ q ∈ x_ints, x_I x_S1 q.1 q.2.1 = q.2.2) ∧ x_L x_S1 80 32 = 0 ∧ (∀ a, a < 12 → ∀ b, b < 12 → x_A x_S1 12 (12 * a + b) = if a = b then nI 0 else nI 1000000) ∧ (∀ a, a < 5 → x_A x_S1 23 a = -1) := by
  obtain ⟨g, h1, h2, h3⟩ := x_G1_g
  rw [h2]
  simp only [x_chkG, Bool.and_eq_true, List.all_eq_true, decide_eq_true_eq, List.mem_range] at h3
  obtain ⟨⟨⟨⟨⟨⟨a1, a2⟩, a3⟩, a4⟩, a5⟩, a6⟩, a7⟩ := h3
  exact ⟨a2, fun i hi => ⟨(a3 i hi).1.1, (a3 i hi).1.2, (a3 i hi).2⟩, a4, a5, a6, a7⟩
theorem x_S1_Z : x_Z x_S1 := by
  obtain ⟨g, h1, h2, h3⟩ := x_G1_g
  rw [h2]
  exact x_go_Z _ _ _ _ _ _ _ _ _ h1 ⟨fun _ => Or.inr (Or.inr rfl), fun _ => rfl⟩
theorem x_PT_lt : x_PT.all (fun l => l.all (fun o => match o with
  | some r => decide (r < 140)
  | none => true)) = true := by decide +kernel
theorem x_P0_lt {n b i k r : Nat} (hb : b + 2 < n) (hn : 140 ≤ n) (h : x_P0 b i k = some r) : r < n := by
  have tb : ∀ i k r, (x_PT.getD i []).getD k none = some r → r < 140 := by
    intro i k r h
    simp only [List.getD_eq_getElem?_getD] at h
    cases h1 : x_PT[i]? with
    | none => rw [h1] at h; simp at h
    | some l =>
      rw [h1, Option.getD_some] at h
      cases h2 : l[k]? with
      | none => rw [h2] at h; simp at h
      | some o =>
        rw [h2, Option.getD_some] at h
        have q1 := List.all_eq_true.mp (List.all_eq_true.mp x_PT_lt l (List.mem_of_getElem? h1)) o (List.mem_of_getElem? h2)
        rw [h] at q1
        exact of_decide_eq_true q1
  unfold x_P0 at h
  split at h
  · split at h
    · cases h; omega
    · split at h
      · cases h; omega
      · split at h
        · cases h; omega
        · have := tb _ _ _ h; omega
  · have := tb _ _ _ h; omega
theorem x_wf_rt {v : xV} (h1 : 140 ≤ gn v) (h2 : gn v ≤ x_ext0) (h3 : gb v + 2 < gn v) : x_wf (rt v) := by
  refine ⟨h2, fun j hj => ?_, fun i k r hr => Or.inl (x_P0_lt h3 h1 hr)⟩
  have hj : gK v j < 200 := hj
  show j < gn v
  unfold gK at hj
  by_cases a : j < 140
  · omega
  · rw [if_neg a] at hj
    by_cases b : j < gn v
    · exact b
    · rw [if_neg b] at hj; omega
/-- states that look the same -/
theorem x_same {E : Nat × (Nat → Int32)} {d m pc : Nat} {lv : List (Nat × Value)} {st : List Value} {S T S' : xS} {r : Option Value} (hw : ∀ cs al, x_w cs al S = x_w cs al T) (hn : x_n S = x_n T) (hk : x_k S = x_k T) (hz : x_z S = x_z T) (hf : x_wf T) (h : x_Rw E d m pc lv st T r S') : x_Rw E d m pc lv st S r S' := by
  refine ⟨by rw [hn, hk, hz]; exact h.1, ?_⟩
  intro l p e R s mid args below meth c A D cs q al H locs ls cells slots Q C X hl w1 w2 hc hs kk
  rw [hk] at hc
  rw [hz] at hs
  rw [hn] at w1 w2
  refine h.2 l p e R s mid args below meth c A D cs q al H locs ls cells slots Q C ⟨by rw [← hw]; exact X.1, by rw [← hw]; exact X.2.1, X.2.2.1, X.2.2.2.1, hf⟩ hl w1 w2 hc hs (fun al' H' locs' ls' pc' x1 X1 w3 hr => ?_)
  have := kk al' H' locs' ls' pc' (by rw [hn]; exact x1) X1 w3 hr
  rw [hk, hz] at this
  exact this
theorem x_toV {S : xS} {z : Nat} (n1 : x_n S = 140) (n4 : ∀ i, i < 140 → x_K S i = x_K0 i ∧ x_N S i = x_N0 i ∧ ∀ k, k < x_nf (x_K0 i) → x_P S i k = x_P0 57 i k) (cs : ClassId × ClassId × ClassId) (al : Nat → Nat) : x_w cs al S = x_w cs al (rt (x_I S, x_L S, x_A S, x_B S, fun _ => 0, 57, 140, 140, z)) := by
  unfold x_w
  rw [n1]
  refine List.map_congr_left (fun i hi => ?_)
  have hi : i < 140 := List.mem_range.mp hi
  obtain ⟨m1, m2, m3⟩ := n4 i hi
  have e1 : x_K (rt (x_I S, x_L S, x_A S, x_B S, fun _ => 0, 57, 140, 140, z)) i = x_K0 i := gK_s hi
  have e2 : x_N (rt (x_I S, x_L S, x_A S, x_B S, fun _ => 0, 57, 140, 140, z)) i = x_N0 i := gN_s hi
  have hfs : x_fs al S i (x_K0 i) = x_fs al (rt (x_I S, x_L S, x_A S, x_B S, fun _ => 0, 57, 140, 140, z)) i (x_K0 i) := by
    unfold x_fs
    refine List.map_congr_left (fun k hk => ?_)
    unfold x_fv
    rw [m3 k (List.mem_range.mp hk)]
    rfl
  unfold x_cell
  rw [m1, m2, e1, e2, hfs]
  rfl
theorem x_begin {E : Nat × (Nat → Int32)} {S' : xS} {r : Option Value} (h : x_Rw E 40 239 23 [(0, .ref 1000000), (1, .ref 0), (2, .ref 80), (3, .ref 139), (4, .int (nI 0))] [] (rt v0) r S') : x_Rw E 40 239 0 [(0, .ref 1000000)] [] x_S0 r S' := by
  obtain ⟨g, h1, h2, h3⟩ := x_G1_g
  have hall := x_S1_all
  obtain ⟨i1, i2⟩ := x_go_ok (E := E) _ _ _ _ _ _ _ _ _ h1
  simp only [x_chkG, Bool.and_eq_true, decide_eq_true_eq] at h3
  obtain ⟨⟨⟨⟨⟨⟨⟨b1, b2, b3⟩, -⟩, -⟩, -⟩, -⟩, -⟩, -⟩ := h3
  have := i2.1 (by rw [b3]) r S'
  rw [b1, b2, b3, ← h2] at this
  refine this (x_sub [4, 3, 2, 1, 0] rfl ?_)
  obtain ⟨⟨n1, n2, n3⟩, n4, -⟩ := hall
  refine x_same (T := rt v0) (fun cs al => ?_) n1 n2 n3 (x_wf_rt (Nat.le_refl _) (by decide) (by decide)) h
  exact x_toV n1 n4 cs al

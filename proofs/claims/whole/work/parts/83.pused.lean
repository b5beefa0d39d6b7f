/-! used, agree, reading: both sides agree -/
def FX (v : xV) (s : Nat) (t : Int32) : Prop := Fresh v (mrows v (nR v)) t (nP v) (nD v) s
def FM (v : xV) (s : Nat) (t : Int32) : Prop := FreshM v t (nP v) (nD v) (nR v) s
theorem RdF.mr {v v' : xV} (h : RdF v v') : mrows v' (nR v') = mrows v (nR v) := by
  rw [h.n.2.2.2.2.1]
  unfold mrows rw1
  rw [h.2.2.1 96 (by decide), h.2.2.1 97 (by decide)]
theorem WkF.mr {v v' : xV} (h : WkF v v') : mrows v' (nR v') = mrows v (nR v) := by
  rw [h.n.2.2.2.2.1]
  unfold mrows rw1
  rw [h.2.2.2 96 (by decide), h.2.2.2 97 (by decide)]
theorem FX.rd {v v' : xV} {s : Nat} {t : Int32} (h : FX v s t) (hF : RdF v v') (hE : SameE v v' s) : FX v' s t := by
  unfold FX
  rw [hF.mr, hF.n.2.1, hF.n.2.2.1]
  exact Fresh.mv h hF hE
theorem WkF.sl {v v' : xV} (h : WkF v v') : SameL v v' := by
  have w : ∀ j, j < 112 → gA v' j = gA v j := fun j hj => h.2.2.2 j (by omega)
  exact ⟨h.2.2.1 3 7 (by decide), w 4 (by decide), w 5 (by decide), w 6 (by decide), w 7 (by decide), w 8 (by decide), w 9 (by decide), w 32 (by decide), w 33 (by decide), w 37 (by decide)⟩
theorem WkF.se {v v' : xV} (h : WkF v v') (s : Nat) : SameE v v' s := by
  have w : ∀ j, j < 112 → gA v' j = gA v j := fun j hj => h.2.2.2 j (by omega)
  unfold SameE
  rw [w 39 (by decide), w 40 (by decide), w 41 (by decide), w 42 (by decide), w 43 (by decide), w 44 (by decide), w 45 (by decide), w 46 (by decide), w 47 (by decide), w 48 (by decide)]
  exact SameE.refl v s
theorem FX.wk {v v' : xV} {s : Nat} {t : Int32} (h : FX v s t) (hF : WkF v v') : FX v' s t := by
  have w : ∀ j, j < 112 → gA v' j = gA v j := fun j hj => hF.2.2.2 j (by omega)
  unfold FX
  rw [hF.mr, hF.n.2.1, hF.n.2.2.1]
  intro N hN hN'
  rw [w 28 (by decide)] at hN
  have := (h N hN hN').mv hF.sl (hF.se s)
  unfold evP evD
  rw [w 30 (by decide), w 31 (by decide), w 34 (by decide), w 35 (by decide), w 36 (by decide)]
  exact this
theorem k_lookF {E : Nat × (Nat → Int32)} {d : Nat} {v : xV} {c s : Nat} {t : Int32} {Q : xV → Prop} (hJ : J c v) (hs : s < nS v) (kk : ∀ v', RdF v v' → J c v' → FX v' s t → (∀ s', s' ≠ s → SameE v v' s') → Q v') : KV E (d + 11) 53 [.ref 49, .int (nI s), .int t] v Q :=
  k_lookJ hJ hs (fun v' f1 f2 f3 f4 => kk v' f1 f2 (by unfold FX; rw [f1.mr, f1.n.2.1, f1.n.2.2.1]; exact f3) f4)
theorem k_workF {E : Nat × (Nat → Int32)} {d : Nat} {v : xV} {c : Nat} {t : Int32} {Q : xV → Prop} (hJ : J c v) (hc : c < 2 ^ 30) (kk : ∀ v', WkF v v' → J c v' → (∀ s, s < nS v → gA v 103 s ≤ t → FM v' s t) → Q v') : KV E (d + 5) 182 [.ref 80, .int t] v Q :=
  k_workJ hJ hc (fun v' f1 f2 f3 => kk v' f1 f2 (fun s hs hd => by unfold FM; rw [f1.n.2.1, f1.n.2.2.1, f1.n.2.2.2.2.1]; exact f3 s hs hd))
/-- the reading as of t -/
def rW (v : xV) (s : Nat) (t : Int32) (N : Nat) : List Nat := RDw v (mrows v (nR v)) N (evP v s t (nP v)) (evD v s t (nD v))
def rV (v : xV) (s : Nat) (t : Int32) (N : Nat) : Vl := RDv v (mrows v (nR v)) N (evP v s t (nP v)) (evD v s t (nD v))
def rU (v : xV) (s : Nat) (t : Int32) (N : Nat) : Nat → Int32 := UsedX v (evP v s t (nP v)) (rW v s t N)
theorem FX.c {v : xV} {s N : Nat} {t : Int32} (h : FX v s t) (hN : gA v 28 s = nI N) (hN' : 1 ≤ N ∧ N ≤ 24) : gA v 42 s = eX (vc (rV v s t N)) ∧ gA v 43 s = eX (vn (rV v s t N)) ∧ gA v 44 s = nI (rW v s t N).length ∧ (∀ i w, (rW v s t N)[i]? = some w → gA v 45 (6 * s + i) = nI w) ∧ (∀ j, j < 3 → gA v 46 (3 * s + j) = fstI (fun w => (gA v 8 w).toNatClampNeg) j (rW v s t N)) ∧ (∀ l, l < 26 → gA v 47 (26 * s + l) = rU v s t N l) ∧ gA v 48 s = nI (cntU (rU v s t N) 26) := h N hN hN'
theorem FM.c {v : xV} {c s N : Nat} {t : Int32} (hJ : J c v) (h : FM v s t) (hN : gA v 28 s = nI N) (hN' : 1 ≤ N ∧ N ≤ 24) : MOK v s (rV v s t N) (rW v s t N) := by
  have := h N (by rw [← hJ.1.S.2.1.2.2.1]; exact hN) hN'
  rw [hJ.gx] at this
  exact this
theorem rW_len {v : xV} {s N : Nat} {t : Int32} : (rW v s t N).length ≤ 6 := rdl_len _ _ _ _
theorem rW_lt {c : Nat} {v : xV} {s N : Nat} {t : Int32} (hJ : J c v) : ∀ w, w ∈ rW v s t N → w < nW v := by
  intro w hw
  have := rdl_lt _ _ _ _ w hw
  rw [Gx_W hJ.wl] at this
  exact this
theorem rW_0 {v : xV} {s N : Nat} {t : Int32} (hN : 1 ≤ N) : (rV v s t N = none ∧ rW v s t N = []) ∨ ∃ c n p, rV v s t N = some (c, n, p) ∧ rW v s t N ≠ [] := by
  have h0 : 0 < cN (Gx v (LCx v (evP v s t (nP v)) (evD v s t (nD v))) N) := by show 0 < N; omega
  match e : rV v s t N with
  | none =>
    refine Or.inl ⟨rfl, ?_⟩
    have e : UL (Gx v (LCx v (evP v s t (nP v)) (evD v s t (nD v))) N) (mrows v (nR v)) 0 = none := e
    show rdl (Gx v (LCx v (evP v s t (nP v)) (evD v s t (nD v))) N) 6 (mrows v (nR v)) 0 = []
    show (if 0 < cN (Gx v (LCx v (evP v s t (nP v)) (evD v s t (nD v))) N) then _ else _) = _
    rw [if_pos h0, e]
  | some (a, n, p) =>
    refine Or.inr ⟨a, n, p, rfl, ?_⟩
    have e : UL (Gx v (LCx v (evP v s t (nP v)) (evD v s t (nD v))) N) (mrows v (nR v)) 0 = some (a, n, p) := e
    show rdl (Gx v (LCx v (evP v s t (nP v)) (evD v s t (nD v))) N) (5 + 1) (mrows v (nR v)) 0 ≠ []
    rw [rdl_s h0 e]
    exact List.cons_ne_nil _ _
theorem k_usedF {E : Nat × (Nat → Int32)} {d : Nat} {v : xV} {c s l N : Nat} {t : Int32} {Q : Int32 → xV → Prop} (hJ : J c v) (hs : s < nS v) (hl : l < 26) (hN : gA v 28 s = nI N) (hN' : 1 ≤ N ∧ N ≤ 24) (hF : FM v s t) (kk : Q (rU v s t N l) v) : KI E (d + 1) 191 [.ref 80, .int (nI s), .int (nI l), .int t] v Q := k_usedJ hJ hs hl hN hN'.2 hF kk
/-- known to both -/
theorem k_knM {E : Nat × (Nat → Int32)} {d : Nat} {v : xV} {c : Nat} {x t : Int32} {Q : Int32 → xV → Prop} (hJ : J c v) (k1 : ∀ s, s < nS v → x = nI s → gA v 29 s ≤ t → Q (nI 1) v) (k2 : (¬ ∃ s, s < nS v ∧ x = nI s ∧ gA v 29 s ≤ t) → Q (nI 0) v) : KI E (d + 1) 173 [.ref 80, .int x, .int t] v Q := by
  have e : gA v 103 = gA v 29 := hJ.1.S.2.1.2.2.2.symm
  refine k_knownM hJ.numM.1 hJ.num.1.2 ?_ ?_
  · rw [e]
    exact k1
  · rw [e]
    exact k2
theorem k_knX {E : Nat × (Nat → Int32)} {d : Nat} {v : xV} {c : Nat} {x t : Int32} {Q : Int32 → xV → Prop} (hJ : J c v) (k1 : ∀ s, s < nS v → x = nI s → gA v 29 s ≤ t → Q (nI 1) v) (k2 : (¬ ∃ s, s < nS v ∧ x = nI s ∧ gA v 29 s ≤ t) → Q (nI 0) v) : KI E (d + 1) 8 [.ref 25, .int x, .int t] v Q := k_knownX hJ.num.1.1 hJ.num.1.2 k1 k2
theorem p_used {E : Nat × (Nat → Int32)} {d : Nat} {c : Nat} {v : xV} {x y t : Int32} (hJ : J c v) (hc : c < 2 ^ 30) : P2 E (d + 12) 130 [.ref 0, .int x, .int y, .int t] 193 [.ref 80, .int x, .int y, .int t] v (J c) := by
  have no : (¬ ∃ s l, (s < nS v ∧ l < 26) ∧ x = nI s ∧ gA v 29 s ≤ t ∧ y = nI l) → KI E (d + 12) 193 [.ref 80, .int x, .int y, .int t] v (fun y2 v2 => (-1 : Int32) = y2 ∧ J c v2) := by
    intro hno
    refine KI.of ok_193 (Nat.le_of_ble_eq_true rfl) (w_X12_used_0 (k_knM (hJ.thr _) (fun s hs ex hd => ⟨fun h => absurd h nI_01, fun _ => k_inN (by decide) (fun l hl el => absurd ⟨s, l, ⟨hs, by omega⟩, ex, hd, el⟩ hno) (fun h => ⟨fun h => absurd rfl h, fun _ => ⟨rfl, hJ⟩⟩)⟩) (fun h => ⟨fun _ => ⟨rfl, hJ⟩, fun h => absurd rfl h⟩)))
  refine KI.of ok_130 (Nat.le_of_ble_eq_true rfl) (w_X11_used_0 (k_knX hJ (fun s hs ex hd => ⟨fun h => absurd h nI_01, fun _ => k_let (fun l hl el => ⟨fun _ => ?_, fun h => absurd h nI_01⟩) (fun h => ⟨fun h => absurd rfl h, fun _ => no (fun ⟨s, l, h1, h2, h3, h4⟩ => h ⟨l, h1.2, h4⟩)⟩)⟩) (fun h => ⟨fun _ => no (fun ⟨s, l, h1, h2, h3, h4⟩ => h ⟨s, h1.1, h2, h3⟩), fun h => absurd rfl h⟩)))
  subst ex el
  have hS20 := hJ.num.1.2
  refine k_lookF hJ hs (fun v1 f1 f2 f3 f4 => ?_)
  simp (disch := omega) only [nI_add, pk_mul, nI_clamp, nI_leI, nI_ltI, nI_eq, vp_t, true_and, Nat.mul_comm s 26]
  have hs1 : s < nS v1 := by rw [f1.n.1]; exact hs
  have hd1 : gA v1 29 s ≤ t := by rw [f1.2.2.1 29 (by decide)]; exact hd
  refine KI.of ok_193 (Nat.le_of_ble_eq_true rfl) (w_X12_used_0 (k_knM (f2.thr _) (fun s' hs' ex' hd' => ⟨fun h => absurd h nI_01, fun _ => k_inN (by decide) (fun l' hl' el' => ⟨fun _ => ?_, fun h => absurd h nI_01⟩) (fun h => absurd ⟨l, by omega, rfl⟩ h)⟩) (fun h => absurd ⟨s, hs1, rfl, hd1⟩ h)))
  refine k_workF (f2.thr (nI 0)) hc (fun v2 g1 g2 g3 => ?_)
  have hs2 : s < nS v2 := by rw [g1.n.1]; exact hs1
  obtain ⟨N, hN', hN⟩ := g2.pl s hs2
  have e103 : gA (v_I v1 80 0 (nI 0)) 103 = gA v1 29 := f2.1.S.2.1.2.2.2.symm
  have hfm := g3 s hs1 (by rw [e103]; exact hd1)
  have hfx : FX v2 s t := FX.wk (v := v_I v1 80 0 (nI 0)) f3 g1
  refine k_usedF g2 hs2 hl hN hN' hfm ⟨?_, g2⟩
  rw [← (hfx.c hN hN').2.2.2.2.2.1 l hl, g1.2.2.2 47 (by decide)]
  rfl
def cAl (f g : Nat → Int32) : Nat → Nat
  | 0 => 0
  | n + 1 => cAl f g n + (if ¬ f n = -1 ∧ ¬ g n = -1 ∧ f n = g n then 1 else 0)
def cUn (f g : Nat → Int32) : Nat → Nat
  | 0 => 0
  | n + 1 => cUn f g n + (if ¬ f n = -1 ∧ ¬ g n = -1 ∧ ¬ f n = g n then 1 else 0)
theorem cAl_le (f g : Nat → Int32) (n : Nat) : cAl f g n ≤ n ∧ cUn f g n ≤ n := by
  induction n with
  | zero => exact ⟨Nat.le_refl _, Nat.le_refl _⟩
  | succ n ih =>
    show cAl f g n + (if ¬ f n = -1 ∧ ¬ g n = -1 ∧ f n = g n then 1 else 0) ≤ n + 1 ∧ cUn f g n + (if ¬ f n = -1 ∧ ¬ g n = -1 ∧ ¬ f n = g n then 1 else 0) ≤ n + 1
    refine ⟨?_, ?_⟩
    · split <;> omega
    · split <;> omega
def cmpI (f g : Nat → Int32) : Int32 := if cUn f g 26 = 0 then nI (cAl f g 26) else -1 - nI (cUn f g 26)
theorem cS1 {f g : Nat → Int32} {n : Nat} (h : f n = -1) : cAl f g (n + 1) = cAl f g n ∧ cUn f g (n + 1) = cUn f g n := by
  refine ⟨?_, ?_⟩
  · show cAl f g n + (if ¬ f n = -1 ∧ ¬ g n = -1 ∧ f n = g n then 1 else 0) = _
    rw [if_neg (fun z => z.1 h)]
    rfl
  · show cUn f g n + (if ¬ f n = -1 ∧ ¬ g n = -1 ∧ ¬ f n = g n then 1 else 0) = _
    rw [if_neg (fun z => z.1 h)]
    rfl
theorem cS2 {f g : Nat → Int32} {n : Nat} (h : g n = -1) : cAl f g (n + 1) = cAl f g n ∧ cUn f g (n + 1) = cUn f g n := by
  refine ⟨?_, ?_⟩
  · show cAl f g n + (if ¬ f n = -1 ∧ ¬ g n = -1 ∧ f n = g n then 1 else 0) = _
    rw [if_neg (fun z => z.2.1 h)]
    rfl
  · show cUn f g n + (if ¬ f n = -1 ∧ ¬ g n = -1 ∧ ¬ f n = g n then 1 else 0) = _
    rw [if_neg (fun z => z.2.1 h)]
    rfl
theorem cS3 {f g : Nat → Int32} {n : Nat} (h1 : ¬ f n = -1) (h2 : ¬ g n = -1) (h3 : ¬ f n = g n) : cAl f g (n + 1) = cAl f g n ∧ cUn f g (n + 1) = cUn f g n + 1 := by
  refine ⟨?_, ?_⟩
  · show cAl f g n + (if ¬ f n = -1 ∧ ¬ g n = -1 ∧ f n = g n then 1 else 0) = _
    rw [if_neg (fun z => h3 z.2.2)]
    rfl
  · show cUn f g n + (if ¬ f n = -1 ∧ ¬ g n = -1 ∧ ¬ f n = g n then 1 else 0) = _
    rw [if_pos ⟨h1, h2, h3⟩]
theorem cS4 {f g : Nat → Int32} {n : Nat} (h1 : ¬ f n = -1) (h2 : ¬ g n = -1) (h3 : f n = g n) : cAl f g (n + 1) = cAl f g n + 1 ∧ cUn f g (n + 1) = cUn f g n := by
  refine ⟨?_, ?_⟩
  · show cAl f g n + (if ¬ f n = -1 ∧ ¬ g n = -1 ∧ f n = g n then 1 else 0) = _
    rw [if_pos ⟨h1, h2, h3⟩]
  · show cUn f g n + (if ¬ f n = -1 ∧ ¬ g n = -1 ∧ ¬ f n = g n then 1 else 0) = _
    rw [if_neg (fun z => z.2.2 h3)]
    rfl
theorem k_compare {E : Nat × (Nat → Int32)} {d : Nat} {v : xV} {a b : Nat} {Q : Int32 → xV → Prop} (ha : a < 20) (hb : b < 20) (kk : Q (cmpI (fun l => gA v 47 (26 * a + l)) (fun l => gA v 47 (26 * b + l))) v) : KI E d 75 [.ref 38, .int (nI a), .int (nI b)] v Q := by
  obtain ⟨f, hf⟩ : ∃ f : Nat → Int32, f = (fun l => gA v 47 (26 * a + l)) := ⟨_, rfl⟩
  obtain ⟨g, hg⟩ : ∃ g : Nat → Int32, g = (fun l => gA v 47 (26 * b + l)) := ⟨_, rfl⟩
  have hf2 : ∀ l, gA v 47 (26 * a + l) = f l := fun l => by rw [hf]
  have hg2 : ∀ l, gA v 47 (26 * b + l) = g l := fun l => by rw [hg]
  rw [← hf, ← hg] at kk
  clear hf hg
  refine KI.of ok_75 (Nat.le_of_ble_eq_true rfl) (w_X7_compare_0 ?_)
  refine lp_up (n := 26) (P := fun n => RI E d 75 8 [(0, .ref 38), (1, .int (nI a)), (2, .int (nI b)), (3, .int (nI (cAl f g n))), (4, .int (nI (cUn f g n))), (5, .int (nI n))] v Q) (w_X7_compare_8 ⟨fun _ => ?_, fun h => absurd (by decide) h⟩) (fun n hn ih => w_X7_compare_8 ?_) (Nat.zero_le _)
  · have := cAl_le f g 26
    rw [nI_leI (by omega) (by decide)]
    unfold cmpI at kk
    refine ⟨fun h => ?_, fun h => ?_⟩
    · rw [if_pos (by omega)] at kk
      exact kk
    · rw [if_neg (by omega)] at kk
      exact kk
  · simp (disch := omega) only [nI_add, pk_mul, nI_clamp, nI_leI, nI_ltI, nI_eq, vp_t, true_and, Nat.mul_comm a 26, Nat.mul_comm b 26, forall_eq, hf2, hg2]
    refine ⟨fun h => by omega, fun _ => ⟨fun h1 => ?_, fun h1 => ⟨fun h2 => ?_, fun h2 => ⟨fun h3 => ?_, fun h3 => ?_⟩⟩⟩⟩
    · rw [(cS1 h1).1, (cS1 h1).2] at ih
      exact ih
    · rw [(cS2 h2).1, (cS2 h2).2] at ih
      exact ih
    · rw [(cS3 h1 h2 h3).1, (cS3 h1 h2 h3).2] at ih
      exact ih
    · rw [(cS4 h1 h2 h3).1, (cS4 h1 h2 h3).2] at ih
      exact ih
theorem k_agreement {E : Nat × (Nat → Int32)} {d : Nat} {v : xV} {c a b N M : Nat} {t : Int32} {Q : Int32 → xV → Prop} (hJ : J c v) (ha : a < nS v) (hb : b < nS v) (hN : gA v 28 a = nI N) (hN' : 1 ≤ N ∧ N ≤ 24) (hM : gA v 28 b = nI M) (hM' : 1 ≤ M ∧ M ≤ 24) (fa : FM v a t) (fb : FM v b t) (kk : Q (cmpI (rU v a t N) (rU v b t M)) v) : KI E (d + 2) 194 [.ref 80, .int (nI a), .int (nI b), .int t] v Q := by
  refine KI.of ok_194 (Nat.le_of_ble_eq_true rfl) (w_X12_agreement_0 ?_)
  obtain ⟨f, hf⟩ : ∃ f : Nat → Int32, f = rU v a t N := ⟨_, rfl⟩
  obtain ⟨g, hg⟩ : ∃ g : Nat → Int32, g = rU v b t M := ⟨_, rfl⟩
  rw [← hf, ← hg] at kk
  refine lp_up (n := 26) (P := fun n => RI E (d + 2) 194 9 [(0, .ref 80), (1, .int (nI a)), (2, .int (nI b)), (3, .int t), (4, .int (nI (cAl f g n))), (5, .int (nI (cUn f g n))), (6, .int (nI n))] v Q) (w_X12_agreement_9 ⟨fun _ => ?_, fun h => absurd (by decide) h⟩) (fun n hn ih => w_X12_agreement_9 ⟨fun h => ?_, fun _ => k_usedF hJ ha hn hN hN' fa (k_usedF hJ hb hn hM hM' fb ?_)⟩) (Nat.zero_le _)
  · have := cAl_le f g 26
    rw [nI_leI (by omega) (by decide)]
    unfold cmpI at kk
    refine ⟨fun h => ?_, fun h => ?_⟩
    · rw [if_pos (by omega)] at kk
      exact kk
    · rw [if_neg (by omega)] at kk
      exact kk
  · exfalso
    rw [nI_leI (by decide) (by omega)] at h
    omega
  · rw [← hf, ← hg, nI_add, nI_add, nI_add]
    refine ⟨fun h1 => ?_, fun h1 => ⟨fun h2 => ⟨fun h3 => ?_, fun h3 => ?_⟩, fun h2 => ?_⟩⟩
    · rw [(cS1 h1).1, (cS1 h1).2] at ih
      exact ih
    · rw [(cS3 h1 h2 h3).1, (cS3 h1 h2 h3).2] at ih
      exact ih
    · rw [(cS4 h1 h2 h3).1, (cS4 h1 h2 h3).2] at ih
      exact ih
    · rw [(cS2 h2).1, (cS2 h2).2] at ih
      exact ih

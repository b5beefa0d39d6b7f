/-! partings, reference -/
theorem k_firstMJ {E : Nat × (Nat → Int32)} {d : Nat} {v : xV} {c s j : Nat} {t : Int32} {Q : Int32 → xV → Prop} (hJ : J c v) (hs : s < nS v) (hj : j < 3) (fx : FX v s t) (fm : FM v s t) (kk : Q (gA v 46 (3 * s + j)) v) : KI E d 190 [.ref 80, .int (nI s), .int (nI j)] v Q := by
  obtain ⟨N, hN', hN⟩ := hJ.pl s hs
  obtain ⟨⟨r1, r2, r3⟩, r4, r5, r6, r7, r8, r9⟩ := hJ.rdx hN hN' fx fm
  have h20 := hJ.num.1.2
  refine k_firstM (ws := rW v s t N) (by omega) (by omega) r1 r3 (fun i w e => (r4 i w e).1) r6 (by rw [r7]; exact r9) ?_
  rw [r7, ← r5 j hj]
  exact kk
def CtM (c K : Nat) (t : Int32) (cb : Bool) (L G : Nat → Nat) (v : xV) : Prop := J c v ∧ K ≤ nS v ∧ (∀ s, s < K → FX v s t ∧ FM v s t) ∧ SpM v K cb L G ∧ ∀ k, k < 52 → L k < 200 ∧ G k < 200
theorem CtM.sc {c K : Nat} {t : Int32} {cb : Bool} {L G : Nat → Nat} {v w : xV} (h : CtM c K t cb L G v) (hF : ScF v w) (h1 : gA w 130 = gA v 130) (h2 : gA w 131 = gA v 131) : CtM c K t cb L G w := by
  obtain ⟨a1, a2, a3, a4, a5⟩ := h
  refine ⟨a1.sc hF, by rw [hF.n.1]; exact a2, fun s hs => ⟨(a3 s hs).1.sc hF, (a3 s hs).2.sc hF⟩, ?_, a5⟩
  unfold SpM
  rw [h1, h2]
  exact a4
theorem k_twoM {E : Nat × (Nat → Int32)} {d : Nat} {v : xV} {c K a b : Nat} {t : Int32} {cb : Bool} {L G : Nat → Nat} {Q : Int32 → xV → Prop} (hC : CtM c K t cb L G v) (ha : a < K) (hb : b < K) (k1 : TwX (fun s => gA v 46 (3 * s + 1)) (ApX cb L G) a b → Q (nI 1) v) (k0 : ¬ TwX (fun s => gA v 46 (3 * s + 1)) (ApX cb L G) a b → Q (nI 0) v) : KI E (d + 1) 216 [.ref 80, .int (nI a), .int (nI b)] v Q := by
  obtain ⟨hJ, hK, hF, hsp, hL⟩ := hC
  have h20 := hJ.num.1.2
  have fin : ¬ (¬ gA v 46 (3 * a + 1) = -1 ∧ ¬ gA v 46 (3 * b + 1) = -1 ∧ ¬ gA v 46 (3 * a + 1) = gA v 46 (3 * b + 1)) → RI E (d + 1) 216 32 [(0, .ref 80), (1, .int (nI a)), (2, .int (nI b))] v Q := by
    intro hno
    refine w_X12_areTwo_32 (k_apartM hsp hL (by omega) ha hb (fun q => ⟨fun z => absurd z nI_01, fun _ => k1 (Or.inr q)⟩) (fun q => ⟨fun _ => k0 (fun r => ?_), fun z => absurd rfl z⟩))
    rcases r with r | r
    · exact hno r
    · exact q r
  refine KI.of ok_216 (Nat.le_of_ble_eq_true rfl) (w_X12_areTwo_0 (k_firstMJ hJ (by omega) (by decide) (hF a ha).1 (hF a ha).2 (k_firstMJ hJ (by omega) (by decide) (hF b hb).1 (hF b hb).2 ?_)))
  exact ⟨fun z => fin (fun r => r.1 z), fun z1 => ⟨fun z => fin (fun r => r.2.1 z), fun z2 => ⟨fun z3 => k1 (Or.inl ⟨z1, z2, z3⟩), fun z => fin (fun r => r.2.2 z)⟩⟩⟩
theorem k_joinM {E : Nat × (Nat → Int32)} {d : Nat} {W : xV} {c0 K : Nat} {t : Int32} {cb : Bool} {L G : Nat → Nat} {l : List Nat} {tr : Nat → Int32} {p : Nat → Nat} {k c : Nat} {Q : Int32 → xV → Prop} (hC : CtM c0 K t cb L G W) (htr : tr = fun s => gA W 46 (3 * s + 1)) (hl : l.length ≤ 10) (hlK : ∀ x, x ∈ l → x < K) (hm : ∀ i x, l[i]? = some x → gA W 132 i = nI x) (hk : k < l.length) (hc : c < 2 ^ 31) (hp : ∀ i, i < k → gA W 134 i = nI (p i) ∧ p i < 2 ^ 31) (k1 : Jn (Tl l (TwX tr (ApX cb L G))) p k c → Q (nI 1) W) (k0 : ¬ Jn (Tl l (TwX tr (ApX cb L G))) p k c → Q (nI 0) W) : KI E (d + 2) 217 [.ref 80, .int (nI k), .int (nI c)] W Q := by
  subst htr
  have ek : l[k]? = some l[k] := List.getElem?_eq_getElem hk
  refine KI.of ok_217 (Nat.le_of_ble_eq_true rfl) (w_X12_mayJoin_0 ?_)
  refine lp_up (n := k) (P := fun i => (∀ j, j < i → p j = c → ¬ Tl l (TwX (fun s => gA W 46 (3 * s + 1)) (ApX cb L G)) j k) → RI E (d + 2) 217 2 [(0, .ref 80), (1, .int (nI k)), (2, .int (nI c)), (3, .int (nI i))] W Q) (fun h => w_X12_mayJoin_2 ⟨fun _ => k1 h, fun z => absurd (nI_le (Nat.le_refl _) (by omega)) z⟩) (fun i hi ih h => w_X12_mayJoin_2 ⟨fun z => ?_, fun _ => ?_⟩) (Nat.zero_le _) (fun j hj => absurd hj (Nat.not_lt_zero _))
  · exfalso
    rw [nI_leI (by omega) (by omega)] at z
    omega
  · have ei : l[i]? = some l[i] := List.getElem?_eq_getElem (by omega)
    rw [nI_clamp (by omega), nI_clamp (by omega), (hp i hi).1, nI_inj (hp i hi).2 hc, nI_add, hm i _ ei, hm k _ ek]
    have hT : Tl l (TwX (fun s => gA W 46 (3 * s + 1)) (ApX cb L G)) i k ↔ TwX (fun s => gA W 46 (3 * s + 1)) (ApX cb L G) l[i] l[k] := by
      constructor
      · rintro ⟨x, y, e1, e2, q⟩
        rw [ei] at e1
        rw [ek] at e2
        cases e1
        cases e2
        exact q
      · exact fun q => ⟨_, _, ei, ek, q⟩
    refine ⟨vp_in_nI (by omega) (by decide), fun z => ih (fun j hj e => ?_), fun z => ⟨vp_in_nI (by omega) (by decide), vp_in_nI (by omega) (by decide), k_twoM hC (hlK _ (List.getElem_mem _)) (hlK _ (List.getElem_mem _)) (fun q => ⟨fun z => absurd z nI_01, fun _ => k0 (fun r => r i hi z (hT.mpr q))⟩) (fun q => ⟨fun _ => ih (fun j hj e => ?_), fun z => absurd rfl z⟩)⟩⟩
    · by_cases ej : j = i
      · exact absurd (ej ▸ e) z
      · exact h j (by omega) e
    · by_cases ej : j = i
      · subst ej
        exact fun r => q (hT.mp r)
      · exact h j (by omega) e
def pt (S : xV) (f g : Nat → Int32) : xV := v_A (v_A S 134 f) 135 g
theorem pt_134 (S : xV) (f g f' : Nat → Int32) : v_A (pt S f g) 134 f' = pt S f' g := by
  unfold pt
  simp (disch := decide) only [vA_c, vA_s]
theorem pt_135 (S : xV) (f g g' : Nat → Int32) : v_A (pt S f g) 135 g' = pt S f g' := vA_s _ _ _ _
theorem pt_self (S : xV) : pt S (gA S 134) (gA S 135) = S := by
  unfold pt
  rw [show gA S 135 = gA (v_A S 134 (gA S 134)) 135 from rfl, vAself, vAself]
theorem pt_sc (S : xV) (f g : Nat → Int32) : ScF S (pt S f g) := (ScF.vA S f (by omega)).trans (ScF.vA _ g (by omega))
theorem pre1 {k : Nat} : nI (k + 1) + (-1 : Int32) = nI k := by
  rw [← nI_add, Int32.add_assoc, show nI 1 + (-1 : Int32) = 0 from by decide, Int32.add_zero]
theorem pre2 {a b : Nat} (ha : a ≤ 100) (hb : b ≤ 100) : nI a ≤ nI b - nI 1 ↔ a < b := by
  have : nI a = nI (a + 1) - nI 1 := by rw [nI_sub (by omega), Nat.add_sub_cancel]
  rw [this, pre_le (by omega) (by omega)]
  omega
def IntoC (E : Nat × (Nat → Int32)) (d : Nat) (S : xV) (T : Nat → Nat → Prop) (M m k : Nat) : Prop := ∀ (p : Nat → Nat) (Q : Int32 → xV → Prop) (a : Nat) (f g : Nat → Int32), OKp T M p k → (∀ i, i < k → f i = nI (p i)) → (∀ i, i < k → g i = nI (mxP p (i + 1)) - nI 1) → f k = nI a - nI 1 → a ≤ 11 → (∀ q f' g', Fst T M m p k a q → (∀ i, i < m → f' i = nI (q i)) → Q (nI 1) (pt S f' g')) → (∀ f' g', (∀ q, ¬ Ex T M m p k a q) → (∀ i, i < k → f' i = nI (p i)) → (∀ i, i < k → g' i = nI (mxP p (i + 1)) - nI 1) → RI E (d + 3) 218 9 [(0, .ref 80), (1, .int (nI M)), (2, .int (nI k + (-1 : Int32)))] (pt S f' g') Q) → RI E (d + 3) 218 9 [(0, .ref 80), (1, .int (nI M)), (2, .int (nI k))] (pt S f g) Q
theorem k_intoStep {E : Nat × (Nat → Int32)} {d : Nat} {S : xV} {c0 K k : Nat} {t : Int32} {cb : Bool} {L G : Nat → Nat} {l : List Nat} {tr : Nat → Int32} {M : Nat} {T : Nat → Nat → Prop} (hC : CtM c0 K t cb L G S) (htr : tr = fun s => gA S 46 (3 * s + 1)) (hl : l.length ≤ 10) (hlK : ∀ x, x ∈ l → x < K) (hm : ∀ i x, l[i]? = some x → gA S 132 i = nI x) (h82 : gI S 80 82 = nI l.length) (hM : M ≤ 10) (hT : T = Tl l (TwX tr (ApX cb L G))) (hk : k < l.length) (next : k + 1 < l.length → IntoC E d S T M l.length (k + 1)) : IntoC E d S T M l.length k := by
  intro p Q a f g hp hf hg hfa ha k1 k0
  have hmx := hp.mxle
  have hpb : ∀ i, i < k → p i < 10 := fun i hi => by
    have := (hp i hi).2.1
    omega
  have to40 : ∀ (c : Nat) (f g : Nat → Int32), (∀ i, i < k → g i = nI (mxP p (i + 1)) - nI 1) → f k = nI c - nI 1 → RI E (d + 3) 218 40 [(0, .ref 80), (1, .int (nI M)), (2, .int (nI k)), (3, .int (nI (mxP p k) - nI 1)), (4, .int (nI c))] (pt S f g) Q → RI E (d + 3) 218 9 [(0, .ref 80), (1, .int (nI M)), (2, .int (nI k))] (pt S f g) Q := by
    intro c f g hg hfc h40
    have hvk : vp_in (nI k) 10 := vp_in_nI (by omega) (by decide)
    have e1 : gA (pt S f g) 134 k + nI 1 = nI c := by
      rw [show gA (pt S f g) 134 = f from rfl, hfc, Int32.sub_add_cancel]
    refine w_X12_partInto_9 ⟨fun z => absurd z (nz_lt (by omega)), fun _ => ⟨fun z => ?_, fun z => ?_⟩⟩
    · rw [nI_inj (by omega) (by decide)] at z
      rw [nI_sub (by omega), nI_clamp (by omega), nI_clamp (by omega), e1]
      refine ⟨vp_in_nI (by omega) (by decide), fun y2 hy2 => ⟨hvk, fun y4 hy4 => ?_⟩⟩
      rw [show gA (pt S f g) 135 = g from rfl, hg (k - 1) (by omega), show k - 1 + 1 = k by omega] at hy2
      subst hy2 hy4
      exact h40
    · rw [nI_inj (by omega) (by decide)] at z
      rw [nI_clamp (by omega), e1]
      refine ⟨hvk, fun y6 hy6 => ?_⟩
      subst hy6 z
      exact h40
  have main : ∀ c, c ≤ 11 → ∀ f g, (∀ i, i < k → f i = nI (p i)) → (∀ i, i < k → g i = nI (mxP p (i + 1)) - nI 1) → (∀ q, Ex T M l.length p k a q → Ex T M l.length p k c q) → a ≤ c → RI E (d + 3) 218 40 [(0, .ref 80), (1, .int (nI M)), (2, .int (nI k)), (3, .int (nI (mxP p k) - nI 1)), (4, .int (nI c))] (pt S f g) Q := by
    intro c hc
    have back : ∀ c f g, c ≤ 11 → (∀ i, i < k → f i = nI (p i)) → (∀ i, i < k → g i = nI (mxP p (i + 1)) - nI 1) → (∀ q, Ex T M l.length p k a q → Ex T M l.length p k c q) → (mxP p k < c ∨ M ≤ c) → RI E (d + 3) 218 70 [(0, .ref 80), (1, .int (nI M)), (2, .int (nI k)), (3, .int (nI (mxP p k) - nI 1)), (4, .int (nI c))] (pt S f g) Q := by
      intro c f g hc hf hg hn hcm
      have h0 := k0 f g (fun q h => Ex.fin hk hcm (hn q h)) hf hg
      refine w_X12_partInto_70 ?_
      rw [Int32.sub_add_cancel, nI_ltI (by omega) (by omega)]
      refine ⟨fun _ => h0, fun z => ⟨fun z2 => ?_, fun _ => h0⟩⟩
      rw [nI_ltI (by omega) (by omega)] at z2
      omega
    refine lp_up (n := 11) (P := fun c => ∀ f g, (∀ i, i < k → f i = nI (p i)) → (∀ i, i < k → g i = nI (mxP p (i + 1)) - nI 1) → (∀ q, Ex T M l.length p k a q → Ex T M l.length p k c q) → a ≤ c → RI E (d + 3) 218 40 [(0, .ref 80), (1, .int (nI M)), (2, .int (nI k)), (3, .int (nI (mxP p k) - nI 1)), (4, .int (nI c))] (pt S f g) Q) (fun f g hf hg hn hac => w_X12_partInto_40 ⟨fun _ => back 11 f g (by decide) hf hg hn (Or.inl (by omega)), fun z => ?_⟩) (fun c hc ihc f g hf hg hn hac => w_X12_partInto_40 ⟨fun z => ?_, fun z => ⟨fun z2 => ?_, fun z2 => ?_⟩⟩) hc
    · rw [Int32.sub_add_cancel, nI_ltI (by omega) (by omega)] at z
      omega
    · rw [Int32.sub_add_cancel, nI_ltI (by omega) (by omega)] at z
      exact back c f g (by omega) hf hg hn (Or.inl z)
    · rw [nI_leI (by omega) (by omega)] at z2
      exact back c f g (by omega) hf hg hn (Or.inr z2)
    · rw [Int32.sub_add_cancel, nI_ltI (by omega) (by omega)] at z
      rw [nI_leI (by omega) (by omega)] at z2
      have hC' : CtM c0 K t cb L G (pt S f g) := hC.sc (pt_sc S f g) rfl rfl
      refine k_joinM (p := p) (l := l) (tr := tr) hC' htr hl hlK hm hk (by omega) (fun i hi => ⟨hf i hi, by have := hpb i hi; omega⟩) (fun hj => ⟨fun _ => ?_, fun z => absurd z nI_01⟩) (fun hj => ⟨fun z => absurd rfl z, fun _ => ?_⟩)
      · rw [← hT] at hj
        have hok := hp.more (by omega) (by omega) hj
        have hvk : vp_in (nI k) 10 := vp_in_nI (by omega) (by decide)
        have hf2 : ∀ i, i < k + 1 → upd f k (nI c) i = nI (updN p k c i) := by
          intro i hi
          rw [upd_i]
          by_cases e : i = k
          · rw [if_pos e, e, updN_s]
          · rw [if_neg e, updN_n p c e]
            exact hf i (by omega)
        have asg : ∀ x : Int32, x = nI (max (mxP p k) (c + 1)) - nI 1 → ((¬ nI k + nI 1 = gI (pt S f g) 80 82 → vp_in (nI k + nI 1) 10 ∧ ∀ f6 : Nat → Int32, f6 = upd (upd f k (nI c)) (nI k + nI 1).toNatClampNeg (-1 : Int32) → RI E (d + 3) 218 9 [(0, .ref 80), (1, .int (nI M)), (2, .int (nI k + nI 1))] (v_A (v_A (v_A (pt S f g) 134 (upd f k (nI c))) 135 (upd g k x)) 134 f6) Q) ∧ (nI k + nI 1 = gI (pt S f g) 80 82 → Q (nI 1) (v_A (v_A (pt S f g) 134 (upd f k (nI c))) 135 (upd g k x)))) := by
          intro x hx
          rw [nI_add, show gI (pt S f g) 80 82 = nI l.length from h82, nI_inj (by omega) (by omega), nI_clamp (by omega)]
          have hg2 : ∀ i, i < k + 1 → upd g k x i = nI (mxP (updN p k c) (i + 1)) - nI 1 := by
            intro i hi
            rw [upd_i]
            by_cases e : i = k
            · rw [if_pos e, e, mx_u, hx]
            · rw [if_neg e, mx_u2 p k c (i + 1) (by omega)]
              exact hg i (by omega)
          refine ⟨fun z3 => ⟨vp_in_nI (by omega) (by decide), fun f6 hf6 => ?_⟩, fun z3 => ?_⟩
          · rw [pt_134, pt_135, pt_134]
            have hf6k : ∀ i, i < k + 1 → f6 i = nI (updN p k c i) := by
              intro i hi
              rw [hf6, upd_n _ _ (by omega)]
              exact hf2 i hi
            refine next (by omega) (updN p k c) Q 0 f6 (upd g k x) hok hf6k hg2 ?_ (by omega) (fun q f' g' h1 h2 => ?_) (fun f' g' h1 h2 h3 => ?_)
            · rw [hf6, upd_s]
              decide
            · exact k1 q f' g' (Fst.down hac hn (Fst.up hk h1)) h2
            · rw [pre1]
              have h3' : ∀ i, i < k → g' i = nI (mxP p (i + 1)) - nI 1 := fun i hi => by
                rw [h3 i (by omega), mx_u2 p k c (i + 1) (by omega)]
              refine to40 (c + 1) f' g' h3' ?_ (ihc f' g' (fun i hi => ?_) h3' (fun q h => Ex.none h1 (hn q h)) (by omega))
              · rw [h2 k (by omega), updN_s, nI_sub (by omega), Nat.add_sub_cancel]
              · rw [h2 i (by omega), updN_n p c (by omega)]
          · rw [pt_134, pt_135]
            refine k1 (updN p k c) _ _ (Fst.down hac hn (Fst.up hk ?_)) (fun i hi => hf2 i (by omega))
            rw [z3] at hok ⊢
            exact Fst.base hok
        refine w_X12_partInto_70 ?_
        rw [Int32.sub_add_cancel, nI_ltI (by omega) (by omega), nI_ltI (by omega) (by omega), nI_clamp (by omega), pre2 (by omega) (by omega)]
        refine ⟨fun z => by omega, fun _ => ⟨fun _ => ⟨hvk, fun f2 hf2' => ⟨fun z3 => ⟨hvk, fun f4 hf4 => ?_⟩, fun z3 => ⟨hvk, fun f8 hf8 => ?_⟩⟩⟩, fun z => by omega⟩⟩
        · subst hf2' hf4
          exact asg _ (by rw [Nat.max_eq_left (by omega)])
        · subst hf2' hf8
          exact asg _ (by rw [Nat.max_eq_right (by omega), nI_sub (by omega), Nat.add_sub_cancel])
      · rw [← hT] at hj
        rw [nI_add]
        exact ihc f g hf hg (fun q h => Ex.skip hk hj (hn q h)) (by omega)
  exact to40 a f g hg hfa (main a ha f g hf hg (fun q h => h) (Nat.le_refl _))
theorem k_intoM {E : Nat × (Nat → Int32)} {d : Nat} {S : xV} {c0 K : Nat} {t : Int32} {cb : Bool} {L G : Nat → Nat} {l : List Nat} {tr : Nat → Int32} {M : Nat} {T : Nat → Nat → Prop} (hC : CtM c0 K t cb L G S) (htr : tr = fun s => gA S 46 (3 * s + 1)) (hl : l.length ≤ 10) (hlK : ∀ x, x ∈ l → x < K) (hm : ∀ i x, l[i]? = some x → gA S 132 i = nI x) (h82 : gI S 80 82 = nI l.length) (hM : M ≤ 10) (hT : T = Tl l (TwX tr (ApX cb L G))) : ∀ (j k : Nat), k + (j + 1) = l.length → IntoC E d S T M l.length k := by
  intro j
  induction j with
  | zero => exact fun k hk => k_intoStep hC htr hl hlK hm h82 hM hT (by omega) (fun h => by omega)
  | succ j ih => exact fun k hk => k_intoStep hC htr hl hlK hm h82 hM hT (by omega) (fun h => ih (k + 1) (by omega))
theorem k_into {E : Nat × (Nat → Int32)} {d : Nat} {S : xV} {c0 K : Nat} {t : Int32} {cb : Bool} {L G : Nat → Nat} {l : List Nat} {tr : Nat → Int32} {M : Nat} {T : Nat → Nat → Prop} {Q : Int32 → xV → Prop} (hC : CtM c0 K t cb L G S) (htr : tr = fun s => gA S 46 (3 * s + 1)) (hl : l.length ≤ 10) (hl0 : ¬ l.length = 0) (hlK : ∀ x, x ∈ l → x < K) (hm : ∀ i x, l[i]? = some x → gA S 132 i = nI x) (h82 : gI S 80 82 = nI l.length) (hM : M ≤ 10) (hT : T = Tl l (TwX tr (ApX cb L G))) (k1 : ∀ q f g, Fst T M l.length (fun _ => 0) 0 0 q → (∀ i, i < l.length → f i = nI (q i)) → Q (nI 1) (pt S f g)) (k0 : ∀ f g, (∀ q, ¬ OKp T M q l.length) → Q (nI 0) (pt S f g)) : KI E (d + 3) 218 [.ref 80, .int (nI M)] S Q := by
  refine KI.of ok_218 (Nat.le_of_ble_eq_true rfl) (w_X12_partInto_0 (fun f1 hf1 => ?_))
  have e : v_A S 134 f1 = pt S f1 (gA S 135) := by
    unfold pt
    rw [show gA S 135 = gA (v_A S 134 f1) 135 from rfl, vAself]
  rw [e]
  refine k_intoM hC htr hl hlK hm h82 hM hT (l.length - 1) 0 (by omega) (fun _ => 0) Q 0 f1 (gA S 135) (fun i hi => absurd hi (Nat.not_lt_zero _)) (fun i hi => absurd hi (Nat.not_lt_zero _)) (fun i hi => absurd hi (Nat.not_lt_zero _)) ?_ (by decide) k1 (fun f' g' h1 _ _ => ?_)
  · rw [hf1, nI_clamp (by decide), upd_s]
    decide
  · exact w_X12_partInto_9 ⟨fun _ => k0 f' g' (fun q h => h1 q (Ex.zero h)), fun z => absurd (by decide) z⟩

/-! cost of a letter, the class -/
theorem bb1 {A : Prop} [Decidable A] {P : Int32 → Prop} (k : P (bB (decide A))) : (¬ A → P (nI 0)) ∧ (A → P (nI 1)) := by
  by_cases h : A
  · rw [decide_eq_true h] at k
    exact ⟨fun h' => absurd h h', fun _ => k⟩
  · rw [decide_eq_false h] at k
    exact ⟨fun _ => k, fun h' => absurd h' h⟩
theorem bb2 {A B : Prop} [Decidable A] [Decidable B] {P : Int32 → Prop} (k : P (bB (decide A && decide B))) : (¬ A → P (nI 0)) ∧ (A → ((¬ B → P (nI 0)) ∧ (B → P (nI 1)))) := by
  by_cases h : A
  · rw [decide_eq_true h, Bool.true_and] at k
    exact ⟨fun h' => absurd h h', fun _ => bb1 k⟩
  · rw [decide_eq_false h, Bool.false_and] at k
    exact ⟨fun _ => k, fun h' => absurd h' h⟩
theorem bbc {b : Bool} {X Y : Prop} (h0 : b = false → X) (h1 : b = true → Y) : (bB b = nI 0 → X) ∧ (¬ bB b = nI 0 → Y) := by
  cases b
  · exact ⟨fun _ => h0 rfl, fun h => absurd rfl h⟩
  · exact ⟨fun h => absurd h nI_01, fun _ => h1 rfl⟩
theorem bbd {b : Bool} {X Y : Prop} (h0 : b = false → X) (h1 : b = true → Y) : (¬ bB b = nI 0 → Y) ∧ (bB b = nI 0 → X) := ⟨(bbc h0 h1).2, (bbc h0 h1).1⟩
/-- the last before n that P holds of -/
def lastI (P : Nat → Bool) : Nat → Int32
  | 0 => -1
  | n + 1 => if P n = true then nI n else lastI P n
theorem lastI_t {P : Nat → Bool} {n : Nat} (h : P n = true) : lastI P (n + 1) = nI n := if_pos h
theorem lastI_f {P : Nat → Bool} {n : Nat} (h : ¬ P n = true) : lastI P (n + 1) = lastI P n := if_neg h
theorem lastI_r (P : Nat → Bool) (n : Nat) : lastI P n = -1 ∨ ∃ i, i < n ∧ lastI P n = nI i ∧ P i = true := by
  induction n with
  | zero => exact Or.inl rfl
  | succ n ih =>
    by_cases h : P n = true
    · rw [lastI_t h]
      exact Or.inr ⟨n, by omega, rfl, h⟩
    · rw [lastI_f h]
      rcases ih with e | ⟨i, h1, h2⟩
      · exact Or.inl e
      · exact Or.inr ⟨i, by omega, h2⟩
def phP (f g : Nat → Int32) (s t : Int32) (i : Nat) : Bool := decide (f i = s) && decide (g i ≤ t)
def drP (f b g : Nat → Int32) (s t : Int32) (k i : Nat) : Bool := decide (f i = s) && (decide (b i = nI k) && decide (g i ≤ t))
theorem i_m1 (i : Nat) : nI i + (-1) = nI i - nI 1 := by
  rw [Int32.sub_eq_add_neg]
  congr 1
theorem k_lastPhoto {E : Nat × (Nat → Int32)} {d : Nat} {v : xV} {s t : Int32} {P : Nat} {Q : Int32 → xV → Prop} (hP : gI v 25 13 = nI P) (hP2 : P ≤ 60) (k : Q (lastI (phP (gA v 30) (gA v 31) s t) P) v) : KI E d 10 [.ref 25, .int s, .int t] v Q := by
  have step : ∀ i, i ≤ P → Q (lastI (phP (gA v 30) (gA v 31) s t) i) v → RI E d 10 7 [(0, .ref 25), (1, .int s), (2, .int t), (3, .int (nI i - nI 1))] v Q := by
    intro i
    induction i with
    | zero => exact fun _ hq => w_X1_lastPhoto_7 ⟨fun _ => hq, fun h => absurd (by decide) h⟩
    | succ i ih =>
      intro hi hq
      rw [nI_sub (by omega), Nat.add_sub_cancel]
      have nx : ¬ phP (gA v 30) (gA v 31) s t i = true → RI E d 10 7 [(0, .ref 25), (1, .int s), (2, .int t), (3, .int (nI i + (-1)))] v Q := by
        intro h
        rw [lastI_f h] at hq
        rw [i_m1]
        exact ih (by omega) hq
      refine w_X1_lastPhoto_7 ⟨fun h => absurd h (nz_lt (by omega)), fun _ => ⟨vp_in_nI (by omega) (by decide), ?_⟩⟩
      rw [nI_clamp (by omega)]
      refine ⟨fun h => nx ?_, fun h => ⟨vp_in_nI (by omega) (by decide), fun h2 => nx ?_, fun h2 => ?_⟩⟩
      · unfold phP
        rw [decide_eq_false h, Bool.false_and]
        exact Bool.false_ne_true
      · unfold phP
        rw [decide_eq_false (i_nle.mpr h2), Bool.and_false]
        exact Bool.false_ne_true
      · rw [lastI_t (show phP (gA v 30) (gA v 31) s t i = true by unfold phP; rw [decide_eq_true h, decide_eq_true (i_nlt.mp h2)]; rfl)] at hq
        exact hq
  refine KI.of ok_10 (Nat.le_of_ble_eq_true rfl) (w_X1_lastPhoto_0 (fun y e => ?_))
  subst e
  rw [hP]
  exact step P (Nat.le_refl _) k
def drF (f b g : Nat → Int32) (s t : Int32) (n : Nat) (o : Nat → Int32) : Nat → Int32 := fun a => if a < 4 then lastI (drP f b g s t a) n else o a
theorem k_lastDrawings {E : Nat × (Nat → Int32)} {d : Nat} {v : xV} {s t : Int32} {P : Nat} {Q : xV → Prop} (hP : gI v 25 14 = nI P) (hP2 : P ≤ 40) (hb : ∀ i, ∃ n, n < 4 ∧ gA v 35 i = nI n) (k : Q (v_A v 50 (drF (gA v 34) (gA v 35) (gA v 36) s t P (gA v 50)))) : KV E (d + 1) 11 [.ref 25, .int s, .int t, .ref 50] v Q := by
  refine KV.of ok_11 (Nat.le_of_ble_eq_true rfl) (w_X1_lastDrawings_0 (k_fill (by rfl) (by show 4 < 2 ^ 31; decide) ?_))
  have e0 : (fun a => if a < gN v 50 then (-1 : Int32) else gA v 50 a) = drF (gA v 34) (gA v 35) (gA v 36) s t 0 (gA v 50) := rfl
  rw [e0]
  refine lp_up (n := P) (P := fun i => RV E (d + 1) 11 8 [(0, .ref 25), (1, .int s), (2, .int t), (3, .ref 50), (4, .int (nI i))] (v_A v 50 (drF (gA v 34) (gA v 35) (gA v 36) s t i (gA v 50))) Q) (w_X1_lastDrawings_8 ?_) (fun i hi ih => w_X1_lastDrawings_8 ?_) (Nat.zero_le _)
  · rw [show gI (v_A v 50 (drF (gA v 34) (gA v 35) (gA v 36) s t P (gA v 50))) 25 14 = nI P from hP]
    exact ⟨fun _ => k, fun h => absurd (nI_le (Nat.le_refl _) (by omega)) h⟩
  · rw [show gI (v_A v 50 (drF (gA v 34) (gA v 35) (gA v 36) s t i (gA v 50))) 25 14 = nI P from hP, nI_leI (by omega) (by omega), nI_clamp (by omega), nI_add]
    refine ⟨fun h => by omega, fun _ => ⟨vp_in_nI (by omega) (by decide), fun y ey => ⟨vp_in_nI (by omega) (by decide), ?_⟩⟩⟩
    obtain ⟨q, hq, eq⟩ := hb i
    have ey : y = nI q := ey.trans eq
    subst ey
    have nx : (∀ a, a < 4 → ¬ drP (gA v 34) (gA v 35) (gA v 36) s t a i = true) → RV E (d + 1) 11 8 [(0, .ref 25), (1, .int s), (2, .int t), (3, .ref 50), (4, .int (nI (i + 1)))] (v_A v 50 (drF (gA v 34) (gA v 35) (gA v 36) s t i (gA v 50))) Q := by
      intro h
      have e : drF (gA v 34) (gA v 35) (gA v 36) s t i (gA v 50) = drF (gA v 34) (gA v 35) (gA v 36) s t (i + 1) (gA v 50) := by
        funext a
        unfold drF
        by_cases ha : a < 4
        · rw [if_pos ha, if_pos ha, lastI_f (h a ha)]
        · rw [if_neg ha, if_neg ha]
      rw [e]
      exact ih
    refine ⟨fun h => nx ?_, fun h => ⟨vp_in_nI (by omega) (by decide), fun h2 => nx ?_, fun h2 => ⟨fun h3 => ?_, fun _ => ⟨vp_in_nI hq (by decide), ?_⟩⟩⟩⟩
    · intro a _
      unfold drP
      rw [decide_eq_false (show ¬ gA v 34 i = s from h), Bool.false_and]
      exact Bool.false_ne_true
    · intro a _
      unfold drP
      rw [decide_eq_false (show ¬ gA v 36 i ≤ t from i_nle.mpr h2), Bool.and_false, Bool.and_false]
      exact Bool.false_ne_true
    · exfalso
      rw [show Int32.ofNat 4 = nI 4 from rfl, nI_leI (by decide) (by omega)] at h3
      omega
    · rw [nI_clamp (by omega), vA_s]
      have e : upd (gA (v_A v 50 (drF (gA v 34) (gA v 35) (gA v 36) s t i (gA v 50))) 50) q (nI i) = drF (gA v 34) (gA v 35) (gA v 36) s t (i + 1) (gA v 50) := by
        show upd (drF (gA v 34) (gA v 35) (gA v 36) s t i (gA v 50)) q (nI i) = _
        funext a
        rw [upd_i]
        unfold drF
        by_cases ha : a < 4
        · rw [if_pos ha, if_pos ha]
          by_cases e2 : a = q
          · subst e2
            rw [if_pos rfl, lastI_t]
            unfold drP
            rw [decide_eq_true (show gA v 34 i = s from h), decide_eq_true eq, decide_eq_true (show gA v 36 i ≤ t from i_nlt.mp h2)]
            rfl
          · rw [if_neg e2, lastI_f]
            unfold drP
            rw [eq, decide_eq_false (fun e => e2 ((nI_eq (by omega) (by omega)).mp e).symm), Bool.false_and, Bool.and_false]
            exact Bool.false_ne_true
        · rw [if_neg ha, if_neg ha, if_neg (by omega)]
      rw [e]
      exact ih
/-- what counts of a scrawl as of t -/
def gath (v : xV) (s : Nat) (t : Int32) (P D : Nat) : xV := v_A (v_I (v_I v 49 15 (gA v 28 s)) 49 14 (lastI (phP (gA v 30) (gA v 31) (nI s) t) P)) 50 (drF (gA v 34) (gA v 35) (gA v 36) (nI s) t D (gA v 50))
theorem k_gather {E : Nat × (Nat → Int32)} {d : Nat} {v : xV} {s P D : Nat} {t : Int32} {Q : xV → Prop} (hs : s < 20) (hP : gI v 25 13 = nI P) (hP2 : P ≤ 60) (hD : gI v 25 14 = nI D) (hD2 : D ≤ 40) (hb : ∀ i, ∃ n, n < 4 ∧ gA v 35 i = nI n) (k : Q (gath v s t P D)) : KV E (d + 2) 54 [.ref 49, .int (nI s), .int t] v Q := by
  refine KV.of ok_54 (Nat.le_of_ble_eq_true rfl) (w_X6_gather_0 ⟨vp_in_nI hs (by decide), ?_⟩)
  rw [nI_clamp (by omega)]
  exact k_lastPhoto hP hP2 (k_lastDrawings hD hD2 hb k)
def mayF (st se go : Int32) : Bool := decide (st &&& se = se) && decide (st &&& ((se ||| go) ^^^ (-1)) = nI 0)
theorem k_mayFX {E : Nat × (Nat → Int32)} {d : Nat} {v : xV} {p k l f : Nat} {Q : Int32 → xV → Prop} (hp : gI v 49 14 = nI p) (hp2 : p < 60) (hk : k < 24) (hl : l < 26) (hf : f < 3) (kk : Q (bB (mayF (gA v 4 (3 * l + f)) (gA v 32 (24 * p + k)) (gA v 33 (24 * p + k)))) v) : KI E d 59 [.ref 49, .int (nI k), .int (nI l), .int (nI f)] v Q := by
  refine KI.of ok_59 (Nat.le_of_ble_eq_true rfl) (w_X6_mayForm_0 ?_)
  simp (disch := omega) only [nI_add, pk_mul, nI_clamp, nI_leI, nI_ltI, nI_eq, vp_t, true_and, hp, forall_eq, Nat.mul_comm l 3, Nat.mul_comm p 24]
  exact bb2 (P := fun y => Q y v) kk
def pop8 (n : Nat) : Nat := n % 2 + n / 2 % 2 + n / 4 % 2 + n / 8 % 2 + n / 16 % 2 + n / 32 % 2 + n / 64 % 2 + n / 128 % 2
theorem pop8_le (n : Nat) : pop8 n ≤ 8 := by
  unfold pop8
  omega
def bc1 (x : Int32) : Int32 := x - ((x.toUInt32 >>> ((nI 1).toUInt32 &&& Int32.toUInt32 31)).toInt32 &&& nI 1431655765)
def bc2 (x : Int32) : Int32 := (x &&& nI 858993459) + ((x.toUInt32 >>> ((nI 2).toUInt32 &&& Int32.toUInt32 31)).toInt32 &&& nI 858993459)
def bc3 (x : Int32) : Int32 := (x + (x.toUInt32 >>> ((nI 4).toUInt32 &&& Int32.toUInt32 31)).toInt32) &&& nI 252645135
def bc4 (x : Int32) : Int32 := x + (x.toUInt32 >>> ((nI 8).toUInt32 &&& Int32.toUInt32 31)).toInt32
def bc5 (x : Int32) : Int32 := x + (x.toUInt32 >>> ((nI 16).toUInt32 &&& Int32.toUInt32 31)).toInt32
theorem bc_all : ∀ n, n < 256 → bc5 (bc4 (bc3 (bc2 (bc1 (nI n))))) &&& nI 63 = nI (pop8 n) := by decide +kernel
theorem k_bitCount {E : Nat × (Nat → Int32)} {d : Nat} {v : xV} {n : Nat} {Q : Int32 → xV → Prop} (hn : n < 256) (k : Q (nI (pop8 n)) v) : KI E d 225 [.int (nI n)] v Q := by
  refine KI.of ok_225 (Nat.le_of_ble_eq_true rfl) (w_J6_bitCount_0f7a4_0 (fun y1 e1 y2 e2 y3 e3 y4 e4 y5 e5 => ?_))
  have e : y5 &&& nI 63 = nI (pop8 n) := by
    rw [← bc_all n hn, e5, e4, e3, e2, e1]
    rfl
  rw [e]
  exact k
/-- a byte under any mask is a byte -/
theorem n_andb {a : Nat} (ha : a < 256) (y : Int32) : ∃ b, b < 256 ∧ nI a &&& y = nI b := by
  refine ⟨a &&& y.toBitVec.toNat, n_lt_and ha, ?_⟩
  rw [← n_and]
  congr 1
  apply Int32.toBitVec_inj.mp
  show y.toBitVec = BitVec.ofNat 32 y.toBitVec.toNat
  simp
def pcI (x : Int32) : Nat := pop8 x.toNatClampNeg
def fco (m : Nat → Bool) (pc : Nat → Nat) : Nat → Option Nat
  | 0 => none
  | f + 1 => if m f = true then (match fco m pc f with | none => some (pc f) | some x => some (if pc f < x then pc f else x)) else fco m pc f
theorem fco_f {m : Nat → Bool} {pc : Nat → Nat} {f : Nat} (h : m f = false) : fco m pc (f + 1) = fco m pc f := by
  show (if m f = true then _ else _) = _
  rw [h]
  rfl
theorem fco_n {m : Nat → Bool} {pc : Nat → Nat} {f : Nat} (h : m f = true) (e : fco m pc f = none) : fco m pc (f + 1) = some (pc f) := by
  show (if m f = true then _ else _) = _
  rw [if_pos h, e]
theorem fco_s {m : Nat → Bool} {pc : Nat → Nat} {f x : Nat} (h : m f = true) (e : fco m pc f = some x) : fco m pc (f + 1) = some (if pc f < x then pc f else x) := by
  show (if m f = true then _ else _) = _
  rw [if_pos h, e]
theorem fco_le {m : Nat → Bool} {pc : Nat → Nat} {N : Nat} (hp : ∀ i, pc i ≤ N) (f : Nat) : ∀ x, fco m pc f = some x → x ≤ N := by
  induction f with
  | zero => intro x h; cases h
  | succ f ih =>
    intro x h
    cases hm : m f with
    | false => rw [fco_f hm] at h; exact ih x h
    | true =>
      cases e : fco m pc f with
      | none => rw [fco_n hm e] at h; cases h; exact hp f
      | some y =>
        rw [fco_s hm e] at h
        cases h
        have := ih y e
        split
        · exact hp f
        · exact this
def eX : Option Nat → Int32
  | none => -1
  | some n => nI n
def eM : Option Nat → Int32
  | none => nI 100000000
  | some n => nI n
def pcf (st : Nat → Int32) (se : Int32) (l f : Nat) : Nat := pcI (st (3 * l + f) &&& (se ^^^ (-1)))
def FC (cn st se go : Nat → Int32) (p k l : Nat) : Option Nat := fco (fun f => mayF (st (3 * l + f)) (se (24 * p + k)) (go (24 * p + k))) (fun f => pcf st (se (24 * p + k)) l f) (cn l).toNatClampNeg
theorem FC_le {cn st se go : Nat → Int32} {p k l x : Nat} (h : FC cn st se go p k l = some x) : x ≤ 8 := fco_le (fun _ => pop8_le _) _ x h
theorem pcf_e {st : Nat → Int32} (hst : ∀ i, ∃ b, b < 256 ∧ st i = nI b) (se : Int32) (l f : Nat) : ∃ n, n < 256 ∧ st (3 * l + f) &&& (se ^^^ (-1)) = nI n ∧ pcf st se l f = pop8 n := by
  obtain ⟨a, ha, ea⟩ := hst (3 * l + f)
  obtain ⟨b, hb, eb⟩ := n_andb ha (se ^^^ (-1))
  refine ⟨b, hb, by rw [ea, eb], ?_⟩
  unfold pcf pcI
  rw [ea, eb, nI_clamp (by omega)]
theorem k_formCost {E : Nat × (Nat → Int32)} {d : Nat} {v : xV} {p k l n : Nat} {Q : Int32 → xV → Prop} (hp : gI v 49 14 = nI p) (hp2 : p < 60) (hk : k < 24) (hl : l < 26) (hc : gA v 5 l = nI n) (hn : n ≤ 3) (hst : ∀ i, ∃ b, b < 256 ∧ gA v 4 i = nI b) (kk : Q (eX (FC (gA v 5) (gA v 4) (gA v 32) (gA v 33) p k l)) v) : KI E (d + 1) 58 [.ref 49, .int (nI k), .int (nI l)] v Q := by
  unfold FC at kk
  rw [hc, nI_clamp (by omega)] at kk
  refine KI.of ok_58 (Nat.le_of_ble_eq_true rfl) (w_X6_formCost_0 ?_)
  refine lp_up (n := n) (P := fun f => RI E (d + 1) 58 5 [(0, .ref 49), (1, .int (nI k)), (2, .int (nI l)), (3, .int (eX (fco (fun f => mayF (gA v 4 (3 * l + f)) (gA v 32 (24 * p + k)) (gA v 33 (24 * p + k))) (fun f => pcf (gA v 4) (gA v 32 (24 * p + k)) l f) f))), (4, .int (nI f))] v Q) (w_X6_formCost_5 ?_) (fun f hf ih => w_X6_formCost_5 ?_) (Nat.zero_le _)
  · simp (disch := omega) only [nI_add, pk_mul, nI_clamp, nI_leI, nI_ltI, nI_eq, vp_t, true_and, hc]
    exact ⟨fun _ => kk, fun h => absurd (Nat.le_refl _) h⟩
  · simp (disch := omega) only [nI_add, pk_mul, nI_clamp, nI_leI, nI_ltI, nI_eq, vp_t, true_and, hc]
    refine ⟨fun h => by omega, fun _ => k_mayFX hp hp2 hk hl (by omega) (bbc (fun h => ?_) (fun h => ?_))⟩
    · rw [fco_f h] at ih
      exact ih
    · obtain ⟨b, hb, eb, ep⟩ := pcf_e hst (gA v 32 (24 * p + k)) l f
      simp (disch := omega) only [nI_add, pk_mul, nI_clamp, nI_leI, nI_ltI, nI_eq, vp_t, true_and, hp, forall_eq, Nat.mul_comm l 3, Nat.mul_comm p 24]
      rw [eb]
      refine k_bitCount hb ?_
      cases e : fco (fun f => mayF (gA v 4 (3 * l + f)) (gA v 32 (24 * p + k)) (gA v 33 (24 * p + k))) (fun f => pcf (gA v 4) (gA v 32 (24 * p + k)) l f) f with
      | none =>
        rw [fco_n h e, ep] at ih
        exact ⟨fun h' => absurd rfl h', fun _ => ih⟩
      | some x =>
        have hx : x ≤ 8 := fco_le (fun _ => pop8_le _) _ x e
        have hq := pop8_le b
        rw [fco_s h e, ep] at ih
        refine ⟨fun _ => ?_, fun h' => absurd h' (m1_ne (by omega))⟩
        have e2 : (if nI (pop8 b) < eX (some x) then nI (pop8 b) else eX (some x)) = eX (some (if pop8 b < x then pop8 b else x)) := by
          show (if nI (pop8 b) < nI x then nI (pop8 b) else nI x) = nI _
          by_cases hlt : pop8 b < x
          · rw [if_pos hlt, if_pos ((nI_ltI (by omega) (by omega)).mpr hlt)]
          · rw [if_neg hlt, if_neg (fun g => hlt ((nI_ltI (by omega) (by omega)).mp g))]
        rw [e2]
        exact ih
/-- the letter that was drawn, or none -/
def dlet (D : Nat → Int32) (i : Int32) (k : Nat) : Int32 := if i = -1 then -1 else D (24 * i.toNatClampNeg + k)
def lcst (dl M : Nat → Int32) (l : Nat) (c0 : Option Nat) : Nat → Option Nat
  | 0 => c0
  | q + 1 => match lcst dl M l c0 q with
    | none => none
    | some c => if dl q = -1 ∨ dl q = nI l then some c else if (M (26 * q + l)).toNatClampNeg.testBit (dl q).toNatClampNeg = true then some (c + 2) else none
theorem lcst_n {dl M : Nat → Int32} {l q : Nat} {c0 : Option Nat} (e : lcst dl M l c0 q = none) : lcst dl M l c0 (q + 1) = none := by
  show (match lcst dl M l c0 q with | none => none | some c => _) = none
  rw [e]
theorem lcst_s {dl M : Nat → Int32} {l q c : Nat} {c0 : Option Nat} (e : lcst dl M l c0 q = some c) : lcst dl M l c0 (q + 1) = if dl q = -1 ∨ dl q = nI l then some c else if (M (26 * q + l)).toNatClampNeg.testBit (dl q).toNatClampNeg = true then some (c + 2) else none := by
  show (match lcst dl M l c0 q with | none => none | some c => _) = _
  rw [e]
theorem lcst_le {dl M : Nat → Int32} {l N : Nat} {c0 : Option Nat} (h0 : ∀ x, c0 = some x → x ≤ N) (q : Nat) : ∀ x, lcst dl M l c0 q = some x → x ≤ N + 2 * q := by
  induction q with
  | zero => exact h0
  | succ q ih =>
    intro x h
    cases e : lcst dl M l c0 q with
    | none => rw [lcst_n e] at h; cases h
    | some c =>
      have := ih c e
      rw [lcst_s e] at h
      split at h
      · cases h
        omega
      · split at h
        · cases h
          omega
        · cases h
theorem lcst_nn {dl M : Nat → Int32} {l q : Nat} {c0 : Option Nat} (e : lcst dl M l c0 q = none) {r : Nat} (hr : q ≤ r) : lcst dl M l c0 r = none := by
  induction r with
  | zero =>
    obtain rfl : q = 0 := by omega
    exact e
  | succ r ih =>
    by_cases h : q = r + 1
    · subst h
      exact e
    · exact lcst_n (ih (by omega))
/-- cost of letter l at place k, by photo p and drawings dr -/
def LC (cn st se go D M : Nat → Int32) (p : Int32) (dr : Nat → Int32) (k l : Nat) : Option Nat := lcst (fun q => dlet D (dr q) k) M l (if p = -1 then some 0 else FC cn st se go p.toNatClampNeg k l) 4
theorem LC_le {cn st se go D M : Nat → Int32} {p : Int32} {dr : Nat → Int32} {k l x : Nat} (h : LC cn st se go D M p dr k l = some x) : x ≤ 16 := by
  refine lcst_le (N := 8) (fun x h => ?_) 4 x h
  split at h
  · cases h
    omega
  · exact FC_le h
/-- a photo, or none; a drawing, or none -/
def isO (N : Nat) (x : Int32) : Prop := x = -1 ∨ ∃ n, n < N ∧ x = nI n
theorem k_letterCost {E : Nat × (Nat → Int32)} {d : Nat} {v : xV} {k l n : Nat} {Q : Int32 → xV → Prop} (hp : isO 60 (gI v 49 14)) (hd : ∀ q, q < 4 → isO 40 (gA v 50 q)) (hD : ∀ i, isO 26 (gA v 37 i)) (hM : ∀ i, ∃ a, a < 2 ^ 26 ∧ gA v 9 i = nI a) (hk : k < 24) (hl : l < 26) (hc : gA v 5 l = nI n) (hn : n ≤ 3) (hst : ∀ i, ∃ b, b < 256 ∧ gA v 4 i = nI b) (kk : Q (eX (LC (gA v 5) (gA v 4) (gA v 32) (gA v 33) (gA v 37) (gA v 9) (gI v 49 14) (gA v 50) k l)) v) : KI E (d + 2) 57 [.ref 49, .int (nI k), .int (nI l)] v Q := by
  unfold LC at kk
  have loop : ∀ c0, (∀ x, c0 = some x → x ≤ 8) → Q (eX (lcst (fun q => dlet (gA v 37) (gA v 50 q) k) (gA v 9) l c0 4)) v → RI E (d + 2) 57 22 [(0, .ref 49), (1, .int (nI k)), (2, .int (nI l)), (3, .int (eX c0)), (4, .int (nI 0))] v Q := by
    intro c0 h0 hq
    refine lp_up (n := 4) (P := fun q => RI E (d + 2) 57 22 [(0, .ref 49), (1, .int (nI k)), (2, .int (nI l)), (3, .int (eX (lcst (fun q => dlet (gA v 37) (gA v 50 q) k) (gA v 9) l c0 q))), (4, .int (nI q))] v Q) (w_X6_letterCost_22 ⟨fun _ => hq, fun h => absurd (by decide) h⟩) (fun q hq4 ih => w_X6_letterCost_22 ⟨fun h => ?_, fun _ => ?_⟩) (Nat.zero_le _)
    · rw [nI_leI (by decide) (by omega)] at h
      omega
    · cases e : lcst (fun q => dlet (gA v 37) (gA v 50 q) k) (gA v 9) l c0 q with
      | none =>
        refine ⟨fun _ => ?_, fun h => absurd m1_lt h⟩
        rw [lcst_nn e (by omega : q ≤ 4)] at hq
        exact hq
      | some c =>
        have hcl := lcst_le h0 q c e
        refine ⟨fun h => absurd h (nz_lt (by omega)), fun _ => ⟨vp_in_nI hq4 (by decide), ?_⟩⟩
        rw [nI_clamp (by omega), nI_add]
        rw [lcst_s e] at ih
        rcases hd q hq4 with eq | ⟨j, hj, eq⟩
        · have edl : dlet (gA v 37) (gA v 50 q) k = -1 := by unfold dlet; rw [if_pos eq]
          rw [if_pos (Or.inl edl)] at ih
          exact ⟨fun h => absurd eq h, fun _ => ⟨fun _ => ih, fun h => absurd rfl h⟩⟩
        · have edl : dlet (gA v 37) (gA v 50 q) k = gA v 37 (24 * j + k) := by
            unfold dlet
            rw [eq, if_neg (m1_ne (by omega)), nI_clamp (by omega)]
          rw [eq]
          refine ⟨fun _ => ⟨vp_in_nI hq4 (by decide), ?_⟩, fun h => absurd h (m1_ne (by omega))⟩
          simp (disch := omega) only [nI_add, pk_mul, nI_clamp, nI_leI, nI_ltI, nI_eq, vp_t, true_and, forall_eq, Nat.mul_comm j 24]
          rw [← edl]
          refine ⟨fun h => ?_, fun h => ⟨fun h2 => ?_, fun h2 => ?_⟩⟩
          · rw [if_pos (Or.inl h)] at ih
            exact ih
          · rw [if_pos (Or.inr h2)] at ih
            exact ih
          · rw [if_neg (fun g => g.elim h h2)] at ih
            rcases hD (24 * j + k) with e3 | ⟨b, hb, e3⟩
            · exact absurd (edl.trans e3) h
            · rw [edl, e3] at ih ⊢
              obtain ⟨a, ha, ea⟩ := hM (26 * q + l)
              rw [ea, nI_clamp (by omega), nI_clamp (by omega)] at ih
              refine k_hasHabit hq4 hl hb ea ha (fun h3 => ⟨fun h => absurd h nI_01, fun _ => ?_⟩) (fun h3 => ⟨fun _ => ?_, fun h => absurd rfl h⟩)
              · rw [if_pos h3] at ih
                rw [show eX (some c) + nI 2 = eX (some (c + 2)) from nI_add _ _]
                exact ih
              · rw [if_neg (by rw [h3]; exact Bool.false_ne_true)] at ih
                exact ih
  refine KI.of ok_57 (Nat.le_of_ble_eq_true rfl) (w_X6_letterCost_0 ⟨fun h => ?_, fun h => ?_⟩)
  · rw [if_neg h] at kk
    rcases hp with e | ⟨p, hp2, e⟩
    · exact absurd e h
    · refine k_formCost e hp2 hk hl hc hn hst (loop _ (fun x hx => FC_le hx) ?_)
      rw [e, nI_clamp (by omega)] at kk
      exact kk
  · rw [if_pos h] at kk
    exact loop (some 0) (fun x hx => by cases hx; omega) kk

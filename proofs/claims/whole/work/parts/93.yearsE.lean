/-! years, the class: what is heard -/
def stoodF (v : xV) (f s : Nat) : Prop := gA v 61 f = nI 3 ∧ gA v 46 (3 * s) = gA v 62 f ∧ gA v 46 (3 * s + 2) = gA v 63 f
def thingF (v : xV) (f s i : Nat) : Prop := gA v 61 f = nI 4 ∧ nI i < gA v 44 s ∧ gA v 45 (6 * s + i) = gA v 62 f
def limF (v : xV) (f k : Nat) : Prop := (gA v 61 f = nI 0 ∧ ∃ a b, (a < 8 ∧ b < 4) ∧ gA v 62 f = nI a ∧ gA v 63 f = nI b ∧ k = 20 + 4 * a + b) ∨ (gA v 61 f = nI 1 ∧ gA v 62 f = nI k ∧ k < 20)
/-- a fact that counts for a slot, and for which years -/
def aplF (v : xV) (K f sl : Nat) : Prop := sl / 7 < K ∧ ((sl % 7 = 0 ∧ stoodF v f (sl / 7)) ∨ (1 ≤ sl % 7 ∧ thingF v f (sl / 7) (sl % 7 - 1)))
def rngF (v : xV) (f y : Nat) : Prop := (gA v 61 f = nI 3 ∧ gA v 64 f = nI y) ∨ (gA v 61 f = nI 4 ∧ gA v 64 f ≤ nI y ∧ nI y ≤ gA v 65 f)
def SlI (v : xV) (K : Nat) (hd : Nat → Nat → Prop) (H : Nat → Int32) (B : Nat → Int64) : Prop := ∀ sl, sl < 140 → ((H sl = nI 1 ∧ ∃ f, hd f sl ∧ aplF v K f sl) ∨ (H sl = nI 0 ∧ ¬ ∃ f, hd f sl ∧ aplF v K f sl)) ∧ ∀ y, y < 200 → (albit B sl y = true ↔ ∃ f, (hd f sl ∧ aplF v K f sl) ∧ rngF v f y)
theorem SlI.cong {v : xV} {K : Nat} {hd hd' : Nat → Nat → Prop} {H : Nat → Int32} {B : Nat → Int64} (h : SlI v K hd H B) (hh : ∀ f sl, sl < 140 → aplF v K f sl → (hd' f sl ↔ hd f sl)) : SlI v K hd' H B := by
  intro sl hsl
  have e : ∀ f, (hd' f sl ∧ aplF v K f sl) ↔ (hd f sl ∧ aplF v K f sl) := fun f => ⟨fun z => ⟨(hh f sl hsl z.2).mp z.1, z.2⟩, fun z => ⟨(hh f sl hsl z.2).mpr z.1, z.2⟩⟩
  have e2 : (∃ f, hd' f sl ∧ aplF v K f sl) ↔ ∃ f, hd f sl ∧ aplF v K f sl := ⟨fun ⟨f, z⟩ => ⟨f, (e f).mp z⟩, fun ⟨f, z⟩ => ⟨f, (e f).mpr z⟩⟩
  obtain ⟨h1, h2⟩ := h sl hsl
  rw [e2]
  refine ⟨h1, fun y hy => ?_⟩
  rw [h2 y hy]
  exact ⟨fun ⟨f, z1, z2⟩ => ⟨f, (e f).mpr z1, z2⟩, fun ⟨f, z1, z2⟩ => ⟨f, (e f).mp z1, z2⟩⟩
theorem albit_up (B : Nat → Int64) (sl0 i sl y : Nat) (hi : i < 256) (hy : y < 256) : albit (vp_updL B (4 * sl0 + i / 64) (B (4 * sl0 + i / 64) ||| ((1 : Int64) <<< ((nI (i % 64)).toInt64 &&& 63)))) sl y = (albit B sl y || decide (sl = sl0 ∧ y = i)) := by
  unfold albit
  by_cases h : 4 * sl + y / 64 = 4 * sl0 + i / 64
  · rw [h, pk_uLs, Int64.toBitVec_or, BitVec.getLsbD_or, y_1 _ (Nat.mod_lt _ (by decide)), BitVec.getLsbD_twoPow]
    congr 1
    have h64 : i % 64 < 64 := Nat.mod_lt _ (by decide)
    rw [decide_eq_true h64, Bool.true_and]
    by_cases e : i % 64 = y % 64
    · rw [decide_eq_true e, decide_eq_true (by omega)]
    · rw [decide_eq_false e, decide_eq_false (by omega)]
  · rw [pk_uLn h, decide_eq_false (by omega), Bool.or_false]
def ys (v : xV) (x : Int32) (F T H : Nat → Int32) (B : Nat → Int64) : xV := v_B (v_A (v_A (v_A (v_I v 67 11 x) 68 F) 69 T) 70 H) 71 B
theorem ys_70 (v : xV) (x : Int32) (F T H H' : Nat → Int32) (B : Nat → Int64) : v_A (ys v x F T H B) 70 H' = ys v x F T H' B := by
  show v_B (v_A (v_A (v_A (v_A (v_I v 67 11 x) 68 F) 69 T) 70 H) 70 H') 71 B = _
  rw [vA_s]
  rfl
theorem ys_69 (v : xV) (x : Int32) (F T H T' : Nat → Int32) (B : Nat → Int64) : v_A (ys v x F T H B) 69 T' = ys v x F T' H B := by
  show v_B (v_A (v_A (v_A (v_A (v_I v 67 11 x) 68 F) 69 T) 70 H) 69 T') 71 B = _
  rw [vA_c _ (i := 69) (j := 70) (by decide), vA_s]
  rfl
theorem ys_68 (v : xV) (x : Int32) (F T H F' : Nat → Int32) (B : Nat → Int64) : v_A (ys v x F T H B) 68 F' = ys v x F' T H B := by
  show v_B (v_A (v_A (v_A (v_A (v_I v 67 11 x) 68 F) 69 T) 70 H) 68 F') 71 B = _
  rw [vA_c _ (i := 68) (j := 70) (by decide), vA_c _ (i := 68) (j := 69) (by decide), vA_s]
  rfl
theorem vB_s (v : xV) (j : Nat) (f g : Nat → Int64) : v_B (v_B v j f) j g = v_B v j g := by
  unfold v_B
  congr 4
  funext a
  show (if a = j then g else (if a = j then f else v.2.2.2.1 a)) = (if a = j then g else v.2.2.2.1 a)
  split <;> rfl
theorem ys_71 (v : xV) (x : Int32) (F T H : Nat → Int32) (B B' : Nat → Int64) : v_B (ys v x F T H B) 71 B' = ys v x F T H B' := by
  unfold ys
  rw [vB_s]
theorem ys_I (v : xV) (x y : Int32) (F T H : Nat → Int32) (B : Nat → Int64) : v_I (ys v x F T H B) 67 11 y = ys v y F T H B := by
  show v_B (v_A (v_A (v_A (v_I (v_I v 67 11 x) 67 11 y) 68 F) 69 T) 70 H) 71 B = _
  rw [vI_s]
  rfl
theorem k_allow {E : Nat × (Nat → Int32)} {d : Nat} {v : xV} {x : Int32} {F T H : Nat → Int32} {B : Nat → Int64} {sl a b : Nat} {Q : xV → Prop} (hsl : sl < 140) (hb : b < 200) (kk : ∀ B', (∀ sl' y, y < 200 → albit B' sl' y = (albit B sl' y || decide (sl' = sl ∧ a ≤ y ∧ y ≤ b))) → Q (ys v x F T (upd H sl (nI 1)) B')) (hab : a ≤ b + 1) : KV E d 100 [.ref 67, .int (nI sl), .int (nI a), .int (nI b)] (ys v x F T H B) Q := by
  refine KV.of ok_100 (Nat.le_of_ble_eq_true rfl) (w_X10_allow_0 ?_)
  have e70 : gA (ys v x F T H B) 70 = H := rfl
  rw [nI_clamp (by omega), e70, ys_70]
  refine ⟨vp_in_nI hsl (by decide), ?_⟩
  have loop : ∀ i, a ≤ i → i ≤ b + 1 → ∀ B', (∀ sl' y, y < 200 → albit B' sl' y = (albit B sl' y || decide (sl' = sl ∧ a ≤ y ∧ y < i))) → RV E d 100 10 [(0, .ref 67), (1, .int (nI sl)), (3, .int (nI b)), (4, .int (nI i))] (ys v x F T (upd H sl (nI 1)) B') Q := by
    intro i hai hib
    refine lp_up (n := b + 1) (P := fun i => a ≤ i → ∀ B', (∀ sl' y, y < 200 → albit B' sl' y = (albit B sl' y || decide (sl' = sl ∧ a ≤ y ∧ y < i))) → RV E d 100 10 [(0, .ref 67), (1, .int (nI sl)), (3, .int (nI b)), (4, .int (nI i))] (ys v x F T (upd H sl (nI 1)) B') Q) (fun _ B' hB => w_X10_allow_10 ⟨fun _ => kk B' (fun sl' y hy => ?_), fun z => absurd (nI_lt (by omega) (by omega)) z⟩) (fun i hi ih hai B' hB => w_X10_allow_10 ?_) hib hai
    · rw [hB sl' y hy]
      congr 1
      by_cases e : sl' = sl ∧ a ≤ y ∧ y < b + 1
      · rw [decide_eq_true e, decide_eq_true (by omega)]
      · rw [decide_eq_false e, decide_eq_false (by omega)]
    · have e71 : gB (ys v x F T (upd H sl (nI 1)) B') 71 = B' := rfl
      have e6 : sl * 4 + i / 2 ^ 6 = 4 * sl + i / 64 := by omega
      simp (disch := omega) only [pk_mul, nI_add, nI_clamp, vp_t, true_and, nI_leI, nI_ltI, n_shr, e6, y_m, e71, ys_71]
      refine ⟨fun z => absurd z (by omega), fun _ => ⟨fun z => absurd z (by omega), fun _ => ih (by omega) _ (fun sl' y hy => ?_)⟩⟩
      rw [albit_up B' sl i sl' y (by omega) (by omega), hB sl' y hy, Bool.or_assoc]
      congr 1
      by_cases e : sl' = sl ∧ a ≤ y ∧ y < i + 1
      · rw [decide_eq_true e]
        by_cases e2 : y = i
        · rw [decide_eq_true (show sl' = sl ∧ y = i from ⟨e.1, e2⟩), Bool.or_true]
        · rw [decide_eq_true (show sl' = sl ∧ a ≤ y ∧ y < i by omega), Bool.true_or]
      · rw [decide_eq_false e, decide_eq_false (show ¬ (sl' = sl ∧ a ≤ y ∧ y < i) by omega), decide_eq_false (show ¬ (sl' = sl ∧ y = i) by omega)]
        rfl
  refine loop a (Nat.le_refl _) hab B (fun sl' y hy => ?_)
  rw [decide_eq_false (by omega), Bool.or_false]
/-- one slot more is told by fact n -/
theorem SlI.more {v : xV} {K n sl0 a b : Nat} {hd : Nat → Nat → Prop} {H : Nat → Int32} {B B' : Nat → Int64} (h : SlI v K hd H B) (hap : aplF v K n sl0) (hr : ∀ y, y < 200 → (rngF v n y ↔ a ≤ y ∧ y ≤ b)) (hB : ∀ sl' y, y < 200 → albit B' sl' y = (albit B sl' y || decide (sl' = sl0 ∧ a ≤ y ∧ y ≤ b))) : SlI v K (fun f sl => hd f sl ∨ (f = n ∧ sl = sl0)) (upd H sl0 (nI 1)) B' := by
  intro sl hsl
  obtain ⟨h1, h2⟩ := h sl hsl
  by_cases e : sl = sl0
  · subst e
    refine ⟨Or.inl ⟨upd_s _ _ _, n, Or.inr ⟨rfl, rfl⟩, hap⟩, fun y hy => ?_⟩
    rw [hB sl y hy, Bool.or_eq_true, decide_eq_true_eq, h2 y hy]
    constructor
    · rintro (⟨f, ⟨z1, z2⟩, z3⟩ | z)
      · exact ⟨f, ⟨Or.inl z1, z2⟩, z3⟩
      · exact ⟨n, ⟨Or.inr ⟨rfl, rfl⟩, hap⟩, (hr y hy).mpr z.2⟩
    · rintro ⟨f, ⟨z1, z2⟩, z3⟩
      rcases z1 with z1 | ⟨rfl, _⟩
      · exact Or.inl ⟨f, ⟨z1, z2⟩, z3⟩
      · exact Or.inr ⟨rfl, (hr y hy).mp z3⟩
  · have e1 : (∃ f, (hd f sl ∨ (f = n ∧ sl = sl0)) ∧ aplF v K f sl) ↔ ∃ f, hd f sl ∧ aplF v K f sl := ⟨fun ⟨f, z1, z2⟩ => ⟨f, z1.elim id (fun z => absurd z.2 e), z2⟩, fun ⟨f, z1, z2⟩ => ⟨f, Or.inl z1, z2⟩⟩
    rw [e1, upd_n _ _ e]
    refine ⟨h1, fun y hy => ?_⟩
    rw [hB sl y hy, decide_eq_false (fun z => e z.1), Bool.or_false, h2 y hy]
    exact ⟨fun ⟨f, ⟨z1, z2⟩, z3⟩ => ⟨f, ⟨Or.inl z1, z2⟩, z3⟩, fun ⟨f, ⟨z1, z2⟩, z3⟩ => ⟨f, ⟨z1.elim id (fun z => absurd z.2 e), z2⟩, z3⟩⟩

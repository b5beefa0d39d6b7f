/-! years, the class: one fact heard -/
def LmI (v : xV) (n : Nat) (F T : Nat → Int32) : Prop := ∀ k y, k < 52 → y < 200 → ((F k ≤ nI y ∧ nI y ≤ T k) ↔ ∀ f, f < n → limF v f k → (gA v 64 f ≤ nI y ∧ nI y ≤ gA v 65 f))
theorem k_hearStood {E : Nat × (Nat → Int32)} {d : Nat} {v : xV} {x : Int32} {F T H : Nat → Int32} {B : Nat → Int64} {K n a : Nat} {Q : xV → Prop} (hK : gI v 67 10 = nI K) (hK2 : K ≤ 20) (hn : n < 80) (hk : gA v 61 n = nI 3) (ha : gA v 64 n = nI a) (ha2 : a < 200) (hS : SlI v K (fun f _ => f < n) H B) (kk : ∀ H' B', SlI v K (fun f _ => f < n + 1) H' B' → Q (ys v x F T H' B')) : KV E (d + 1) 98 [.ref 67, .int (nI n)] (ys v x F T H B) Q := by
  refine KV.of ok_98 (Nat.le_of_ble_eq_true rfl) (w_X10_hearStood_0 ?_)
  refine lp_up (n := K) (P := fun s => ∀ H B, SlI v K (fun f sl => f < n ∨ (f = n ∧ sl / 7 < s)) H B → RV E (d + 1) 98 2 [(0, .ref 67), (1, .int (nI n)), (2, .int (nI s))] (ys v x F T H B) Q) (fun H B hS => w_X10_hearStood_2 ?_) (fun s hs ih H B hS => w_X10_hearStood_2 ?_) (Nat.zero_le _) H B (hS.cong (fun f sl _ _ => by omega))
  · rw [show gI (ys v x F T H B) 67 10 = nI K from hK]
    refine ⟨fun _ => kk H B (hS.cong (fun f sl hsl hap => ?_)), fun z => absurd (nI_le (Nat.le_refl _) (by omega)) z⟩
    have := hap.1
    omega
  · rw [show gI (ys v x F T H B) 67 10 = nI K from hK, nI_leI (by omega) (by omega)]
    refine ⟨fun z => by omega, fun _ => KI.of ok_74 (Nat.le_of_ble_eq_true rfl) (w_X7_firstOf_0 ?_)⟩
    have i80 : vp_in (nI n) 80 := vp_in_nI hn (by decide)
    have e46a : gA (ys v x F T H B) 46 (3 * s) = gA v 46 (3 * s) := rfl
    have e46b : gA (ys v x F T H B) 46 (3 * s + 2) = gA v 46 (3 * s + 2) := rfl
    have skip : ¬ stoodF v n s → RV E (d + 1) 98 2 [(0, .ref 67), (1, .int (nI n)), (2, .int (nI s + nI 1))] (ys v x F T H B) Q := by
      intro hno
      rw [nI_add]
      refine ih H B (hS.cong (fun f sl hsl hap => ⟨fun z => ?_, fun z => by omega⟩))
      rcases z with z | ⟨rfl, z⟩
      · exact Or.inl z
      · refine Or.inr ⟨rfl, ?_⟩
        by_cases e : sl / 7 = s
        · exfalso
          rcases hap.2 with ⟨_, q⟩ | ⟨_, q⟩
          · rw [e] at q
            exact hno q
          · exact absurd (hk.symm.trans q.1) (by decide)
        · omega
    rw [pk_mul, nI_add, nI_clamp (by omega), show s * 3 + 0 = 3 * s by omega, e46a, nI_clamp (by omega)]
    refine ⟨vp_in_nI (by omega) (by decide), i80, fun h1 => ⟨fun _ => skip (fun g => h1 g.2.1), fun z => absurd rfl z⟩, fun h1 => ⟨fun z => absurd z nI_01, fun _ => KI.of ok_74 (Nat.le_of_ble_eq_true rfl) (w_X7_firstOf_0 ?_)⟩⟩
    rw [pk_mul, nI_add, nI_clamp (by omega), show s * 3 + 2 = 3 * s + 2 by omega, e46b]
    refine ⟨vp_in_nI (by omega) (by decide), i80, fun h2 => skip (fun g => h2 g.2.2), fun h2 => ⟨i80, i80, ?_⟩⟩
    have hst : stoodF v n s := ⟨hk, h1, h2⟩
    have e64 : gA (ys v x F T H B) 64 n = nI a := ha
    rw [e64, pk_mul, Nat.mul_comm s 7]
    refine k_allow (by omega) ha2 (fun B' hB => ?_) (by omega)
    rw [nI_add]
    have hap : aplF v K n (7 * s) := by
      refine ⟨by omega, Or.inl ⟨by omega, ?_⟩⟩
      rw [show 7 * s / 7 = s by omega]
      exact hst
    have := hS.more (n := n) (sl0 := 7 * s) (a := a) (b := a) hap (fun y hy => ?_) hB
    · refine ih _ _ (this.cong (fun f sl hsl hap2 => ⟨fun z => ?_, fun z => ?_⟩))
      · rcases z with z | ⟨rfl, z⟩
        · exact Or.inl (Or.inl z)
        · by_cases e : sl / 7 = s
          · refine Or.inr ⟨rfl, ?_⟩
            rcases hap2.2 with ⟨q, _⟩ | ⟨_, q⟩
            · omega
            · exact absurd (hk.symm.trans q.1) (by decide)
          · exact Or.inl (Or.inr ⟨rfl, by omega⟩)
      · rcases z with z | ⟨rfl, rfl⟩
        · omega
        · exact Or.inr ⟨rfl, by omega⟩
    · unfold rngF
      rw [hk, ha]
      constructor
      · rintro (⟨_, z⟩ | ⟨z, _⟩)
        · rw [nI_eq (by omega) (by omega)] at z
          omega
        · exact absurd z (by decide)
      · intro z
        exact Or.inl ⟨rfl, by rw [show a = y by omega]⟩
theorem k_hearThing {E : Nat × (Nat → Int32)} {d : Nat} {v : xV} {x : Int32} {F T H : Nat → Int32} {B : Nat → Int64} {K n a b : Nat} {Q : xV → Prop} (hK : gI v 67 10 = nI K) (hK2 : K ≤ 20) (hn : n < 80) (hk : gA v 61 n = nI 4) (ha : gA v 64 n = nI a) (hb : gA v 65 n = nI b) (hab : a ≤ b) (hb2 : b < 200) (h44 : ∀ s, s < K → ∃ z, z ≤ 6 ∧ gA v 44 s = nI z) (hS : SlI v K (fun f _ => f < n) H B) (kk : ∀ H' B', SlI v K (fun f _ => f < n + 1) H' B' → Q (ys v x F T H' B')) : KV E (d + 1) 99 [.ref 67, .int (nI n)] (ys v x F T H B) Q := by
  have i80 : vp_in (nI n) 80 := vp_in_nI hn (by decide)
  refine KV.of ok_99 (Nat.le_of_ble_eq_true rfl) (w_X10_hearThing_0 ?_)
  refine lp_up (n := K) (P := fun s => ∀ H B, SlI v K (fun f sl => f < n ∨ (f = n ∧ sl / 7 < s)) H B → RV E (d + 1) 99 2 [(0, .ref 67), (1, .int (nI n)), (2, .int (nI s))] (ys v x F T H B) Q) (fun H B hS => w_X10_hearThing_2 ?_) (fun s hs ih H B hS => w_X10_hearThing_2 ?_) (Nat.zero_le _) H B (hS.cong (fun f sl _ _ => by omega))
  · rw [show gI (ys v x F T H B) 67 10 = nI K from hK]
    refine ⟨fun _ => kk H B (hS.cong (fun f sl hsl hap => ?_)), fun z => absurd (nI_le (Nat.le_refl _) (by omega)) z⟩
    have := hap.1
    omega
  · rw [show gI (ys v x F T H B) 67 10 = nI K from hK, nI_leI (by omega) (by omega)]
    refine ⟨fun z => by omega, fun _ => ?_⟩
    obtain ⟨z6, hz6, ez⟩ := h44 s hs
    refine lp_up (n := z6) (P := fun i => ∀ H B, SlI v K (fun f sl => f < n ∨ (f = n ∧ (sl / 7 < s ∨ (sl / 7 = s ∧ sl % 7 < i + 1)))) H B → RV E (d + 1) 99 12 [(0, .ref 67), (1, .int (nI n)), (2, .int (nI s)), (3, .int (nI i))] (ys v x F T H B) Q) (fun H B hS => w_X10_hearThing_12 ?_) (fun i hi ih2 H B hS => w_X10_hearThing_12 ?_) (Nat.zero_le _) H B (hS.cong (fun f sl hsl hap => ⟨fun z => ?_, fun z => by omega⟩))
    · have e44 : gA (ys v x F T H B) 44 s = nI z6 := ez
      simp (disch := omega) only [nI_clamp, vp_t, true_and, e44, nI_leI, nI_add]
      refine ⟨fun _ => ih H B (hS.cong (fun f sl hsl hap => ⟨fun z => ?_, fun z => by omega⟩)), fun z => absurd (Nat.le_refl _) z⟩
      rcases z with z | ⟨rfl, z⟩
      · exact Or.inl z
      · refine Or.inr ⟨rfl, ?_⟩
        by_cases e : sl / 7 = s
        · refine Or.inr ⟨e, ?_⟩
          rcases hap.2 with ⟨q, _⟩ | ⟨q0, q⟩
          · omega
          · have q2 := q.2.1
            rw [e, ez, nI_ltI (by omega) (by omega)] at q2
            omega
        · exact Or.inl (by omega)
    · have e44 : gA (ys v x F T H B) 44 s = nI z6 := ez
      have e64 : gA (ys v x F T H B) 64 n = nI a := ha
      have e65 : gA (ys v x F T H B) 65 n = nI b := hb
      have e45 : gA (ys v x F T H B) 45 (6 * s + i) = gA v 45 (6 * s + i) := rfl
      have e62 : gA (ys v x F T H B) 62 n = gA v 62 n := rfl
      simp (disch := omega) only [pk_mul, nI_add, nI_clamp, vp_t, true_and, e44, nI_leI, Nat.mul_comm s 6, Nat.mul_comm s 7, e64, e65, e45, e62]
      refine ⟨fun z => by omega, fun _ => ⟨fun h1 => ih2 H B (hS.cong (fun f sl hsl hap => ⟨fun z => ?_, fun z => by omega⟩)), fun h1 => ?_⟩⟩
      · rcases z with z | ⟨rfl, z⟩
        · exact Or.inl z
        · refine Or.inr ⟨rfl, ?_⟩
          by_cases e : sl / 7 = s ∧ sl % 7 = i + 1
          · exfalso
            rcases hap.2 with ⟨q, _⟩ | ⟨q0, q⟩
            · omega
            · have q2 := q.2.2
              rw [e.1, show sl % 7 - 1 = i by omega] at q2
              exact h1 q2
          · omega
      · refine k_allow (by omega) hb2 (fun B' hB => ?_) (by omega)
        have hap : aplF v K n (7 * s + 1 + i) := by
          refine ⟨by omega, Or.inr ⟨by omega, ?_⟩⟩
          rw [show (7 * s + 1 + i) / 7 = s by omega, show (7 * s + 1 + i) % 7 - 1 = i by omega]
          refine ⟨hk, ?_, h1⟩
          rw [ez, nI_ltI (by omega) (by omega)]
          exact hi
        have := hS.more (n := n) (sl0 := 7 * s + 1 + i) (a := a) (b := b) hap (fun y hy => ?_) hB
        · refine ih2 _ _ (this.cong (fun f sl hsl hap => ⟨fun z => ?_, fun z => ?_⟩))
          · rcases z with z | ⟨rfl, z⟩
            · exact Or.inl (Or.inl z)
            · by_cases e : sl = 7 * s + 1 + i
              · exact Or.inr ⟨rfl, e⟩
              · exact Or.inl (Or.inr ⟨rfl, by omega⟩)
          · rcases z with z | ⟨rfl, rfl⟩
            · omega
            · exact Or.inr ⟨rfl, by omega⟩
        · unfold rngF
          rw [hk, ha, hb]
          constructor
          · rintro (⟨z, _⟩ | ⟨_, z⟩)
            · exact absurd z (by decide)
            · rw [nI_leI (by omega) (by omega), nI_leI (by omega) (by omega)] at z
              exact z
          · intro z
            refine Or.inr ⟨rfl, ?_⟩
            rw [nI_leI (by omega) (by omega), nI_leI (by omega) (by omega)]
            exact z
    · rcases z with z | ⟨rfl, z⟩
      · exact Or.inl z
      · refine Or.inr ⟨rfl, ?_⟩
        by_cases e : sl / 7 = s
        · exfalso
          rcases hap.2 with ⟨q, q1⟩ | ⟨q0, q⟩
          · exact absurd (hk.symm.trans q1.1) (by decide)
          · omega
        · omega
theorem k_narrow {E : Nat × (Nat → Int32)} {d : Nat} {v : xV} {x : Int32} {F T H : Nat → Int32} {B : Nat → Int64} {k n : Nat} {Q : xV → Prop} (hk : k < 52) (hn : n < 80) (hlim : ∀ k', k' < 52 → (limF v n k' ↔ k' = k)) (hL : LmI v n F T) (kk : ∀ F' T', LmI v (n + 1) F' T' → Q (ys v x F' T' H B)) : KV E (d + 1) 97 [.ref 67, .int (nI k), .int (nI n)] (ys v x F T H B) Q := by
  refine KV.of ok_97 (Nat.le_of_ble_eq_true rfl) (w_X10_narrow_0 ?_)
  have e68 : gA (ys v x F T H B) 68 = F := rfl
  have e69 : gA (ys v x F T H B) 69 = T := rfl
  have e64 : gA (ys v x F T H B) 64 n = gA v 64 n := rfl
  have e65 : gA (ys v x F T H B) 65 n = gA v 65 n := rfl
  simp (disch := omega) only [nI_clamp, vp_t, true_and, forall_eq, e68, e69, e64, e65, ys_68, ys_69]
  refine kk _ _ (fun k' y hk' hy => ?_)
  have old := hL k' y hk' hy
  have split : (∀ f, f < n + 1 → limF v f k' → (gA v 64 f ≤ nI y ∧ nI y ≤ gA v 65 f)) ↔ (∀ f, f < n → limF v f k' → (gA v 64 f ≤ nI y ∧ nI y ≤ gA v 65 f)) ∧ (limF v n k' → (gA v 64 n ≤ nI y ∧ nI y ≤ gA v 65 n)) := by
    constructor
    · exact fun z => ⟨fun f hf => z f (by omega), z n (by omega)⟩
    · rintro ⟨z1, z2⟩ f hf
      by_cases e : f = n
      · rw [e]
        exact z2
      · exact z1 f (by omega)
  rw [split, ← old, hlim k' hk']
  by_cases e : k' = k
  · subst e
    rw [upd_s, upd_s]
    have m1 : ∀ p q : Int32, (if p < q then q else p) ≤ nI y ↔ p ≤ nI y ∧ q ≤ nI y := by
      intro p q
      split
      · rename_i h
        rw [Int32.lt_iff_toInt_lt] at h
        rw [Int32.le_iff_toInt_le, Int32.le_iff_toInt_le]
        omega
      · rename_i h
        rw [Int32.lt_iff_toInt_lt] at h
        rw [Int32.le_iff_toInt_le, Int32.le_iff_toInt_le]
        omega
    have m2 : ∀ p q : Int32, nI y ≤ (if q < p then q else p) ↔ nI y ≤ p ∧ nI y ≤ q := by
      intro p q
      split
      · rename_i h
        rw [Int32.lt_iff_toInt_lt] at h
        rw [Int32.le_iff_toInt_le, Int32.le_iff_toInt_le]
        omega
      · rename_i h
        rw [Int32.lt_iff_toInt_lt] at h
        rw [Int32.le_iff_toInt_le, Int32.le_iff_toInt_le]
        omega
    rw [m1, m2]
    exact ⟨fun z => ⟨⟨z.1.1, z.2.1⟩, fun _ => ⟨z.1.2, z.2.2⟩⟩, fun z => ⟨⟨z.1.1, (z.2 rfl).1⟩, z.1.2, (z.2 rfl).2⟩⟩
  · rw [upd_n _ _ e, upd_n _ _ e]
    exact ⟨fun z => ⟨z, fun z => absurd z e⟩, fun z => z.1⟩

def bB (b : Bool) : Int32 := if b = true then nI 1 else nI 0
theorem bB_t : bB true = nI 1 := rfl
theorem bB_f : bB false = nI 0 := rfl
theorem nI_01 : ¬ nI 1 = nI 0 := by decide
theorem bB_0 {b : Bool} : bB b = nI 0 ↔ b = false := by cases b <;> simp [bB_t, bB_f, nI_01]
theorem bB_1 {b : Bool} : bB b = nI 1 ↔ b = true := by
  cases b
  · simp only [bB_f]
    exact ⟨fun h => absurd h.symm nI_01, fun h => by cases h⟩
  · simp [bB_t]
theorem bB_in {b : Bool} : vp_in (bB b) 2 := by cases b <;> exact x_inl (by decide)
theorem bB_inj {a b : Bool} (h : bB a = bB b) : a = b := by
  cases a <;> cases b <;> first | rfl | exact absurd h nI_01 | exact absurd h.symm nI_01
theorem nz_lt {n : Nat} (h : n < 2 ^ 31) : ¬ nI n < nI 0 := by rw [nI_ltI h (by decide)]; omega
theorem nz_le {n : Nat} (h : n < 2 ^ 31) : nI 0 ≤ nI n := by rw [nI_leI (by decide) h]; omega
theorem m1_lt : (-1 : Int32) < nI 0 := by decide
theorem m1_nle : ¬ nI 0 ≤ (-1 : Int32) := by decide
theorem m1_ne {n : Nat} (h : n < 2 ^ 31) : ¬ nI n = (-1 : Int32) := fun e => nz_lt h (by rw [e]; exact m1_lt)
theorem m1_ne' {n : Nat} (h : n < 2 ^ 31) : ¬ (-1 : Int32) = nI n := fun e => m1_ne h e.symm
/-- any int: below 0, or a number -/
theorem i_of (x : Int32) : x < nI 0 ∨ ∃ n : Nat, n < 2 ^ 31 ∧ x = nI n := by
  by_cases h : x < nI 0
  · exact Or.inl h
  · exact Or.inr (nI_of h)
theorem i_neg {x : Int32} (h : x < nI 0) {n : Nat} (hn : n < 2 ^ 31) : ¬ x = nI n := fun e => nz_lt hn (by rw [← e]; exact h)
theorem i_negle {x : Int32} (h : x < nI 0) {n : Nat} (hn : n < 2 ^ 31) : ¬ nI n ≤ x := fun e => by
  rw [Int32.le_iff_toInt_le, nI_toInt hn] at e
  rw [Int32.lt_iff_toInt_lt, nI_toInt (by decide)] at h
  omega
theorem i_neglt {x : Int32} (h : x < nI 0) {n : Nat} (hn : n < 2 ^ 31) : x < nI n := by
  rw [Int32.lt_iff_toInt_lt, nI_toInt hn]
  rw [Int32.lt_iff_toInt_lt, nI_toInt (by decide)] at h
  omega
theorem i_neglt' {x : Int32} (h : x < nI 0) {n : Nat} (hn : n < 2 ^ 31) : ¬ nI n < x := fun e => by
  rw [Int32.lt_iff_toInt_lt, nI_toInt hn] at e
  rw [Int32.lt_iff_toInt_lt, nI_toInt (by decide)] at h
  omega
theorem i_nle {x y : Int32} : ¬ x ≤ y ↔ y < x := by rw [Int32.le_iff_toInt_le, Int32.lt_iff_toInt_lt]; omega
theorem i_nlt {x y : Int32} : ¬ x < y ↔ y ≤ x := by rw [Int32.le_iff_toInt_le, Int32.lt_iff_toInt_lt]; omega
theorem i_comm (a b : Int32) : a * b = b * a := Int32.mul_comm a b
theorem upd_s (f : Nat → Int32) (k : Nat) (x : Int32) : upd f k x k = x := pk_us
theorem upd_n (f : Nat → Int32) {k j : Nat} (x : Int32) (h : j ≠ k) : upd f k x j = f j := pk_un h
theorem upd_i (f : Nat → Int32) (k : Nat) (x : Int32) (j : Nat) : upd f k x j = if j = k then x else f j := rfl
theorem gI_I (v : xV) (j k : Nat) (x : Int32) (a b : Nat) : gI (v_I v j k x) a b = if a = j then (if b = k then x else gI v a b) else gI v a b := rfl
theorem gI_L (v : xV) (j k : Nat) (x : Int64) : gI (v_L v j k x) = gI v := rfl
theorem gI_A (v : xV) (j : Nat) (f : Nat → Int32) : gI (v_A v j f) = gI v := rfl
theorem gI_B (v : xV) (j : Nat) (f : Nat → Int64) : gI (v_B v j f) = gI v := rfl
theorem gL_I (v : xV) (j k : Nat) (x : Int32) : gL (v_I v j k x) = gL v := rfl
theorem gL_L (v : xV) (j k : Nat) (x : Int64) (a b : Nat) : gL (v_L v j k x) a b = if a = j then (if b = k then x else gL v a b) else gL v a b := rfl
theorem gL_A (v : xV) (j : Nat) (f : Nat → Int32) : gL (v_A v j f) = gL v := rfl
theorem gL_B (v : xV) (j : Nat) (f : Nat → Int64) : gL (v_B v j f) = gL v := rfl
theorem gA_I (v : xV) (j k : Nat) (x : Int32) : gA (v_I v j k x) = gA v := rfl
theorem gA_L (v : xV) (j k : Nat) (x : Int64) : gA (v_L v j k x) = gA v := rfl
theorem gA_A (v : xV) (j : Nat) (f : Nat → Int32) (a : Nat) : gA (v_A v j f) a = if a = j then f else gA v a := rfl
theorem gA_B (v : xV) (j : Nat) (f : Nat → Int64) : gA (v_B v j f) = gA v := rfl
theorem gB_I (v : xV) (j k : Nat) (x : Int32) : gB (v_I v j k x) = gB v := rfl
theorem gB_L (v : xV) (j k : Nat) (x : Int64) : gB (v_L v j k x) = gB v := rfl
theorem gB_A (v : xV) (j : Nat) (f : Nat → Int32) : gB (v_A v j f) = gB v := rfl
theorem gB_B (v : xV) (j : Nat) (f : Nat → Int64) (a : Nat) : gB (v_B v j f) a = if a = j then f else gB v a := rfl
theorem gb_I (v : xV) (j k : Nat) (x : Int32) : gb (v_I v j k x) = gb v := rfl
theorem gb_L (v : xV) (j k : Nat) (x : Int64) : gb (v_L v j k x) = gb v := rfl
theorem gb_A (v : xV) (j : Nat) (f : Nat → Int32) : gb (v_A v j f) = gb v := rfl
theorem gb_B (v : xV) (j : Nat) (f : Nat → Int64) : gb (v_B v j f) = gb v := rfl
theorem gn_I (v : xV) (j k : Nat) (x : Int32) : gn (v_I v j k x) = gn v := rfl
theorem gn_L (v : xV) (j k : Nat) (x : Int64) : gn (v_L v j k x) = gn v := rfl
theorem gn_A (v : xV) (j : Nat) (f : Nat → Int32) : gn (v_A v j f) = gn v := rfl
theorem gn_B (v : xV) (j : Nat) (f : Nat → Int64) : gn (v_B v j f) = gn v := rfl
theorem gk_I (v : xV) (j k : Nat) (x : Int32) : gk (v_I v j k x) = gk v := rfl
theorem gk_L (v : xV) (j k : Nat) (x : Int64) : gk (v_L v j k x) = gk v := rfl
theorem gk_A (v : xV) (j : Nat) (f : Nat → Int32) : gk (v_A v j f) = gk v := rfl
theorem gk_B (v : xV) (j : Nat) (f : Nat → Int64) : gk (v_B v j f) = gk v := rfl
theorem gz_I (v : xV) (j k : Nat) (x : Int32) : gz (v_I v j k x) = gz v := rfl
theorem gz_L (v : xV) (j k : Nat) (x : Int64) : gz (v_L v j k x) = gz v := rfl
theorem gz_A (v : xV) (j : Nat) (f : Nat → Int32) : gz (v_A v j f) = gz v := rfl
theorem gz_B (v : xV) (j : Nat) (f : Nat → Int64) : gz (v_B v j f) = gz v := rfl
theorem gN_I (v : xV) (j k : Nat) (x : Int32) : gN (v_I v j k x) = gN v := rfl
theorem gN_L (v : xV) (j k : Nat) (x : Int64) : gN (v_L v j k x) = gN v := rfl
theorem gN_A (v : xV) (j : Nat) (f : Nat → Int32) : gN (v_A v j f) = gN v := rfl
theorem gN_B (v : xV) (j : Nat) (f : Nat → Int64) : gN (v_B v j f) = gN v := rfl
theorem gK_I (v : xV) (j k : Nat) (x : Int32) : gK (v_I v j k x) = gK v := rfl
theorem gK_L (v : xV) (j k : Nat) (x : Int64) : gK (v_L v j k x) = gK v := rfl
theorem gK_A (v : xV) (j : Nat) (f : Nat → Int32) : gK (v_A v j f) = gK v := rfl
theorem gK_B (v : xV) (j : Nat) (f : Nat → Int64) : gK (v_B v j f) = gK v := rfl
theorem vA_s (v : xV) (j : Nat) (f g : Nat → Int32) : v_A (v_A v j f) j g = v_A v j g := by
  unfold v_A
  have : xu1 (xu1 v.2.2.1 j f) j g = xu1 v.2.2.1 j g := by funext a; unfold xu1; by_cases h : a = j <;> simp [h]
  simp only [this]
theorem vA_c (v : xV) {i j : Nat} (h : i < j) (f g : Nat → Int32) : v_A (v_A v j f) i g = v_A (v_A v i g) j f := by
  unfold v_A
  have : xu1 (xu1 v.2.2.1 j f) i g = xu1 (xu1 v.2.2.1 i g) j f := by
    funext a; unfold xu1
    by_cases h1 : a = i
    · have h2 : ¬ a = j := by omega
      simp [h1, show ¬ i = j by omega]
    · simp [h1]
  simp only [this]
theorem vI_s (v : xV) (j k : Nat) (x y : Int32) : v_I (v_I v j k x) j k y = v_I v j k y := by
  unfold v_I
  have : xu2 (xu2 v.1 j k x) j k y = xu2 v.1 j k y := by
    funext a b; unfold xu2
    by_cases h : a = j
    · by_cases h2 : b = k <;> simp [h, h2]
    · simp [h]
  simp only [this]
theorem vI_c (v : xV) {j k j2 k2 : Nat} (h : j2 < j ∨ (j2 = j ∧ k2 < k)) (x y : Int32) : v_I (v_I v j k x) j2 k2 y = v_I (v_I v j2 k2 y) j k x := by
  unfold v_I
  have : xu2 (xu2 v.1 j k x) j2 k2 y = xu2 (xu2 v.1 j2 k2 y) j k x := by
    funext a b; unfold xu2
    repeat' split
    all_goals first | rfl | (exfalso; omega)
  simp only [this]
theorem vIA (v : xV) (j k : Nat) (x : Int32) (i : Nat) (f : Nat → Int32) : v_I (v_A v i f) j k x = v_A (v_I v j k x) i f := rfl
theorem vAself (v : xV) (j : Nat) : v_A v j (gA v j) = v := by
  unfold v_A
  have : xu1 v.2.2.1 j (gA v j) = v.2.2.1 := by funext a; unfold xu1; by_cases h : a = j <;> simp [h]
  simp only [this]
theorem vIself (v : xV) (j k : Nat) : v_I v j k (gI v j k) = v := by
  unfold v_I
  have : xu2 v.1 j k (gI v j k) = v.1 := by
    funext a b; unfold xu2
    by_cases h : a = j
    · by_cases h2 : b = k <;> simp [h, h2]
    · simp [h]
  simp only [this]

/-! Arrays.fill over any state -/
theorem xpA_s (S : xS) (j : Nat) (f g : Nat → Int32) : x_pA (x_pA S j f) j g = x_pA S j g := by
  unfold x_pA
  have : xu1 (xu1 S.2.2.2.1 j f) j g = xu1 S.2.2.2.1 j g := by funext a; unfold xu1; by_cases h : a = j <;> simp [h]
  simp only [this]
theorem xpA_0 (S : xS) (j : Nat) : x_pA S j (x_A S j) = S := by
  unfold x_pA
  have : xu1 S.2.2.2.1 j (x_A S j) = S.2.2.2.1 := by funext a; unfold xu1; by_cases h : a = j <;> simp [h]
  simp only [this]
theorem xA_pA (S : xS) (j : Nat) (f : Nat → Int32) : x_A (x_pA S j f) j = f := xu1_s _ _ _
theorem upd_fill (g : Nat → Int32) (i : Nat) (x : Int32) : upd (fun a => if a < i then x else g a) i x = fun a => if a < i + 1 then x else g a := by
  funext a
  unfold upd
  by_cases h : a = i
  · subst h
    simp
  · by_cases h2 : a < i
    · rw [if_neg h]
      dsimp only
      rw [if_pos h2, if_pos (by omega)]
    · rw [if_neg h]
      dsimp only
      rw [if_neg h2, if_neg (by omega)]
theorem x_fill_loop {E : Nat × (Nat → Int32)} {d j : Nat} {S : xS} {x : Int32} (hK : x_K S j = 100) (hN : x_N S j < 2 ^ 31) : ∀ (k i : Nat), i + k = x_N S j → x_Rw E d 230 5 [(0, .ref j), (1, .int x), (2, .int (nI i)), (3, .int (nI (x_N S j)))] [] (x_pA S j (fun a => if a < i then x else x_A S j a)) none (x_pA S j (fun a => if a < x_N S j then x else x_A S j a))
  | 0, i, h => by
    have hi : i = x_N S j := by omega
    subst hi
    refine x_exs_ok (is := [(.iload_n 2, .null, 0, 0), (.iload_n 3, .null, 0, 0)]) (pc1 := 7) (R := ([], [(0, .ref j), (1, .int x), (2, .int (nI (x_N S j))), (3, .int (nI (x_N S j)))], [.int (nI (x_N S j)), .int (nI (x_N S j))], _)) (by decide +kernel) rfl trivial ?_
    refine xb_ic_ge_t (off := 13) (tgt := 20) (by decide +kernel) (by decide) ((nI_leI hN hN).mpr (Nat.le_refl _)) ?_
    exact xi_ret0 (by decide +kernel) rfl
  | k + 1, i, h => by
    refine x_exs_ok (is := [(.iload_n 2, .null, 0, 0), (.iload_n 3, .null, 0, 0)]) (pc1 := 7) (R := ([], [(0, .ref j), (1, .int x), (2, .int (nI i)), (3, .int (nI (x_N S j)))], [.int (nI (x_N S j)), .int (nI i)], _)) (by decide +kernel) rfl trivial ?_
    refine xb_ic_ge_f (off := 13) (tgt := 20) (by decide +kernel) (by decide) (fun hc => by rw [nI_leI hN (by omega)] at hc; omega) ?_
    refine x_exs_ok (is := [(.aload_n 0, .null, 0, 0), (.iload_n 2, .null, 0, 0), (.iload_n 1, .null, 0, 0)]) (pc1 := 13) (R := ([], [(0, .ref j), (1, .int x), (2, .int (nI i)), (3, .int (nI (x_N S j)))], [.int x, .int (nI i), .ref j], _)) (by decide +kernel) rfl trivial ?_
    refine xi_iast (by decide +kernel) (show x_K (x_pA S j _) j = 100 from hK) (show vp_in (nI i) (x_N (x_pA S j _) j) from vp_in_nI (show i < x_N S j by omega) hN) ?_
    rw [xpA_s, xA_pA, nI_clamp (by omega), upd_fill]
    refine x_exs_ok (is := [(.iinc 2 1, .int (nI 1), 0, 0)]) (pc1 := 17) (R := ([], [(2, .int (nI i + nI 1)), (0, .ref j), (1, .int x), (3, .int (nI (x_N S j)))], [], _)) (by decide +kernel) rfl trivial ?_
    refine xi_goto (off := -12) (tgt := 5) (by decide +kernel) (by decide) ?_
    rw [nI_add]
    exact x_sub [1, 2, 0, 3] rfl (x_fill_loop hK hN k (i + 1) (by omega))
theorem x_fill {E : Nat × (Nat → Int32)} {d j : Nat} {S : xS} {x : Int32} (hK : x_K S j = 100) (hN : x_N S j < 2 ^ 31) : x_Rw E d 230 0 [(0, .ref j), (1, .int x)] [] S none (x_pA S j (fun a => if a < x_N S j then x else x_A S j a)) := by
  refine x_exs_ok (is := [(.iconst 0, .int (nI 0), 0, 0), (.istore_n 2, .null, 0, 0), (.aload_n 0, .null, 0, 0)]) (pc1 := 3) (R := ([], [(2, .int (nI 0)), (0, .ref j), (1, .int x)], [.ref j], S)) (by decide +kernel) rfl trivial ?_
  refine xi_alen (by decide +kernel) (Or.inl hK) ?_
  refine x_exs_ok (is := [(.istore_n 3, .null, 0, 0)]) (pc1 := 5) (R := ([], [(3, .int (nI (x_N S j))), (2, .int (nI 0)), (0, .ref j), (1, .int x)], [], S)) (by decide +kernel) rfl trivial ?_
  have h := x_fill_loop (E := E) (d := d) (x := x) hK hN (x_N S j) 0 (by omega)
  have e : (fun a => if a < 0 then x else x_A S j a) = x_A S j := by funext a; simp
  rw [e, xpA_0] at h
  exact x_sub [2, 3, 1, 0] rfl h
theorem x_fillC {E : Nat × (Nat → Int32)} {d j : Nat} {S : xS} {x : Int32} (hK : x_K S j = 100) (hN : x_N S j < 2 ^ 31) : x_Call E d 230 [.ref j, .int x] S none (x_pA S j (fun a => if a < x_N S j then x else x_A S j a)) := x_meth ok_230 (Nat.le_of_ble_eq_true rfl) (x_fill hK hN)
/-- the whole array -/
theorem k_fill {E : Nat × (Nat → Int32)} {d j : Nat} {v : xV} {x : Int32} {Q : xV → Prop} (hK : gK v j = 100) (hN : gN v j < 2 ^ 31) (k : Q (v_A v j (fun a => if a < gN v j then x else gA v j a))) : KV E d 230 [.ref j, .int x] v Q := ⟨none, _, x_fillC (S := rt v) hK hN, _, rfl, rfl, k⟩
/-- a part of an array -/
theorem k_fillR {E : Nat × (Nat → Int32)} {d j a b : Nat} {v : xV} {x : Int32} {Q : xV → Prop} (hK : gK v j = 100) (hN : gN v j < 2 ^ 31) (hab : a ≤ b) (hb : b ≤ gN v j) (k : Q (v_A v j (fun i => if a ≤ i ∧ i < b then x else gA v j i))) : KV E (d + 2) 231 [.ref j, .int (nI a), .int (nI b), .int x] v Q := by
  refine KV.of ok_231 (Nat.le_of_ble_eq_true rfl) (w_J7_fill_fda19_0 ⟨hK, ?_⟩)
  refine KV.of ok_228 (Nat.le_of_ble_eq_true rfl) (w_J7_rangeCheck_23922_0 ⟨fun _ => ⟨fun _ => ⟨fun _ => ?_, fun hc => ?_⟩, fun hc => ?_⟩, fun hc => ?_⟩)
  · have loop : ∀ (k i : Nat) (g : Nat → Int32), i + k = b → Q (v_A v j (fun y => if i ≤ y ∧ y < b then x else g y)) → RV E (d + 1 + 1) 231 10 [(0, .ref j), (2, .int (nI b)), (3, .int x), (4, .int (nI i))] (v_A v j g) Q := by
      intro k
      induction k with
      | zero =>
        intro i g h hQ
        refine w_J7_fill_fda19_10 ⟨fun _ => ?_, fun hc => ?_⟩
        · have : (fun y => if i ≤ y ∧ y < b then x else g y) = g := by
            funext y
            rw [if_neg (by omega)]
          rw [this] at hQ
          exact hQ
        · rw [nI_leI (by omega) (by omega)] at hc
          omega
      | succ k ih =>
        intro i g h hQ
        refine w_J7_fill_fda19_10 ⟨fun hc => ?_, fun _ => ⟨hK, vp_in_nI (show i < gN v j by omega) hN, ?_⟩⟩
        · rw [nI_leI (by omega) (by omega)] at hc
          omega
        · rw [nI_add, nI_clamp (by omega), vA_s, gA_A, if_pos rfl]
          refine ih (i + 1) _ (by omega) ?_
          have : (fun y => if i + 1 ≤ y ∧ y < b then x else upd g i x y) = fun y => if i ≤ y ∧ y < b then x else g y := by
            funext y
            unfold upd
            by_cases h1 : y = i
            · subst h1
              rw [if_neg (by omega), if_pos rfl, if_pos (by omega)]
            · by_cases h2 : i + 1 ≤ y ∧ y < b
              · rw [if_pos h2, if_pos (by omega)]
              · rw [if_neg h2, if_neg h1, if_neg (by omega)]
          rw [this]
          exact hQ
    have := loop (b - a) a (gA v j) (by omega) k
    rw [vAself] at this
    exact this
  · exact hc ((nI_leI (by omega) hN).mpr hb)
  · exact hc (nz_le (by omega))
  · exact hc ((nI_leI (by omega) (by omega)).mpr hab)

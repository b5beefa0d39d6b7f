theorem x_b2_inv {f : Int32 → Int32 → Int32} {lv : List (Nat × Value)} {st : List Value} {S : xS} {R : xR} (h : x_b2 f lv st S = some R) : ∃ y x t, st = .int y :: .int x :: t ∧ R = ([], lv, .int (f x y) :: t, S) := by
  unfold x_b2 at h
  split at h
  · exact ⟨_, _, _, rfl, (Option.some.inj h).symm⟩
  · cases h
theorem x_l2_inv {f : Int64 → Int64 → Int64} {lv : List (Nat × Value)} {st : List Value} {S : xS} {R : xR} (h : x_l2 f lv st S = some R) : ∃ y x t, st = .long y :: .long x :: t ∧ R = ([], lv, .long (f x y) :: t, S) := by
  unfold x_l2 at h
  split at h
  · exact ⟨_, _, _, rfl, (Option.some.inj h).symm⟩
  · cases h
theorem x_li_inv {f : Int64 → Int32 → Int64} {lv : List (Nat × Value)} {st : List Value} {S : xS} {R : xR} (h : x_li f lv st S = some R) : ∃ y x t, st = .int y :: .long x :: t ∧ R = ([], lv, .long (f x y) :: t, S) := by
  unfold x_li at h
  split at h
  · exact ⟨_, _, _, rfl, (Option.some.inj h).symm⟩
  · cases h
theorem x_lc_inv  {lv : List (Nat × Value)} {st : List Value} {S : xS} {R : xR} (h : x_lc lv st S = some R) : ∃ y x t, st = .long y :: .long x :: t ∧ R = ([], lv, .int (lg_cmp x y) :: t, S) := by
  unfold x_lc at h
  split at h
  · exact ⟨_, _, _, rfl, (Option.some.inj h).symm⟩
  · cases h
theorem x_il_inv  {lv : List (Nat × Value)} {st : List Value} {S : xS} {R : xR} (h : x_il lv st S = some R) : ∃ x t, st = .int x :: t ∧ R = ([], lv, .long x.toInt64 :: t, S) := by
  unfold x_il at h
  split at h
  · exact ⟨_, _, rfl, (Option.some.inj h).symm⟩
  · cases h
theorem x_dI_inv {n : Nat} {lv : List (Nat × Value)} {st : List Value} {S : xS} {R : xR} (h : x_dI lv n st S = some R) : ∃ x, x_lk lv n = some (.int x) ∧ R = ([], lv, .int x :: st, S) := by
  unfold x_dI at h
  split at h
  · rename_i x hx
    exact ⟨x, hx, (Option.some.inj h).symm⟩
  · cases h
theorem x_dL_inv {n : Nat} {lv : List (Nat × Value)} {st : List Value} {S : xS} {R : xR} (h : x_dL lv n st S = some R) : ∃ x, x_lk lv n = some (.long x) ∧ R = ([], lv, .long x :: st, S) := by
  unfold x_dL at h
  split at h
  · rename_i x hx
    exact ⟨x, hx, (Option.some.inj h).symm⟩
  · cases h
theorem x_dR_inv {n : Nat} {lv : List (Nat × Value)} {st : List Value} {S : xS} {R : xR} (h : x_dR lv n st S = some R) : ∃ x, x_lk lv n = some (.ref x) ∧ R = ([], lv, .ref x :: st, S) := by
  unfold x_dR at h
  split at h
  · rename_i x hx
    exact ⟨x, hx, (Option.some.inj h).symm⟩
  · cases h
theorem x_tI_inv {n : Nat} {lv : List (Nat × Value)} {st : List Value} {S : xS} {R : xR} (h : x_tI lv n st S = some R) : ∃ x t, st = .int x :: t ∧ R = ([], x_s1 lv n (.int x), t, S) := by
  unfold x_tI at h
  split at h
  · exact ⟨_, _, rfl, (Option.some.inj h).symm⟩
  · cases h
theorem x_tL_inv {n : Nat} {lv : List (Nat × Value)} {st : List Value} {S : xS} {R : xR} (h : x_tL lv n st S = some R) : ∃ x t, st = .long x :: t ∧ R = ([], x_s2 lv n (.long x), t, S) := by
  unfold x_tL at h
  split at h
  · exact ⟨_, _, rfl, (Option.some.inj h).symm⟩
  · cases h
theorem x_tR_inv {n : Nat} {lv : List (Nat × Value)} {st : List Value} {S : xS} {R : xR} (h : x_tR lv n st S = some R) : ∃ x t, st = .ref x :: t ∧ R = ([], x_s1 lv n (.ref x), t, S) := by
  unfold x_tR at h
  split at h
  · exact ⟨_, _, rfl, (Option.some.inj h).symm⟩
  · cases h
theorem x_inc_inv {n : Nat} {e : Value} {lv : List (Nat × Value)} {st : List Value} {S : xS} {R : xR} (h : x_inc lv n e st S = some R) : ∃ x v, x_lk lv n = some (.int x) ∧ e = .int v ∧ R = ([], x_s1 lv n (.int (x + v)), st, S) := by
  unfold x_inc at h
  split at h
  · rename_i x v hx
    exact ⟨x, v, hx, rfl, (Option.some.inj h).symm⟩
  · cases h
theorem x_dup_inv  {lv : List (Nat × Value)} {st : List Value} {S : xS} {R : xR} (h : x_dup lv st S = some R) : ∃ v t, st = v :: t ∧ v.category = 1 ∧ R = ([], lv, v :: v :: t, S) := by
  unfold x_dup at h
  split at h
  · split at h
    · rename_i hv
      exact ⟨_, _, rfl, hv, (Option.some.inj h).symm⟩
    · cases h
  · cases h
theorem x_pop_inv  {lv : List (Nat × Value)} {st : List Value} {S : xS} {R : xR} (h : x_pop lv st S = some R) : ∃ v t, st = v :: t ∧ v.category = 1 ∧ R = ([], lv, t, S) := by
  unfold x_pop at h
  split at h
  · split at h
    · rename_i hv
      exact ⟨_, _, rfl, hv, (Option.some.inj h).symm⟩
    · cases h
  · cases h
theorem x_dup2_inv  {lv : List (Nat × Value)} {st : List Value} {S : xS} {R : xR} (h : x_dup2 lv st S = some R) : ∃ v w t, st = v :: w :: t ∧ v.category = 1 ∧ w.category = 1 ∧ R = ([], lv, v :: w :: v :: w :: t, S) := by
  unfold x_dup2 at h
  split at h
  · split at h
    · rename_i hv
      split at h
      · rename_i hw
        exact ⟨_, _, _, rfl, hv, hw, (Option.some.inj h).symm⟩
      · cases h
    · cases h
  · cases h
theorem x_gf_inv {a b : Nat} {lv : List (Nat × Value)} {st : List Value} {S : xS} {R : xR} (h : x_gf a b lv st S = some R) : ∃ j t v, st = .ref j :: t ∧ x_K S j = a ∧ x_fr S j a b = some v ∧ R = ([], lv, v :: t, S) := by
  unfold x_gf at h
  split at h
  · split at h
    · rename_i hk
      split at h
      · rename_i v hv
        exact ⟨_, _, v, rfl, hk, hv, (Option.some.inj h).symm⟩
      · cases h
    · cases h
  · cases h
theorem x_pf_inv {a b : Nat} {lv : List (Nat × Value)} {st : List Value} {S : xS} {R : xR} (h : x_pf a b lv st S = some R) : (∃ x j t, st = .int x :: .ref j :: t ∧ x_K S j = a ∧ x_tc a b = 0 ∧ R = ([], lv, t, x_pI S j b x)) ∨ (∃ x j t, st = .int x :: .ref j :: t ∧ x_K S j = a ∧ x_tc a b = 3 ∧ R = ([(x, 2)], lv, t, x_pI S j b x)) ∨ (∃ x j t, st = .long x :: .ref j :: t ∧ x_K S j = a ∧ x_tc a b = 1 ∧ R = ([], lv, t, x_pL S j b x)) ∨ (∃ x j t, st = .ref x :: .ref j :: t ∧ x_K S j = a ∧ x_tc a b = 2 ∧ R = ([], lv, t, x_pP S j b x)) := by
  unfold x_pf at h
  split at h
  · split at h
    · rename_i hk
      split at h
      · rename_i h0
        exact Or.inl ⟨_, _, _, rfl, hk, h0, (Option.some.inj h).symm⟩
      · split at h
        · rename_i h3
          exact Or.inr (Or.inl ⟨_, _, _, rfl, hk, h3, (Option.some.inj h).symm⟩)
        · cases h
    · cases h
  · split at h
    · rename_i hk
      split at h
      · rename_i h0
        exact Or.inr (Or.inr (Or.inl ⟨_, _, _, rfl, hk, h0, (Option.some.inj h).symm⟩))
      · cases h
    · cases h
  · split at h
    · rename_i hk
      split at h
      · rename_i h0
        exact Or.inr (Or.inr (Or.inr ⟨_, _, _, rfl, hk, h0, (Option.some.inj h).symm⟩))
      · cases h
    · cases h
  · cases h
theorem x_al_inv {E : Nat × (Nat → Int32)} {lv : List (Nat × Value)} {st : List Value} {S : xS} {R : xR} (h : x_al E lv st S = some R) : ∃ i j t, st = .int i :: .ref j :: t ∧ ((x_K S j = 100 ∧ R = ([(i, x_N S j)], lv, .int (x_A S j i.toNatClampNeg) :: t, S)) ∨ (j = x_ext0 ∧ R = ([(i, E.1)], lv, .int (E.2 i.toNatClampNeg) :: t, S))) := by
  unfold x_al at h
  split at h
  · split at h
    · rename_i hk
      exact ⟨_, _, _, rfl, Or.inl ⟨hk, (Option.some.inj h).symm⟩⟩
    · split at h
      · rename_i hk
        exact ⟨_, _, _, rfl, Or.inr ⟨hk, (Option.some.inj h).symm⟩⟩
      · cases h
  · cases h
theorem x_zl_inv  {lv : List (Nat × Value)} {st : List Value} {S : xS} {R : xR} (h : x_zl lv st S = some R) : ∃ i j t, st = .int i :: .ref j :: t ∧ x_K S j = 101 ∧ R = ([(i, x_N S j)], lv, .int (x_A S j i.toNatClampNeg) :: t, S) := by
  unfold x_zl at h
  split at h
  · split at h
    · rename_i hk
      exact ⟨_, _, _, rfl, hk, (Option.some.inj h).symm⟩
    · cases h
  · cases h
theorem x_ll_inv  {lv : List (Nat × Value)} {st : List Value} {S : xS} {R : xR} (h : x_ll lv st S = some R) : ∃ i j t, st = .int i :: .ref j :: t ∧ x_K S j = 102 ∧ R = ([(i, x_N S j)], lv, .long (x_B S j i.toNatClampNeg) :: t, S) := by
  unfold x_ll at h
  split at h
  · split at h
    · rename_i hk
      exact ⟨_, _, _, rfl, hk, (Option.some.inj h).symm⟩
    · cases h
  · cases h
theorem x_as_inv  {lv : List (Nat × Value)} {st : List Value} {S : xS} {R : xR} (h : x_as lv st S = some R) : ∃ x i j t, st = .int x :: .int i :: .ref j :: t ∧ x_K S j = 100 ∧ R = ([(i, x_N S j)], lv, t, x_pA S j (upd (x_A S j) i.toNatClampNeg x)) := by
  unfold x_as at h
  split at h
  · split at h
    · rename_i hk
      exact ⟨_, _, _, _, rfl, hk, (Option.some.inj h).symm⟩
    · cases h
  · cases h
theorem x_zs_inv  {lv : List (Nat × Value)} {st : List Value} {S : xS} {R : xR} (h : x_zs lv st S = some R) : ∃ x i j t, st = .int x :: .int i :: .ref j :: t ∧ x_K S j = 101 ∧ R = ([(i, x_N S j), (x, 2)], lv, t, x_pA S j (upd (x_A S j) i.toNatClampNeg x)) := by
  unfold x_zs at h
  split at h
  · split at h
    · rename_i hk
      exact ⟨_, _, _, _, rfl, hk, (Option.some.inj h).symm⟩
    · cases h
  · cases h
theorem x_lls_inv  {lv : List (Nat × Value)} {st : List Value} {S : xS} {R : xR} (h : x_lls lv st S = some R) : ∃ x i j t, st = .long x :: .int i :: .ref j :: t ∧ x_K S j = 102 ∧ R = ([(i, x_N S j)], lv, t, x_pB S j (vp_updL (x_B S j) i.toNatClampNeg x)) := by
  unfold x_lls at h
  split at h
  · split at h
    · rename_i hk
      exact ⟨_, _, _, _, rfl, hk, (Option.some.inj h).symm⟩
    · cases h
  · cases h
theorem x_len_inv {E : Nat × (Nat → Int32)} {lv : List (Nat × Value)} {st : List Value} {S : xS} {R : xR} (h : x_len E lv st S = some R) : ∃ j t, st = .ref j :: t ∧ (((x_K S j = 100 ∨ x_K S j = 101 ∨ x_K S j = 102) ∧ R = ([], lv, .int (Int32.ofNat (x_N S j)) :: t, S)) ∨ (j = x_ext0 ∧ R = ([], lv, .int (Int32.ofNat E.1) :: t, S))) := by
  unfold x_len at h
  split at h
  · split at h
    · rename_i hk
      exact ⟨_, _, rfl, Or.inl ⟨hk, (Option.some.inj h).symm⟩⟩
    · split at h
      · rename_i hk
        exact ⟨_, _, rfl, Or.inr ⟨hk, (Option.some.inj h).symm⟩⟩
      · cases h
  · cases h
theorem x_mkN_inv {a : Nat} {lv : List (Nat × Value)} {st : List Value} {S : xS} {R : xR} (h : x_mkN a lv st S = some R) : x_n S < x_ext0 ∧ R = ([], lv, .ref (x_n S) :: st, x_new S a) := by
  unfold x_mkN at h
  split at h
  · rename_i hk
    exact ⟨hk, (Option.some.inj h).symm⟩
  · cases h
theorem x_mkA_inv {a b : Nat} {lv : List (Nat × Value)} {st : List Value} {S : xS} {R : xR} (h : x_mkA a b lv st S = some R) : ∃ n t, st = .int n :: t ∧ (x_n S < x_ext0 ∧ (¬ n < 0) ∧ n.toNatClampNeg = b ∧ b * 8 ≤ 536870912 ∧ (a = 100 ∨ a = 101 ∨ a = 102)) ∧ R = ([], lv, .ref (x_n S) :: t, x_newA S a b) := by
  unfold x_mkA at h
  split at h
  · split at h
    · rename_i hk
      exact ⟨_, _, rfl, hk, (Option.some.inj h).symm⟩
    · cases h
  · cases h
theorem x_kc_ok {o idx : Nat} {e : Nat × Value × Nat} (h : x_kc o idx = some e) (ho : o < 20) : (∀ v, e.2.1 = .int v → Cond.constant (x_o o) idx v ∈ x_tbl) ∧ (∀ v, e.2.1 = .long v → Cond.constantLong (x_o o) idx v ∈ x_tbl) := by
  have h1 := List.mem_of_find?_eq_some h
  have h2 : e.1 = idx := by simpa using List.find?_some h
  have h3 := x_at_mem (List.all_eq_true.mp (List.all_eq_true.mp x_koks o (List.mem_range.mpr ho)) e h1)
  refine ⟨fun v hv => ?_, fun v hv => ?_⟩
  · unfold x_kcc at h3
    rw [hv, h2] at h3
    exact h3
  · unfold x_kcc at h3
    rw [hv, h2] at h3
    exact h3
theorem x_kc_int {o k : Nat} {v : Value} (hc : (match x_kc o k, v with | some e, .int _ => decide (e.2.1 = v ∧ o < 20) | _, _ => false) = true) : ∃ (e : Nat × Value × Nat) (w : Int32), x_kc o k = some e ∧ v = .int w ∧ e.2.1 = .int w ∧ o < 20 := by
  split at hc
  · rename_i e w he
    have hc := of_decide_eq_true hc
    exact ⟨e, w, he, rfl, hc.1, hc.2⟩
  · cases hc
theorem x_kc_long {o k : Nat} {v : Value} (hc : (match x_kc o k, v with | some e, .long _ => decide (e.2.1 = v ∧ o < 20) | _, _ => false) = true) : ∃ (e : Nat × Value × Nat) (w : Int64), x_kc o k = some e ∧ v = .long w ∧ e.2.1 = .long w ∧ o < 20 := by
  split at hc
  · rename_i e w he
    have hc := of_decide_eq_true hc
    exact ⟨e, w, he, rfl, hc.1, hc.2⟩
  · cases hc
set_option maxHeartbeats 4000000 in
theorem x_ex_ok {E : Nat × (Nat → Int32)} {d m pc : Nat} {i : xe} {lv : List (Nat × Value)} {st : List Value} {S S' : xS} {R : xR} {r : Option Value} (hc : x_chk m pc i = true) (hx : x_ex E i lv st S = some R) (hb : x_bds R.1) (h : x_Rw E d m (pc + x_ln i.1) R.2.1 R.2.2.1 R.2.2.2 r S') : x_Rw E d m pc lv st S r S' := by
  obtain ⟨ins, v, a, b⟩ := i
  unfold x_chk at hc
  obtain ⟨hdg, hc⟩ := (Bool.and_eq_true _ _).mp hc
  replace hdg := of_decide_eq_true hdg
  cases ins with
  | iconst n =>
    cases (Option.some.inj hx)
    have hc : v = _ := of_decide_eq_true hc
    subst hc
    exact xi_iconst hdg rfl h
  | bipush n =>
    cases (Option.some.inj hx)
    have hc : v = _ := of_decide_eq_true hc
    subst hc
    exact xi_bipush hdg rfl h
  | sipush n =>
    cases (Option.some.inj hx)
    have hc : v = _ := of_decide_eq_true hc
    subst hc
    exact xi_sipush hdg rfl h
  | lconst n =>
    cases (Option.some.inj hx)
    have hc : v = _ := of_decide_eq_true hc
    subst hc
    exact xi_lconst hdg rfl h
  | ldc k =>
    obtain ⟨e, w, he, hv, h1, h2⟩ := x_kc_int hc
    dsimp only at hv
    subst hv
    cases (Option.some.inj hx)
    exact xi_ldc hdg ((x_kc_ok he h2).1 _ h1) h
  | ldc_w k =>
    obtain ⟨e, w, he, hv, h1, h2⟩ := x_kc_int hc
    dsimp only at hv
    subst hv
    cases (Option.some.inj hx)
    exact xi_ldcw hdg ((x_kc_ok he h2).1 _ h1) h
  | ldc2_w k =>
    obtain ⟨e, w, he, hv, h1, h2⟩ := x_kc_long hc
    dsimp only at hv
    subst hv
    cases (Option.some.inj hx)
    exact xi_ldc2 hdg ((x_kc_ok he h2).2 _ h1) h
  | iload n =>
    obtain ⟨x, hk, rfl⟩ := x_dI_inv (show x_dI lv n st S = some R from hx)
    exact xi_iload hdg hk h
  | iload_n n =>
    obtain ⟨x, hk, rfl⟩ := x_dI_inv (show x_dI lv n st S = some R from hx)
    exact xi_iload_n hdg hk h
  | lload n =>
    obtain ⟨x, hk, rfl⟩ := x_dL_inv (show x_dL lv n st S = some R from hx)
    exact xi_lload hdg hk h
  | lload_n n =>
    obtain ⟨x, hk, rfl⟩ := x_dL_inv (show x_dL lv n st S = some R from hx)
    exact xi_lload_n hdg hk h
  | aload n =>
    obtain ⟨x, hk, rfl⟩ := x_dR_inv (show x_dR lv n st S = some R from hx)
    exact xi_aload hdg hk h
  | aload_n n =>
    obtain ⟨x, hk, rfl⟩ := x_dR_inv (show x_dR lv n st S = some R from hx)
    exact xi_aload_n hdg hk h
  | istore n =>
    obtain ⟨x, t, rfl, rfl⟩ := x_tI_inv (show x_tI lv n st S = some R from hx)
    exact xi_istore hdg (of_decide_eq_true hc) h
  | istore_n n =>
    obtain ⟨x, t, rfl, rfl⟩ := x_tI_inv (show x_tI lv n st S = some R from hx)
    exact xi_istore_n hdg (of_decide_eq_true hc) h
  | lstore n =>
    obtain ⟨x, t, rfl, rfl⟩ := x_tL_inv (show x_tL lv n st S = some R from hx)
    exact xi_lstore hdg (of_decide_eq_true hc) h
  | lstore_n n =>
    obtain ⟨x, t, rfl, rfl⟩ := x_tL_inv (show x_tL lv n st S = some R from hx)
    exact xi_lstore_n hdg (of_decide_eq_true hc) h
  | astore n =>
    obtain ⟨x, t, rfl, rfl⟩ := x_tR_inv (show x_tR lv n st S = some R from hx)
    exact xi_astore hdg (of_decide_eq_true hc) h
  | astore_n n =>
    obtain ⟨x, t, rfl, rfl⟩ := x_tR_inv (show x_tR lv n st S = some R from hx)
    exact xi_astore_n hdg (of_decide_eq_true hc) h
  | iinc n k =>
    obtain ⟨x, w, hk, he, rfl⟩ := x_inc_inv (show x_inc lv n v st S = some R from hx)
    subst he
    obtain ⟨c1, c2⟩ := (Bool.and_eq_true _ _).mp hc
    have c2 : Value.int w = .int (Int32.ofInt k) := of_decide_eq_true c2
    exact xi_iinc hdg (of_decide_eq_true c1) hk (Value.int.inj c2).symm h
  | dup =>
    obtain ⟨w, t, rfl, hv, rfl⟩ := x_dup_inv (show x_dup lv st S = some R from hx)
    exact xi_dup hdg hv h
  | pop =>
    obtain ⟨w, t, rfl, hv, rfl⟩ := x_pop_inv (show x_pop lv st S = some R from hx)
    exact xi_pop hdg hv h
  | dup2 =>
    obtain ⟨w, u, t, rfl, hv, hw, rfl⟩ := x_dup2_inv (show x_dup2 lv st S = some R from hx)
    exact xi_dup2 hdg hv hw h
  | iadd =>
    obtain ⟨y, x, t, rfl, rfl⟩ := x_b2_inv (show x_b2 _ lv st S = some R from hx)
    exact xi_iadd hdg h
  | isub =>
    obtain ⟨y, x, t, rfl, rfl⟩ := x_b2_inv (show x_b2 _ lv st S = some R from hx)
    exact xi_isub hdg h
  | imul =>
    obtain ⟨y, x, t, rfl, rfl⟩ := x_b2_inv (show x_b2 _ lv st S = some R from hx)
    exact xi_imul hdg h
  | iand =>
    obtain ⟨y, x, t, rfl, rfl⟩ := x_b2_inv (show x_b2 _ lv st S = some R from hx)
    exact xi_iand hdg h
  | ior =>
    obtain ⟨y, x, t, rfl, rfl⟩ := x_b2_inv (show x_b2 _ lv st S = some R from hx)
    exact xi_ior hdg h
  | ixor =>
    obtain ⟨y, x, t, rfl, rfl⟩ := x_b2_inv (show x_b2 _ lv st S = some R from hx)
    exact xi_ixor hdg h
  | ishl =>
    obtain ⟨y, x, t, rfl, rfl⟩ := x_b2_inv (show x_b2 _ lv st S = some R from hx)
    exact xi_ishl hdg h
  | ishr =>
    obtain ⟨y, x, t, rfl, rfl⟩ := x_b2_inv (show x_b2 _ lv st S = some R from hx)
    exact xi_ishr hdg h
  | iushr =>
    obtain ⟨y, x, t, rfl, rfl⟩ := x_b2_inv (show x_b2 _ lv st S = some R from hx)
    exact xi_iushr hdg h
  | ladd =>
    obtain ⟨y, x, t, rfl, rfl⟩ := x_l2_inv (show x_l2 _ lv st S = some R from hx)
    exact xi_ladd hdg h
  | lsub =>
    obtain ⟨y, x, t, rfl, rfl⟩ := x_l2_inv (show x_l2 _ lv st S = some R from hx)
    exact xi_lsub hdg h
  | lmul =>
    obtain ⟨y, x, t, rfl, rfl⟩ := x_l2_inv (show x_l2 _ lv st S = some R from hx)
    exact xi_lmul hdg h
  | land =>
    obtain ⟨y, x, t, rfl, rfl⟩ := x_l2_inv (show x_l2 _ lv st S = some R from hx)
    exact xi_land hdg h
  | lor =>
    obtain ⟨y, x, t, rfl, rfl⟩ := x_l2_inv (show x_l2 _ lv st S = some R from hx)
    exact xi_lor hdg h
  | lushr =>
    obtain ⟨y, x, t, rfl, rfl⟩ := x_li_inv (show x_li _ lv st S = some R from hx)
    exact xi_lushr hdg h
  | lshl =>
    obtain ⟨y, x, t, rfl, rfl⟩ := x_li_inv (show x_li _ lv st S = some R from hx)
    exact xi_lshl hdg h
  | i2l =>
    obtain ⟨x, t, rfl, rfl⟩ := x_il_inv (show x_il lv st S = some R from hx)
    exact xi_i2l hdg h
  | lcmp =>
    obtain ⟨y, x, t, rfl, rfl⟩ := x_lc_inv (show x_lc lv st S = some R from hx)
    exact xi_lcmp hdg h
  | getfield k =>
    obtain ⟨j, t, w, rfl, hK, hv, rfl⟩ := x_gf_inv (show x_gf a b lv st S = some R from hx)
    have hc : (match x_fl (x_mo m) k with | some e => decide (e.2.1 = a ∧ e.2.2.1 = b ∧ x_mo m < 20) | none => false) = true := hc
    split at hc
    · rename_i e he
      obtain ⟨q1, q2, q3⟩ := of_decide_eq_true hc
      obtain ⟨e1, e2, e3, e4⟩ := e
      dsimp only at q1 q2
      subst q1
      subst q2
      exact xi_getf hdg he q3 hK hv h
    · cases hc
  | putfield k =>
    obtain ⟨hc, hf⟩ := (Bool.and_eq_true _ _).mp hc
    have hf : ((x_C a).2.1 b).2.2.2 = false ∨ ((x_mY m).name = "<init>" ∧ ((x_C a).2.1 b).1 = x_o (x_mo m)) := by
      rcases (Bool.or_eq_true _ _).mp hf with h1 | h1
      · exact Or.inl (of_decide_eq_true h1)
      · exact Or.inr (of_decide_eq_true h1)
    have hx := x_pf_inv (show x_pf a b lv st S = some R from hx)
    have hc : (match x_fl (x_mo m) k with | some e => decide (e.2.1 = a ∧ e.2.2.1 = b ∧ x_mo m < 20) | none => false) = true := hc
    split at hc
    · rename_i e he
      obtain ⟨q1, q2, q3⟩ := of_decide_eq_true hc
      obtain ⟨e1, e2, e3, e4⟩ := e
      dsimp only at q1 q2
      subst q1
      subst q2
      rcases hx with ⟨x, j, t, rfl, hK, ht, rfl⟩ | ⟨x, j, t, rfl, hK, ht, rfl⟩ | ⟨x, j, t, rfl, hK, ht, rfl⟩ | ⟨x, j, t, rfl, hK, ht, rfl⟩
      · exact xi_putI hdg he q3 hK hf (Or.inl ht) h
      · exact xi_putI hdg he q3 hK hf (Or.inr ⟨ht, hb.1⟩) h
      · exact xi_putL hdg he q3 hK hf ht h
      · exact xi_putR hdg he q3 hK hf ht h
    · cases hc
  | iaload =>
    obtain ⟨i, j, t, rfl, ⟨hK, rfl⟩ | ⟨rfl, rfl⟩⟩ := x_al_inv (show x_al E lv st S = some R from hx)
    · exact xi_iald hdg hK hb.1 h
    · exact xi_sld hdg hb.1 h
  | baload =>
    obtain ⟨i, j, t, rfl, hK, rfl⟩ := x_zl_inv (show x_zl lv st S = some R from hx)
    exact xi_zald hdg hK hb.1 h
  | laload =>
    obtain ⟨i, j, t, rfl, hK, rfl⟩ := x_ll_inv (show x_ll lv st S = some R from hx)
    exact xi_lald hdg hK hb.1 h
  | iastore =>
    obtain ⟨x, i, j, t, rfl, hK, rfl⟩ := x_as_inv (show x_as lv st S = some R from hx)
    exact xi_iast hdg hK hb.1 h
  | bastore =>
    obtain ⟨x, i, j, t, rfl, hK, rfl⟩ := x_zs_inv (show x_zs lv st S = some R from hx)
    exact xi_zast hdg hK hb.1 hb.2.1 h
  | lastore =>
    obtain ⟨x, i, j, t, rfl, hK, rfl⟩ := x_lls_inv (show x_lls lv st S = some R from hx)
    exact xi_last hdg hK hb.1 h
  | arraylength =>
    obtain ⟨j, t, rfl, ⟨hK, rfl⟩ | ⟨rfl, rfl⟩⟩ := x_len_inv (show x_len E lv st S = some R from hx)
    · exact xi_alen hdg hK h
    · exact xi_slen hdg h
  | new k =>
    obtain ⟨hn, rfl⟩ := x_mkN_inv (show x_mkN a lv st S = some R from hx)
    have hc : (match x_nw (x_mo m) k with | some e => decide (e.2.1 = a ∧ x_mo m < 20) | none => false) = true := hc
    split at hc
    · rename_i e he
      obtain ⟨q1, q3⟩ := of_decide_eq_true hc
      obtain ⟨e1, e2, e3⟩ := e
      dsimp only at q1
      subst q1
      exact xi_new hdg he q3 hn h
    · cases hc
  | newarray ty =>
    obtain ⟨n, t, rfl, ⟨hn, h0, hN, hb8, hkd⟩, rfl⟩ := x_mkA_inv (show x_mkA a b lv st S = some R from hx)
    have hc : ty = (x_at0 a).1 := of_decide_eq_true hc
    subst hc
    exact xi_newa hdg hkd hn h0 hN hb8 h
  | _ => exact absurd hx (by simp [x_ex])
theorem x_exs_ok {E : Nat × (Nat → Int32)} {d m : Nat} {r : Option Value} {S' : xS} : ∀ {is : List xe} {pc pc1 : Nat} {lv : List (Nat × Value)} {st : List Value} {S : xS} {R : xR}, x_chks m pc is pc1 = true → x_exs E is lv st S = some R → x_bds R.1 → x_Rw E d m pc1 R.2.1 R.2.2.1 R.2.2.2 r S' → x_Rw E d m pc lv st S r S'
  | [], pc, pc1, lv, st, S, R, hc, hx, _, h => by
    cases (Option.some.inj hx)
    have hc : pc = pc1 := by simpa [x_chks] using hc
    subst hc
    exact h
  | i :: t, pc, pc1, lv, st, S, R, hc, hx, hb, h => by
    unfold x_chks at hc
    obtain ⟨hc1, hc2⟩ := (Bool.and_eq_true _ _).mp hc
    unfold x_exs at hx
    split at hx
    · cases hx
    · rename_i b lv1 st1 S1 h1
      split at hx
      · cases hx
      · rename_i b2 lv2 st2 S2 h2
        cases (Option.some.inj hx)
        obtain ⟨hb1, hb2⟩ := x_bds_app hb
        exact x_ex_ok hc1 h1 hb1 (x_exs_ok hc2 h2 hb2 h)
/-- a block of straight code -/
theorem xr_blk {E : Nat × (Nat → Int32)} {d m pc pc1 : Nat} {lv lv1 : List (Nat × Value)} {st st1 : List Value} {S S1 : xS} {Q : Option Value → xS → Prop} (is : List xe) (bs : List (Int32 × Nat)) (hc : x_chks m pc is pc1 = true) (hx : x_exs E is lv st S = some (bs, lv1, st1, S1)) (hb : x_bds bs) (k : x_R E d m pc1 lv1 st1 S1 Q) : x_R E d m pc lv st S Q := x_R.step (fun _ _ h => x_exs_ok hc hx hb h) k

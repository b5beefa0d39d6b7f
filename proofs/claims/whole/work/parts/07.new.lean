/-! new cells -/
def x_new (S : xS) (ci : Nat) : xS := (xu1 S.1 (x_n S) (fun _ => 0), xu1 S.2.1 (x_n S) (fun _ => 0), xu1 S.2.2.1 (x_n S) (fun _ => none), S.2.2.2.1, S.2.2.2.2.1, S.2.2.2.2.2.1, xu1 (x_K S) (x_n S) ci, x_n S + 1, x_k S + 1, x_z S + x_nf ci)
def x_newA (S : xS) (kd len : Nat) : xS := (S.1, S.2.1, S.2.2.1, xu1 S.2.2.2.1 (x_n S) (fun _ => 0), xu1 S.2.2.2.2.1 (x_n S) (fun _ => 0), xu1 S.2.2.2.2.2.1 (x_n S) len, xu1 (x_K S) (x_n S) kd, x_n S + 1, x_k S + 1, x_z S + len)
theorem x_al1 {al : Nat → Nat} {n a : Nat} (hn : n < x_ext0) : x_ext al (xu1 al n a) n := by
  intro r hr
  refine xu1_n _ _ ?_
  rcases hr with h | h
  · omega
  · omega
/-- the cells that were there look the same -/
theorem x_cell_old {cs : ClassId × ClassId × ClassId} {al al1 : Nat → Nat} {S S1 : xS} (he : x_ext al al1 (x_n S)) (hw : x_wf S) {i : Nat} (e1 : x_I S1 i = x_I S i) (e2 : x_L S1 i = x_L S i) (e3 : x_P S1 i = x_P S i) (e4 : x_A S1 i = x_A S i) (e5 : x_B S1 i = x_B S i) (e6 : x_N S1 i = x_N S i) (e7 : x_K S1 i = x_K S i) : x_cell cs al1 S1 i = x_cell cs al S i := by
  have hfv : ∀ k t, x_fv al1 S1 i k t = x_fv al S i k t := by
    intro k t
    unfold x_fv
    rw [e1, e2, e3]
    cases hp : x_P S i k with
    | none => rfl
    | some r => simp only [Option.map_some, he r (hw.2.2 i k r hp)]
  have hfs : ∀ c, x_fs al1 S1 i c = x_fs al S i c := fun c => by
    unfold x_fs
    exact List.map_congr_left (fun k _ => hfv k _)
  unfold x_cell
  rw [e4, e5, e6, e7, hfs]
theorem x_w_push {cs : ClassId × ClassId × ClassId} {al al1 : Nat → Nat} {S S1 : xS} {a : Nat} {e : va_E} (hn : x_n S1 = x_n S + 1) (ha : ∀ i, i < x_n S → al1 i = al i) (hc : ∀ i, i < x_n S → x_cell cs al1 S1 i = x_cell cs al S i) (h1 : al1 (x_n S) = a) (h2 : x_cell cs al1 S1 (x_n S) = e) : x_w cs al S ++ [(a, e)] = x_w cs al1 S1 := by
  unfold x_w
  rw [hn, List.range_succ, List.map_append]
  have : (List.range (x_n S)).map (fun i => (al1 i, x_cell cs al1 S1 i)) = (List.range (x_n S)).map (fun i => (al i, x_cell cs al S i)) := List.map_congr_left (fun i hi => by rw [ha i (List.mem_range.mp hi), hc i (List.mem_range.mp hi)])
  rw [this]
  simp [h1, h2]
theorem x_wf_K {S S1 : xS} (hw : x_wf S) (hn : x_n S1 = x_n S + 1) (hlt : x_n S < x_ext0) (kd : Nat) (hK : x_K S1 = xu1 (x_K S) (x_n S) kd) (hP : ∀ i k r, x_P S1 i k = some r → x_P S i k = some r) : x_wf S1 := by
  refine ⟨by omega, fun j hj => ?_, fun i k r hr => (hw.2.2 i k r (hP i k r hr)).mono (by omega)⟩
  rw [hK] at hj
  by_cases e : j = x_n S
  · omega
  · rw [xu1_n _ _ e] at hj
    have := hw.2.1 j hj
    omega
theorem x_nw_ok {o idx : Nat} {e : Nat × Nat × Nat} (h : x_nw o idx = some e) (ho : o < 20) : Cond.classLink (x_o o) idx (x_C e.2.1).1 ∈ x_tbl ∧ Cond.instantiable (x_C e.2.1).1 (x_nf e.2.1) ∈ x_tbl ∧ Cond.initialized (x_C e.2.1).1 ∈ x_tbl ∧ e.2.1 < 13 := by
  have h1 := List.mem_of_find?_eq_some h
  have h2 : e.1 = idx := by simpa using List.find?_some h
  have h3 := List.all_eq_true.mp (List.all_eq_true.mp x_nwoks o (List.mem_range.mpr ho)) e h1
  simp only [Bool.and_eq_true, decide_eq_true_eq] at h3
  rw [h2] at h3
  exact ⟨x_at_mem h3.1.1.1, x_at_mem h3.1.1.2, x_at_mem h3.1.2, h3.2⟩
theorem x_dflt {ty : FieldType} {t : Nat} (h : x_tyok ty t = true) : defaultValue ty = (if t = 1 then .long 0 else if t = 2 then .null else .int 0) := by
  cases ty <;> simp [x_tyok] at h <;> subst h <;> rfl
theorem xi_new {E : Nat × (Nat → Int32)} {d m pc idx i0 ci p0 : Nat} {lv : List (Nat × Value)} {st : List Value} {S S' : xS} {r : Option Value} (hdg : decode (x_mB m) pc = .ok (.new idx, 3)) (hf : x_nw (x_mo m) idx = some (i0, ci, p0)) (ho : x_mo m < 20) (hn : x_n S < x_ext0) (h : x_Rw E d m (pc + 3) lv (.ref (x_n S) :: st) (x_new S ci) r S') : x_Rw E d m pc lv st S r S' := by
  obtain ⟨f1, f2, f3, f4⟩ := x_nw_ok hf ho
  dsimp only at f1 f2 f3 f4
  have en : x_n (x_new S ci) = x_n S + 1 := rfl
  refine x_stepS h ⟨by rw [en]; omega, Nat.le_succ _, Nat.le_add_right _ _⟩ (fun w1 w2 => ⟨by rw [en]; exact w1.mono (by omega), xwr (Or.inl (by rw [en]; omega)) (by rw [en]; exact w2.mono (by omega))⟩) ?_
  intro l p e R s mid args below meth c A D cs q al H locs ls cells slots Q C X hl w1 w2 hc hz kk
  obtain ⟨ty0, g1, g2, g3, g4, g5, g6⟩ := x_clss ci f4
  have hcc : cells + 1 ≤ R.cells := by
    have : x_k (x_new S ci) = x_k S + 1 := rfl
    omega
  have hzz : slots + (x_C ci).2.2 ≤ R.slots := by
    have : x_z (x_new S ci) = x_z S + x_nf ci := rfl
    omega
  have hfs : ∀ j, j < (x_C ci).2.2 → defaultValue (ty0 j) = vp_V (x_fs al (x_new S ci) (x_n S) ci) j := by
    intro j hj
    have hj2 : j < x_nf ci := by rw [← g2]; exact hj
    unfold vp_V
    rw [List.getD_eq_getElem?_getD, x_fs_get hj2, x_dflt (g6 j hj)]
    have e1 : x_L (x_new S ci) (x_n S) j = 0 := by show xu1 S.2.1 (x_n S) (fun _ => 0) (x_n S) j = 0; rw [xu1_s]
    have e2 : x_P (x_new S ci) (x_n S) j = none := by show xu1 S.2.2.1 (x_n S) (fun _ => none) (x_n S) j = none; rw [xu1_s]
    have e3 : x_I (x_new S ci) (x_n S) j = 0 := by show xu1 S.1 (x_n S) (fun _ => 0) (x_n S) j = 0; rw [xu1_s]
    unfold x_fv
    rw [e1, e2, e3]
    rfl
  refine va_new (C := (x_C ci).1) (T := (x_C ci).2.1) (N := (x_C ci).2.2) (fs := x_fs al (x_new S ci) (x_n S) ci) C.2.1 C.2.2.1 C.2.2.2.2.2.2.1 g3 ty0 g5 C.2.2.2.2.1 (C.2.2.2.2.2.2.1 _ f1) (by rw [g2]; exact C.2.2.2.2.2.2.1 _ f2) (C.2.2.2.2.2.2.1 _ f3) C.2.2.2.2.2.2.2.1 X.1 X.2.1 X.2.2.1 C.2.2.2.2.2.2.2.2.1 g1 hfs hcc hzz hdg (fun a H1 p1 p2 p3 => ?_)
  have hx := x_al1 (al := al) (a := a) hn
  have hP0 : ∀ k, x_P (x_new S ci) (x_n S) k = none := fun k => by show xu1 S.2.2.1 (x_n S) (fun _ => none) (x_n S) k = none; rw [xu1_s]
  have hnew : x_cell cs (xu1 al (x_n S) a) (x_new S ci) (x_n S) = .inr (ci, x_fs al (x_new S ci) (x_n S) ci) := by
    rw [x_cell_o (show x_K (x_new S ci) (x_n S) = ci from xu1_s _ _ _) f4]
    have : x_fs (xu1 al (x_n S) a) (x_new S ci) (x_n S) ci = x_fs al (x_new S ci) (x_n S) ci := by
      unfold x_fs
      refine List.map_congr_left (fun k _ => ?_)
      unfold x_fv
      rw [hP0]
      rfl
    rw [this]
  have hws := x_w_push (cs := cs) (al := al) (al1 := xu1 al (x_n S) a) (S := S) (S1 := x_new S ci) (a := a) (e := .inr (ci, x_fs al (x_new S ci) (x_n S) ci)) rfl (fun i hi => xu1_n _ _ (by omega)) (fun i hi => x_cell_old hx X.2.2.2.2 (show xu1 S.1 (x_n S) (fun _ => 0) i = _ from xu1_n _ _ (by omega)) (show xu1 S.2.1 (x_n S) (fun _ => 0) i = _ from xu1_n _ _ (by omega)) (show xu1 S.2.2.1 (x_n S) (fun _ => none) i = _ from xu1_n _ _ (by omega)) rfl rfl rfl (show xu1 (x_K S) (x_n S) ci i = _ from xu1_n _ _ (by omega))) (xu1_s _ _ _) hnew
  rw [hws] at p1 p2
  have hwf : x_wf (x_new S ci) := x_wf_K X.2.2.2.2 rfl hn ci rfl (fun i k r hr => by
    have hr' : xu1 S.2.2.1 (x_n S) (fun _ => none) i k = some r := hr
    by_cases e : i = x_n S
    · rw [e, xu1_s] at hr'; cases hr'
    · rw [xu1_n _ _ e] at hr'; exact hr')
  have := kk (xu1 al (x_n S) a) H1 locs ls hx ⟨p1, p2, p3, fun i hi => (hx _ (Or.inr (Nat.le_add_right _ _))).trans (X.2.2.2.1 i hi), hwf⟩ (by rw [x_ql_ext hx w1]; exact hl)
  have ec : cells + (x_k (x_new S ci) - x_k S) = cells + 1 := by
    have : x_k (x_new S ci) = x_k S + 1 := rfl
    omega
  have ez : slots + (x_z (x_new S ci) - x_z S) = slots + (x_C ci).2.2 := by
    have : x_z (x_new S ci) = x_z S + x_nf ci := rfl
    omega
  rw [ec, ez, List.map_cons, x_cs_ext hx w2] at this
  have e0 : x_c (xu1 al (x_n S) a) (.ref (x_n S)) = .ref a := congrArg Value.ref (xu1_s _ _ _)
  rw [e0] at this
  exact this
/-- a new array of ints (100), booleans (101) or longs (102) -/
def x_at0 (kd : Nat) : ArrayType × FieldType := if kd = 100 then (.int, .int) else if kd = 101 then (.boolean, .boolean) else (.long, .long)
theorem x_arr_ac {kd : Nat} : Cond.arrayClass (x_at0 kd).2 ∈ x_tbl := by
  unfold x_at0
  by_cases h : kd = 100
  · rw [if_pos h]; exact x_acI
  · rw [if_neg h]
    by_cases h : kd = 101
    · rw [if_pos h]; exact x_acZ
    · rw [if_neg h]; exact x_acJ
def x_arr0 (cs : ClassId × ClassId × ClassId) (kd : Nat) : ClassId := if kd = 100 then cs.1 else if kd = 101 then cs.2.1 else cs.2.2
theorem xi_newa {E : Nat × (Nat → Int32)} {d m pc kd : Nat} {n : Int32} {N : Nat} {lv : List (Nat × Value)} {st : List Value} {S S' : xS} {r : Option Value} (hdg : decode (x_mB m) pc = .ok (.newarray (x_at0 kd).1, 2)) (hkd : kd = 100 ∨ kd = 101 ∨ kd = 102) (hn : x_n S < x_ext0) (h0 : ¬ n < 0) (hN : n.toNatClampNeg = N) (hb : N * 8 ≤ 536870912) (h : x_Rw E d m (pc + 2) lv (.ref (x_n S) :: st) (x_newA S kd N) r S') : x_Rw E d m pc lv (.int n :: st) S r S' := by
  have en : x_n (x_newA S kd N) = x_n S + 1 := rfl
  refine x_stepS h ⟨by rw [en]; omega, Nat.le_succ _, Nat.le_add_right _ _⟩ (fun w1 w2 => ⟨by rw [en]; exact w1.mono (by omega), xwr (Or.inl (by rw [en]; omega)) (by rw [en]; exact (xw1 w2).mono (by omega))⟩) ?_
  intro l p e R s mid args below meth c A D cs q al H locs ls cells slots Q C X hl w1 w2 hc hz kk
  have hcc : cells + 1 ≤ R.cells := by
    have : x_k (x_newA S kd N) = x_k S + 1 := rfl
    omega
  have hzz : slots + N ≤ R.slots := by
    have : x_z (x_newA S kd N) = x_z S + N := rfl
    omega
  have hty : newarray.typeOf (x_at0 kd).1 = (x_at0 kd).2 := by rcases hkd with rfl | rfl | rfl <;> rfl
  obtain ⟨a0, ha0, hcell0⟩ : ∃ a0 : vp_A, (∀ cA : ClassId, vp_cell cA a0 = arrV cA N (fun _ => defaultValue (x_at0 kd).2)) ∧ ∀ al1, x_cell cs al1 (x_newA S kd N) (x_n S) = .inl (x_arr0 cs kd, a0) := by
    have hK : x_K (x_newA S kd N) (x_n S) = kd := xu1_s _ _ _
    have hA : x_A (x_newA S kd N) (x_n S) = fun _ => 0 := xu1_s _ _ _
    have hB : x_B (x_newA S kd N) (x_n S) = fun _ => 0 := xu1_s _ _ _
    have hNN : x_N (x_newA S kd N) (x_n S) = N := xu1_s _ _ _
    rcases hkd with rfl | rfl | rfl
    · exact ⟨(N, .inl (fun _ => 0)), fun cA => rfl, fun al1 => by rw [x_cell_i hK, hA, hNN]; rfl⟩
    · exact ⟨(N, .inl (fun _ => 0)), fun cA => rfl, fun al1 => by rw [x_cell_z hK, hA, hNN]; rfl⟩
    · exact ⟨(N, .inr (.inl (fun _ => 0))), fun cA => rfl, fun al1 => by rw [x_cell_l hK, hB, hNN]; rfl⟩
  have hcb : componentBytes (x_at0 kd).2 ≤ 8 := by rcases hkd with rfl | rfl | rfl <;> decide
  have hac : (Cond.arrayClass (newarray.typeOf (x_at0 kd).1)).before args s = true := by rw [hty]; exact C.2.2.2.2.2.2.1 _ x_arr_ac
  refine va_newa C.2.1 C.2.2.1 hac hty C.2.2.2.2.2.2.2.1 X.1 X.2.1 X.2.2.1 C.2.2.2.2.2.2.2.2.1 ha0 h0 hN (Nat.le_trans (Nat.mul_le_mul_left N hcb) hb) hcc hzz hdg (fun a cA H1 p0 p1 p2 p3 => ?_)
  have hcA : cA = x_arr0 cs kd := by
    have h1 := (p0.2 3 (cA, (x_at0 kd).2) rfl).2
    have hk := C.2.2.2.2.2.2.2.1.2
    rcases hkd with rfl | rfl | rfl
    · exact Option.some.inj ((show s.vm.findClass _ = some cA from h1).symm.trans (show s.vm.findClass _ = some cs.1 from (hk 0 _ rfl).2))
    · exact Option.some.inj ((show s.vm.findClass _ = some cA from h1).symm.trans (show s.vm.findClass _ = some cs.2.1 from (hk 1 _ rfl).2))
    · exact Option.some.inj ((show s.vm.findClass _ = some cA from h1).symm.trans (show s.vm.findClass _ = some cs.2.2 from (hk 2 _ rfl).2))
  subst hcA
  have hx := x_al1 (al := al) (a := a) hn
  have hws := x_w_push (cs := cs) (al := al) (al1 := xu1 al (x_n S) a) (S := S) (S1 := x_newA S kd N) (a := a) (e := .inl (x_arr0 cs kd, a0)) rfl (fun i hi => xu1_n _ _ (by omega)) (fun i hi => x_cell_old hx X.2.2.2.2 rfl rfl rfl (show xu1 S.2.2.2.1 (x_n S) (fun _ => 0) i = _ from xu1_n _ _ (by omega)) (show xu1 S.2.2.2.2.1 (x_n S) (fun _ => 0) i = _ from xu1_n _ _ (by omega)) (show xu1 S.2.2.2.2.2.1 (x_n S) N i = _ from xu1_n _ _ (by omega)) (show xu1 (x_K S) (x_n S) kd i = _ from xu1_n _ _ (by omega))) (xu1_s _ _ _) (hcell0 _)
  rw [hws] at p1 p2
  have hwf : x_wf (x_newA S kd N) := x_wf_K X.2.2.2.2 rfl hn kd rfl (fun i k r hr => hr)
  have := kk (xu1 al (x_n S) a) H1 locs ls hx ⟨p1, p2, p3, fun i hi => (hx _ (Or.inr (Nat.le_add_right _ _))).trans (X.2.2.2.1 i hi), hwf⟩ (by rw [x_ql_ext hx w1]; exact hl)
  have ec : cells + (x_k (x_newA S kd N) - x_k S) = cells + 1 := by
    have : x_k (x_newA S kd N) = x_k S + 1 := rfl
    omega
  have ez : slots + (x_z (x_newA S kd N) - x_z S) = slots + N := by
    have : x_z (x_newA S kd N) = x_z S + N := rfl
    omega
  rw [ec, ez, List.map_cons, x_cs_ext hx (xw1 w2)] at this
  have e0 : x_c (xu1 al (x_n S) a) (.ref (x_n S)) = .ref a := congrArg Value.ref (xu1_s _ _ _)
  rw [e0] at this
  exact this

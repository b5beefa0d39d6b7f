def x_pI (S : xS) (j k : Nat) (x : Int32) : xS := (xu2 S.1 j k x, S.2)
def x_pL (S : xS) (j k : Nat) (x : Int64) : xS := (S.1, xu2 S.2.1 j k x, S.2.2)
def x_pP (S : xS) (j k : Nat) (x : Nat) : xS := (S.1, S.2.1, xu2 S.2.2.1 j k (some x), S.2.2.2)
def x_pA (S : xS) (j : Nat) (f : Nat → Int32) : xS := (S.1, S.2.1, S.2.2.1, xu1 S.2.2.2.1 j f, S.2.2.2.2)
def x_pB (S : xS) (j : Nat) (f : Nat → Int64) : xS := (S.1, S.2.1, S.2.2.1, S.2.2.2.1, xu1 S.2.2.2.2.1 j f, S.2.2.2.2.2)
theorem x_in2 {x : Int32} (h : vp_in x 2) : x = 0 ∨ x = 1 := by
  obtain ⟨j, hj, rfl⟩ := vp_in_of h (by decide)
  rcases (show j = 0 ∨ j = 1 by omega) with rfl | rfl
  · exact Or.inl rfl
  · exact Or.inr rfl
theorem x_nar {x : Int32} (h : vp_in x 2) : narrow .boolean (.int x) = .int x ∧ fits .boolean (.int x) = true ∧ vp_nar .boolean x = x := by
  rcases x_in2 h with rfl | rfl <;> exact ⟨by decide, by decide, by decide⟩
/-- what a field of this kind takes -/
def x_takes (t : Nat) (v : Value) : Prop := match v with
  | .int x => t = 0 ∨ (t = 3 ∧ vp_in x 2)
  | .long _ => t = 1
  | .ref _ => t = 2
  | _ => False
theorem x_takes_ok {ty : FieldType} {t : Nat} {v : Value} (h : x_tyok ty t = true) (hv : x_takes t v) (al : Nat → Nat) : narrow ty (x_c al v) = x_c al v ∧ fits ty (x_c al v) = true := by
  cases v with
  | int x =>
    rcases hv with rfl | ⟨rfl, hx⟩
    · cases ty <;> first | exact ⟨rfl, rfl⟩ | (simp [x_tyok] at h)
    · cases ty <;> first | exact ⟨(x_nar hx).1, (x_nar hx).2.1⟩ | (simp [x_tyok] at h)
  | long x =>
    have hv : t = 1 := hv
    subst hv
    cases ty <;> first | exact ⟨rfl, rfl⟩ | (simp [x_tyok] at h)
  | ref x =>
    have hv : t = 2 := hv
    subst hv
    cases ty <;> first | exact ⟨rfl, rfl⟩ | (simp [x_tyok] at h)
  | float x => exact absurd hv (fun h => h)
  | double x => exact absurd hv (fun h => h)
  | null => exact absurd hv (fun h => h)
  | retAddr x => exact absurd hv (fun h => h)
theorem x_put {E : Nat × (Nat → Int32)} {d m pc idx i0 j ci k p0 : Nat} {lv : List (Nat × Value)} {st : List Value} {S S1 S' : xS} {r : Option Value} {v : Value} (hdg : decode (x_mB m) pc = .ok (.putfield idx, 3)) (hf : x_fl (x_mo m) idx = some (i0, ci, k, p0)) (ho : x_mo m < 20) (hK : x_K S j = ci) (hfin : ((x_C ci).2.1 k).2.2.2 = false ∨ ((x_mY m).name = "<init>" ∧ ((x_C ci).2.1 k).1 = x_o (x_mo m)))
    (hv : x_takes (x_tc ci k) v) (h1 : ∀ (al : Nat → Nat) (a b t : Nat), ¬ (a = j ∧ b = k) → x_fv al S1 a b t = x_fv al S a b t) (h2 : ∀ al : Nat → Nat, x_fv al S1 j k (x_tc ci k) = x_c al v) (h3 : S1.2.2.2 = S.2.2.2) (h4 : x_wf S → x_vv (x_n S) v → x_wf S1)
    (h : x_Rw E d m (pc + 3) lv st S1 r S') : x_Rw E d m pc lv (v :: .ref j :: st) S r S' := by
  obtain ⟨f1, f2, f3, f4⟩ := x_fl_ok hf ho
  dsimp only at f1 f2 f3 f4
  subst f2
  have en : x_n S1 = x_n S := congrArg (fun z => z.2.2.2.2.1) h3
  have ek : x_k S1 = x_k S := congrArg (fun z => z.2.2.2.2.2.1) h3
  have ez : x_z S1 = x_z S := congrArg (fun z => z.2.2.2.2.2.2) h3
  have eK : x_K S1 = x_K S := congrArg (fun z => z.2.2.2.1) h3
  have eN : x_N S1 = x_N S := congrArg (fun z => z.2.2.1) h3
  have eA : x_A S1 = x_A S := congrArg (fun z => z.1) h3
  have eB : x_B S1 = x_B S := congrArg (fun z => z.2.1) h3
  refine x_stepS h ⟨by omega, by omega, by omega⟩ (fun w1 w2 => ⟨by rw [en]; exact w1, by rw [en]; exact xw2 w2⟩) ?_
  intro l p e R s mid args below meth c A D cs q al H locs ls cells slots Q C X hl w1 w2 hc hz kk
  obtain ⟨ty0, g1, g2, g3, g4, g5, g6⟩ := x_clss ci f3
  have hj : j < x_n S := X.2.2.2.2.2.1 j (by omega)
  have hk : k < (x_C ci).2.2 := by rw [g2]; exact f4
  have hlk : (Cond.fieldLink (x_o (x_mo m)) i0 ((x_C ci).2.1 k).1 ((x_C ci).2.1 k).2.1 ((x_C ci).2.1 k).2.2.1).before args s = true := C.2.2.2.2.2.2.1 _ f1
  have he : (x_w cs al S)[j]? = some (al j, .inr (ci, x_fs al S j ci)) := by rw [x_w_get hj, x_cell_o hK f3]
  have hl2 : k < (x_fs al S j ci).length := by simp [x_fs, f4]
  obtain ⟨nr, ft⟩ := x_takes_ok (g6 k hk) hv al
  have hset : (x_fs al S j ci).set k (x_c al v) = x_fs al S1 j ci := by
    unfold x_fs
    exact x_rset (h2 al) (fun b hb => h1 al j b _ (fun z => hb z.2))
  have hcell : x_cell cs al S1 j = .inr (ci, (x_fs al S j ci).set k (x_c al v)) := by rw [hset]; exact x_cell_o (by rw [eK]; exact hK) f3
  have hoth : ∀ a, a ≠ j → x_cell cs al S1 a = x_cell cs al S a := by
    intro a ha
    have hfs : ∀ c0, x_fs al S1 a c0 = x_fs al S a c0 := fun c0 => by
      unfold x_fs
      exact List.map_congr_left (fun b _ => h1 al a b _ (fun z => ha z.1))
    unfold x_cell
    rw [eK, eN, eA, eB, hfs]
  have hws := x_w_set (cs := cs) (al := al) en hcell hoth
  have fin : ∀ (H1 : Heap) (locs1 : List Loc), va_P D vwCl ((x_w cs al S).set j (al j, .inr (ci, (x_fs al S j ci).set k (x_c al v)))) H1 → va_D A ((x_w cs al S).set j (al j, .inr (ci, (x_fs al S j ci).set k (x_c al v)))) → va_S A s.heap H1 locs1 → W p l e R s mid args below meth c H1 locs1 cells slots Q (F0 mid (pc + 3) ls (st.map (x_c al))) := by
    intro H1 locs1 p1 p2 p3
    rw [hws] at p1 p2
    have := kk al H1 locs1 ls x_ext.rf ⟨p1, p2, p3, X.2.2.2.1, h4 X.2.2.2.2 (x_wfs_c.mp w2).1⟩ hl
    rw [ek, ez, Nat.sub_self, Nat.sub_self] at this
    exact this
  cases hb : ((x_C ci).2.1 k).2.2.2 with
  | false => exact va_put C.2.1 C.2.2.1 (C := (x_C ci).1) (T := (x_C ci).2.1) (N := (x_C ci).2.2) C.2.2.2.2.2.2.1 g3 ty0 g5 g4 C.2.2.2.2.1 C.2.2.2.2.2.2.2.1 X.1 X.2.1 X.2.2.1 j he g1 k hk hlk (fun _ h => h) hb (g5 k hk) nr ft hl2 hdg fin
  | true =>
    rcases hfin with hfin | ⟨q1, q2⟩
    · rw [hb] at hfin; cases hfin
    · exact va_putF C.2.1 C.2.2.1 (C := (x_C ci).1) (T := (x_C ci).2.1) (N := (x_C ci).2.2) C.2.2.2.2.2.2.1 g3 ty0 g5 g4 C.2.2.2.2.1 C.2.2.2.2.2.2.2.1 X.1 X.2.1 X.2.2.1 j he g1 k hk hlk (fun _ h => h) hb (C.2.2.2.2.2.1.trans q1) q2 (g5 k hk) nr ft hl2 hdg fin
theorem xi_putI {E : Nat × (Nat → Int32)} {d m pc idx i0 j ci k p0 : Nat} {lv : List (Nat × Value)} {st : List Value} {S S' : xS} {r : Option Value} {x : Int32} (hdg : decode (x_mB m) pc = .ok (.putfield idx, 3)) (hf : x_fl (x_mo m) idx = some (i0, ci, k, p0)) (ho : x_mo m < 20) (hK : x_K S j = ci) (hfin : ((x_C ci).2.1 k).2.2.2 = false ∨ ((x_mY m).name = "<init>" ∧ ((x_C ci).2.1 k).1 = x_o (x_mo m)))
    (hv : x_tc ci k = 0 ∨ (x_tc ci k = 3 ∧ vp_in x 2)) (h : x_Rw E d m (pc + 3) lv st (x_pI S j k x) r S') : x_Rw E d m pc lv (.int x :: .ref j :: st) S r S' := by
  refine x_put (S1 := x_pI S j k x) hdg hf ho hK hfin (v := .int x) hv (fun al a b t hn => ?_) (fun al => ?_) rfl (fun w _ => w) h
  · unfold x_fv x_pI
    simp only [x_I, x_L, x_P, xu2_n _ _ hn]
  · unfold x_fv x_pI
    rw [if_neg (by omega), if_neg (by omega)]
    simp only [x_I, xu2_s]
    rfl
theorem xi_putL {E : Nat × (Nat → Int32)} {d m pc idx i0 j ci k p0 : Nat} {lv : List (Nat × Value)} {st : List Value} {S S' : xS} {r : Option Value} {x : Int64} (hdg : decode (x_mB m) pc = .ok (.putfield idx, 3)) (hf : x_fl (x_mo m) idx = some (i0, ci, k, p0)) (ho : x_mo m < 20) (hK : x_K S j = ci) (hfin : ((x_C ci).2.1 k).2.2.2 = false ∨ ((x_mY m).name = "<init>" ∧ ((x_C ci).2.1 k).1 = x_o (x_mo m)))
    (hv : x_tc ci k = 1) (h : x_Rw E d m (pc + 3) lv st (x_pL S j k x) r S') : x_Rw E d m pc lv (.long x :: .ref j :: st) S r S' := by
  refine x_put (S1 := x_pL S j k x) hdg hf ho hK hfin (v := .long x) hv (fun al a b t hn => ?_) (fun al => ?_) rfl (fun w _ => w) h
  · unfold x_fv x_pL
    simp only [x_I, x_L, x_P, xu2_n _ _ hn]
  · unfold x_fv x_pL
    rw [if_pos hv]
    simp only [x_L, xu2_s]
    rfl
theorem xi_putR {E : Nat × (Nat → Int32)} {d m pc idx i0 j ci k p0 : Nat} {lv : List (Nat × Value)} {st : List Value} {S S' : xS} {r : Option Value} {x : Nat} (hdg : decode (x_mB m) pc = .ok (.putfield idx, 3)) (hf : x_fl (x_mo m) idx = some (i0, ci, k, p0)) (ho : x_mo m < 20) (hK : x_K S j = ci) (hfin : ((x_C ci).2.1 k).2.2.2 = false ∨ ((x_mY m).name = "<init>" ∧ ((x_C ci).2.1 k).1 = x_o (x_mo m)))
    (hv : x_tc ci k = 2) (h : x_Rw E d m (pc + 3) lv st (x_pP S j k x) r S') : x_Rw E d m pc lv (.ref x :: .ref j :: st) S r S' := by
  refine x_put (S1 := x_pP S j k x) hdg hf ho hK hfin (v := .ref x) hv (fun al a b t hn => ?_) (fun al => ?_) rfl (fun w hx => ⟨w.1, w.2.1, fun a b r hr => ?_⟩) h
  · unfold x_fv x_pP
    simp only [x_I, x_L, x_P, xu2_n _ _ hn]
  · unfold x_fv x_pP
    rw [if_neg (by omega), if_pos hv]
    simp only [x_P, xu2_s]
    rfl
  · by_cases hn : a = j ∧ b = k
    · obtain ⟨rfl, rfl⟩ := hn
      have : x_P (x_pP S a b x) a b = some x := xu2_s _ _ _ _
      rw [this] at hr
      cases hr
      exact hx
    · have : x_P (x_pP S j k x) a b = x_P S a b := xu2_n _ _ hn
      rw [this] at hr
      exact w.2.2 a b r hr
/-! arrays -/
theorem x_cell_i {cs : ClassId × ClassId × ClassId} {al : Nat → Nat} {S : xS} {j : Nat} (hK : x_K S j = 100) : x_cell cs al S j = .inl (cs.1, x_N S j, .inl (x_A S j)) := by
  unfold x_cell
  rw [hK, if_neg (by omega), if_pos rfl]
theorem x_cell_z {cs : ClassId × ClassId × ClassId} {al : Nat → Nat} {S : xS} {j : Nat} (hK : x_K S j = 101) : x_cell cs al S j = .inl (cs.2.1, x_N S j, .inl (x_A S j)) := by
  unfold x_cell
  rw [hK, if_neg (by omega), if_neg (by omega), if_pos rfl]
theorem x_cell_l {cs : ClassId × ClassId × ClassId} {al : Nat → Nat} {S : xS} {j : Nat} (hK : x_K S j = 102) : x_cell cs al S j = .inl (cs.2.2, x_N S j, .inr (.inl (x_B S j))) := by
  unfold x_cell
  rw [hK, if_neg (by omega), if_neg (by omega), if_neg (by omega)]
theorem xi_iald {E : Nat × (Nat → Int32)} {d m pc j : Nat} {i : Int32} {lv : List (Nat × Value)} {st : List Value} {S S' : xS} {r : Option Value} (hdg : decode (x_mB m) pc = .ok (.iaload, 1)) (hK : x_K S j = 100) (hb : vp_in i (x_N S j)) (h : x_Rw E d m (pc + 1) lv (.int (x_A S j i.toNatClampNeg) :: st) S r S') : x_Rw E d m pc lv (.int i :: .ref j :: st) S r S' :=
  x_step h (fun w1 w2 => ⟨w1, xwi (xw2 w2)⟩) (fun l p e R s mid args below meth c A D cs q al H locs ls cells slots Q C X hl k => va_iald C.2.1 C.2.2.1 C.2.2.2.2.2.2.2.1 X.1 j 0 ((x_w_get (X.2.2.2.2.2.1 j (by omega))).trans (by rw [x_cell_i hK])) rfl hb hdg (k ls hl))
theorem xi_zald {E : Nat × (Nat → Int32)} {d m pc j : Nat} {i : Int32} {lv : List (Nat × Value)} {st : List Value} {S S' : xS} {r : Option Value} (hdg : decode (x_mB m) pc = .ok (.baload, 1)) (hK : x_K S j = 101) (hb : vp_in i (x_N S j)) (h : x_Rw E d m (pc + 1) lv (.int (x_A S j i.toNatClampNeg) :: st) S r S') : x_Rw E d m pc lv (.int i :: .ref j :: st) S r S' :=
  x_step h (fun w1 w2 => ⟨w1, xwi (xw2 w2)⟩) (fun l p e R s mid args below meth c A D cs q al H locs ls cells slots Q C X hl k => va_zald C.2.1 C.2.2.1 C.2.2.2.2.2.2.2.1 X.1 j 1 ((x_w_get (X.2.2.2.2.2.1 j (by omega))).trans (by rw [x_cell_z hK])) rfl hb hdg (k ls hl))
theorem xi_lald {E : Nat × (Nat → Int32)} {d m pc j : Nat} {i : Int32} {lv : List (Nat × Value)} {st : List Value} {S S' : xS} {r : Option Value} (hdg : decode (x_mB m) pc = .ok (.laload, 1)) (hK : x_K S j = 102) (hb : vp_in i (x_N S j)) (h : x_Rw E d m (pc + 1) lv (.long (x_B S j i.toNatClampNeg) :: st) S r S') : x_Rw E d m pc lv (.int i :: .ref j :: st) S r S' :=
  x_step h (fun w1 w2 => ⟨w1, xwl (xw2 w2)⟩) (fun l p e R s mid args below meth c A D cs q al H locs ls cells slots Q C X hl k => va_lald C.2.1 C.2.2.1 C.2.2.2.2.2.2.2.1 X.1 j 2 ((x_w_get (X.2.2.2.2.2.1 j (by omega))).trans (by rw [x_cell_l hK])) rfl hb hdg (k ls hl))
theorem xi_alen {E : Nat × (Nat → Int32)} {d m pc j : Nat} {lv : List (Nat × Value)} {st : List Value} {S S' : xS} {r : Option Value} (hdg : decode (x_mB m) pc = .ok (.arraylength, 1)) (hK : x_K S j = 100 ∨ x_K S j = 101 ∨ x_K S j = 102) (h : x_Rw E d m (pc + 1) lv (.int (Int32.ofNat (x_N S j)) :: st) S r S') : x_Rw E d m pc lv (.ref j :: st) S r S' := by
  refine x_step h (fun w1 w2 => ⟨w1, xwi (xw1 w2)⟩) (fun l p e R s mid args below meth c A D cs q al H locs ls cells slots Q C X hl k => ?_)
  have hj : j < x_n S := X.2.2.2.2.2.1 j (by omega)
  rcases hK with hK | hK | hK
  · exact va_alen C.2.1 C.2.2.1 C.2.2.2.2.2.2.2.1 X.1 j 0 (x := (x_N S j, .inl (x_A S j))) ((x_w_get hj).trans (by rw [x_cell_i hK])) rfl rfl hdg (k ls hl)
  · exact va_alen C.2.1 C.2.2.1 C.2.2.2.2.2.2.2.1 X.1 j 1 (x := (x_N S j, .inl (x_A S j))) ((x_w_get hj).trans (by rw [x_cell_z hK])) rfl rfl hdg (k ls hl)
  · exact va_alen C.2.1 C.2.2.1 C.2.2.2.2.2.2.2.1 X.1 j 2 (x := (x_N S j, .inr (.inl (x_B S j)))) ((x_w_get hj).trans (by rw [x_cell_l hK])) rfl rfl hdg (k ls hl)
theorem xi_sld {E : Nat × (Nat → Int32)} {d m pc : Nat} {i : Int32} {lv : List (Nat × Value)} {st : List Value} {S S' : xS} {r : Option Value} (hdg : decode (x_mB m) pc = .ok (.iaload, 1)) (hb : vp_in i E.1) (h : x_Rw E d m (pc + 1) lv (.int (E.2 i.toNatClampNeg) :: st) S r S') : x_Rw E d m pc lv (.int i :: .ref x_ext0 :: st) S r S' :=
  x_step h (fun w1 w2 => ⟨w1, xwi (xw2 w2)⟩) (fun l p e R s mid args below meth c A D cs q al H locs ls cells slots Q C X hl k => by
    obtain ⟨⟨a1, a2, a3⟩, -⟩ := C.2.2.2.2.2.2.2.2.2.2.2
    have e0 : al x_ext0 = q.1 := X.2.2.2.1 0 (by decide)
    show W p l e R s mid args below meth c H locs cells slots Q (F0 mid pc ls (.int i :: .ref (al x_ext0) :: st.map (x_c al)))
    rw [e0]
    exact va_sld C.2.1 C.2.2.1 a1 a2 a3 X.2.2.1 hb hdg (k ls hl))
theorem xi_slen {E : Nat × (Nat → Int32)} {d m pc : Nat} {lv : List (Nat × Value)} {st : List Value} {S S' : xS} {r : Option Value} (hdg : decode (x_mB m) pc = .ok (.arraylength, 1)) (h : x_Rw E d m (pc + 1) lv (.int (Int32.ofNat E.1) :: st) S r S') : x_Rw E d m pc lv (.ref x_ext0 :: st) S r S' :=
  x_step h (fun w1 w2 => ⟨w1, xwi (xw1 w2)⟩) (fun l p e R s mid args below meth c A D cs q al H locs ls cells slots Q C X hl k => by
    obtain ⟨⟨a1, a2, a3⟩, -⟩ := C.2.2.2.2.2.2.2.2.2.2.2
    have e0 : al x_ext0 = q.1 := X.2.2.2.1 0 (by decide)
    show W p l e R s mid args below meth c H locs cells slots Q (F0 mid pc ls (.ref (al x_ext0) :: st.map (x_c al)))
    rw [e0]
    exact va_slen C.2.1 C.2.2.1 a1 a2 a3 X.2.2.1 hdg (k ls hl))
theorem x_pA_cell {cs : ClassId × ClassId × ClassId} {al : Nat → Nat} {S : xS} {j : Nat} {f : Nat → Int32} : ∀ a, a ≠ j → x_cell cs al (x_pA S j f) a = x_cell cs al S a := by
  intro a ha
  have e : x_A (x_pA S j f) a = x_A S a := xu1_n _ _ ha
  unfold x_cell
  rw [e]
  rfl
theorem x_pB_cell {cs : ClassId × ClassId × ClassId} {al : Nat → Nat} {S : xS} {j : Nat} {f : Nat → Int64} : ∀ a, a ≠ j → x_cell cs al (x_pB S j f) a = x_cell cs al S a := by
  intro a ha
  have e : x_B (x_pB S j f) a = x_B S a := xu1_n _ _ ha
  unfold x_cell
  rw [e]
  rfl
theorem x_sub0 (a b : Nat) : a + (b - b) = a := by omega
theorem xi_iast {E : Nat × (Nat → Int32)} {d m pc j : Nat} {i x : Int32} {lv : List (Nat × Value)} {st : List Value} {S S' : xS} {r : Option Value} (hdg : decode (x_mB m) pc = .ok (.iastore, 1)) (hK : x_K S j = 100) (hb : vp_in i (x_N S j)) (h : x_Rw E d m (pc + 1) lv st (x_pA S j (upd (x_A S j) i.toNatClampNeg x)) r S') : x_Rw E d m pc lv (.int x :: .int i :: .ref j :: st) S r S' := by
  refine x_stepS h ⟨Nat.le_refl _, Nat.le_refl _, Nat.le_refl _⟩ (fun w1 w2 => ⟨w1, xw3 w2⟩) ?_
  intro l p e R s mid args below meth c A D cs q al H locs ls cells slots Q C X hl w1 w2 hc hz kk
  have hws := x_w_set (cs := cs) (al := al) (S := S) (S' := x_pA S j (upd (x_A S j) i.toNatClampNeg x)) (i := j) (e := .inl (cs.1, x_N S j, .inl (upd (x_A S j) i.toNatClampNeg x))) rfl ((x_cell_i (S := x_pA S j (upd (x_A S j) i.toNatClampNeg x)) hK).trans (by rw [show x_A (x_pA S j (upd (x_A S j) i.toNatClampNeg x)) j = upd (x_A S j) i.toNatClampNeg x from xu1_s _ _ _]; rfl)) x_pA_cell
  refine va_iast C.2.1 C.2.2.1 C.2.2.2.2.2.2.2.1 X.1 X.2.1 X.2.2.1 j 0 ((x_w_get (X.2.2.2.2.2.1 j (by omega))).trans (by rw [x_cell_i hK])) rfl hb hdg (fun H1 locs1 p1 p2 p3 => ?_)
  rw [hws] at p1 p2
  have := kk al H1 locs1 ls x_ext.rf ⟨p1, p2, p3, X.2.2.2.1, X.2.2.2.2⟩ hl
  rw [show cells + (x_k (x_pA S j (upd (x_A S j) i.toNatClampNeg x)) - x_k S) = cells from x_sub0 _ _, show slots + (x_z (x_pA S j (upd (x_A S j) i.toNatClampNeg x)) - x_z S) = slots from x_sub0 _ _] at this
  exact this
theorem xi_zast {E : Nat × (Nat → Int32)} {d m pc j : Nat} {i x : Int32} {lv : List (Nat × Value)} {st : List Value} {S S' : xS} {r : Option Value} (hdg : decode (x_mB m) pc = .ok (.bastore, 1)) (hK : x_K S j = 101) (hb : vp_in i (x_N S j)) (hx : vp_in x 2) (h : x_Rw E d m (pc + 1) lv st (x_pA S j (upd (x_A S j) i.toNatClampNeg x)) r S') : x_Rw E d m pc lv (.int x :: .int i :: .ref j :: st) S r S' := by
  refine x_stepS h ⟨Nat.le_refl _, Nat.le_refl _, Nat.le_refl _⟩ (fun w1 w2 => ⟨w1, xw3 w2⟩) ?_
  intro l p e R s mid args below meth c A D cs q al H locs ls cells slots Q C X hl w1 w2 hc hz kk
  have hws := x_w_set (cs := cs) (al := al) (S := S) (S' := x_pA S j (upd (x_A S j) i.toNatClampNeg x)) (i := j) (e := .inl (cs.2.1, x_N S j, .inl (upd (x_A S j) i.toNatClampNeg x))) rfl ((x_cell_z (S := x_pA S j (upd (x_A S j) i.toNatClampNeg x)) hK).trans (by rw [show x_A (x_pA S j (upd (x_A S j) i.toNatClampNeg x)) j = upd (x_A S j) i.toNatClampNeg x from xu1_s _ _ _]; rfl)) x_pA_cell
  refine va_zast C.2.1 C.2.2.1 C.2.2.2.2.2.2.2.1 X.1 X.2.1 X.2.2.1 j 1 ((x_w_get (X.2.2.2.2.2.1 j (by omega))).trans (by rw [x_cell_z hK])) rfl hb hdg (fun H1 locs1 p1 p2 p3 => ?_)
  rw [(x_nar hx).2.2, hws] at p1 p2
  have := kk al H1 locs1 ls x_ext.rf ⟨p1, p2, p3, X.2.2.2.1, X.2.2.2.2⟩ hl
  rw [show cells + (x_k (x_pA S j (upd (x_A S j) i.toNatClampNeg x)) - x_k S) = cells from x_sub0 _ _, show slots + (x_z (x_pA S j (upd (x_A S j) i.toNatClampNeg x)) - x_z S) = slots from x_sub0 _ _] at this
  exact this
theorem xi_last {E : Nat × (Nat → Int32)} {d m pc j : Nat} {i : Int32} {x : Int64} {lv : List (Nat × Value)} {st : List Value} {S S' : xS} {r : Option Value} (hdg : decode (x_mB m) pc = .ok (.lastore, 1)) (hK : x_K S j = 102) (hb : vp_in i (x_N S j)) (h : x_Rw E d m (pc + 1) lv st (x_pB S j (vp_updL (x_B S j) i.toNatClampNeg x)) r S') : x_Rw E d m pc lv (.long x :: .int i :: .ref j :: st) S r S' := by
  refine x_stepS h ⟨Nat.le_refl _, Nat.le_refl _, Nat.le_refl _⟩ (fun w1 w2 => ⟨w1, xw3 w2⟩) ?_
  intro l p e R s mid args below meth c A D cs q al H locs ls cells slots Q C X hl w1 w2 hc hz kk
  have hws := x_w_set (cs := cs) (al := al) (S := S) (S' := x_pB S j (vp_updL (x_B S j) i.toNatClampNeg x)) (i := j) (e := .inl (cs.2.2, x_N S j, .inr (.inl (vp_updL (x_B S j) i.toNatClampNeg x)))) rfl ((x_cell_l (S := x_pB S j (vp_updL (x_B S j) i.toNatClampNeg x)) hK).trans (by rw [show x_B (x_pB S j (vp_updL (x_B S j) i.toNatClampNeg x)) j = vp_updL (x_B S j) i.toNatClampNeg x from xu1_s _ _ _]; rfl)) x_pB_cell
  refine va_last C.2.1 C.2.2.1 C.2.2.2.2.2.2.2.1 X.1 X.2.1 X.2.2.1 j 2 ((x_w_get (X.2.2.2.2.2.1 j (by omega))).trans (by rw [x_cell_l hK])) rfl hb hdg (fun H1 locs1 p1 p2 p3 => ?_)
  rw [hws] at p1 p2
  have := kk al H1 locs1 ls x_ext.rf ⟨p1, p2, p3, X.2.2.2.1, X.2.2.2.2⟩ hl
  rw [show cells + (x_k (x_pB S j (vp_updL (x_B S j) i.toNatClampNeg x)) - x_k S) = cells from x_sub0 _ _, show slots + (x_z (x_pB S j (vp_updL (x_B S j) i.toNatClampNeg x)) - x_z S) = slots from x_sub0 _ _] at this
  exact this

theorem xi_ret0 {E : Nat × (Nat → Int32)} {d m pc : Nat} {lv : List (Nat × Value)} {S : xS} (hdg : decode (x_mB m) pc = .ok (.return_, 1)) (hr : x_mR m = none) : x_Rw E d m pc lv [] S none S := by
  refine ⟨⟨Nat.le_refl _, Nat.le_refl _, Nat.le_refl _⟩, ?_⟩
  intro l p e R s mid args below meth c A D cs q al H locs ls cells slots Q C X hl w1 w2 hc hz kk
  have h := kk al H locs ls pc x_ext.rf X w2 ⟨hdg, hr⟩
  rw [Nat.sub_self, Nat.sub_self] at h
  exact h
theorem xi_iret {E : Nat × (Nat → Int32)} {d m pc : Nat} {lv : List (Nat × Value)} {S : xS} {x : Int32} (hdg : decode (x_mB m) pc = .ok (.ireturn, 1)) (hr : ∃ ty, x_mR m = some ty ∧ narrow ty (.int x) = .int x) : x_Rw E d m pc lv [.int x] S (some (.int x)) S := by
  refine ⟨⟨Nat.le_refl _, Nat.le_refl _, Nat.le_refl _⟩, ?_⟩
  intro l p e R s mid args below meth c A D cs q al H locs ls cells slots Q C X hl w1 w2 hc hz kk
  have h := kk al H locs ls pc x_ext.rf X w2 ⟨hdg, hr⟩
  rw [Nat.sub_self, Nat.sub_self] at h
  exact h
theorem xi_lret {E : Nat × (Nat → Int32)} {d m pc : Nat} {lv : List (Nat × Value)} {S : xS} {x : Int64} (hdg : decode (x_mB m) pc = .ok (.lreturn, 1)) (hr : x_mR m = some .long) : x_Rw E d m pc lv [.long x] S (some (.long x)) S := by
  refine ⟨⟨Nat.le_refl _, Nat.le_refl _, Nat.le_refl _⟩, ?_⟩
  intro l p e R s mid args below meth c A D cs q al H locs ls cells slots Q C X hl w1 w2 hc hz kk
  have h := kk al H locs ls pc x_ext.rf X w2 ⟨hdg, hr⟩
  rw [Nat.sub_self, Nat.sub_self] at h
  exact h
theorem xi_aret {E : Nat × (Nat → Int32)} {d m pc : Nat} {lv : List (Nat × Value)} {S : xS} {x : Nat} {n : String} (hdg : decode (x_mB m) pc = .ok (.areturn, 1)) (hr : x_mR m = some (.object n)) : x_Rw E d m pc lv [.ref x] S (some (.ref x)) S := by
  refine ⟨⟨Nat.le_refl _, Nat.le_refl _, Nat.le_refl _⟩, ?_⟩
  intro l p e R s mid args below meth c A D cs q al H locs ls cells slots Q C X hl w1 w2 hc hz kk
  have h := kk al H locs ls pc x_ext.rf X w2 ⟨hdg, n, hr⟩
  rw [Nat.sub_self, Nat.sub_self] at h
  exact h
theorem xi_goto {E : Nat × (Nat → Int32)} {d m pc tgt : Nat} {off : Int} {lv : List (Nat × Value)} {st : List Value} {S S' : xS} {r : Option Value} (hdg : decode (x_mB m) pc = .ok (.goto off, 3)) (ht : (pc : Int) + off = (tgt : Int)) (h : x_Rw E d m tgt lv st S r S') : x_Rw E d m pc lv st S r S' :=
  x_step h (fun w1 w2 => ⟨w1, w2⟩) (fun l p e R s mid args below meth c A D cs q al H locs ls cells slots Q C X hl k => lv_goto C.2.1 C.2.2.1 hdg ht (k ls hl))
theorem xi_tswO {E : Nat × (Nat → Int32)} {d m pc tgt ln : Nat} {df lo hi : Int} {offs : Array Int} {x : Int32} {lv : List (Nat × Value)} {st : List Value} {S S' : xS} {r : Option Value} (hdg : decode (x_mB m) pc = .ok (.tableswitch df lo hi offs, ln)) (hx : x.toInt < lo ∨ hi < x.toInt) (ht : (pc : Int) + df = (tgt : Int)) (h : x_Rw E d m tgt lv st S r S') : x_Rw E d m pc lv (.int x :: st) S r S' :=
  x_step h (fun w1 w2 => ⟨w1, xw1 w2⟩) (fun l p e R s mid args below meth c A D cs q al H locs ls cells slots Q C X hl k => lv_tableOut C.2.1 C.2.2.1 hdg hx ht (k ls hl))
theorem xi_tswI {E : Nat × (Nat → Int32)} {d m pc tgt ln : Nat} {df lo hi off : Int} {offs : Array Int} {x : Int32} {lv : List (Nat × Value)} {st : List Value} {S S' : xS} {r : Option Value} (hdg : decode (x_mB m) pc = .ok (.tableswitch df lo hi offs, ln)) (h1 : ¬ x.toInt < lo) (h2 : ¬ hi < x.toInt) (ho : offs[(x.toInt - lo).toNat]? = some off) (ht : (pc : Int) + off = (tgt : Int)) (h : x_Rw E d m tgt lv st S r S') : x_Rw E d m pc lv (.int x :: st) S r S' :=
  x_step h (fun w1 w2 => ⟨w1, xw1 w2⟩) (fun l p e R s mid args below meth c A D cs q al H locs ls cells slots Q C X hl k => lv_tableIn C.2.1 C.2.2.1 hdg h1 h2 ho ht (k ls hl))
/-! fields -/
def x_tyok (ty : FieldType) (t : Nat) : Bool := match ty with
  | .int => t == 0
  | .boolean => t == 3
  | .long => t == 1
  | .object _ => t == 2
  | .array _ => t == 2
  | _ => false
def x_clsP (ci : Nat) : Prop := ∃ ty0 : Nat → FieldType, vwCl[ci]? = some ((x_C ci).1, (x_C ci).2.1, (x_C ci).2.2) ∧ (x_C ci).2.2 = x_nf ci ∧ (∀ w ∈ u_ws (x_C ci).1 (x_C ci).2.1 (x_C ci).2.2, w ∈ x_tbl) ∧ (∀ a, a < (x_C ci).2.2 → ∀ b, b < (x_C ci).2.2 → a ≠ b → ((x_C ci).2.1 a).2.1 ≠ ((x_C ci).2.1 b).2.1) ∧ (∀ k, k < (x_C ci).2.2 → parseFieldDescriptor ((x_C ci).2.1 k).2.2.1 = some (ty0 k)) ∧ ∀ k, k < (x_C ci).2.2 → x_tyok (ty0 k) (x_tc ci k) = true
theorem x_cls0 : x_clsP 0 := ⟨tyX0, rfl, rfl, x_u0, nmX0, tyX0_ok, by decide +kernel⟩
theorem x_cls1 : x_clsP 1 := ⟨tyX1, rfl, rfl, x_u1, nmX1, tyX1_ok, by decide +kernel⟩
theorem x_cls2 : x_clsP 2 := ⟨tyX2, rfl, rfl, x_u2, nmX2, tyX2_ok, by decide +kernel⟩
theorem x_cls3 : x_clsP 3 := ⟨tyX3, rfl, rfl, x_u3, nmX3, tyX3_ok, by decide +kernel⟩
theorem x_cls4 : x_clsP 4 := ⟨tyX4, rfl, rfl, x_u4, nmX4, tyX4_ok, by decide +kernel⟩
theorem x_cls5 : x_clsP 5 := ⟨tyX5, rfl, rfl, x_u5, nmX5, tyX5_ok, by decide +kernel⟩
theorem x_cls6 : x_clsP 6 := ⟨tyX6, rfl, rfl, x_u6, nmX6, tyX6_ok, by decide +kernel⟩
theorem x_cls7 : x_clsP 7 := ⟨tyX7, rfl, rfl, x_u7, nmX7, tyX7_ok, by decide +kernel⟩
theorem x_cls8 : x_clsP 8 := ⟨tyX8, rfl, rfl, x_u8, nmX8, tyX8_ok, by decide +kernel⟩
theorem x_cls9 : x_clsP 9 := ⟨tyX9, rfl, rfl, x_u9, nmX9, tyX9_ok, by decide +kernel⟩
theorem x_cls10 : x_clsP 10 := ⟨tyX10, rfl, rfl, x_u10, nmX10, tyX10_ok, by decide +kernel⟩
theorem x_cls11 : x_clsP 11 := ⟨tyX11, rfl, rfl, x_u11, nmX11, tyX11_ok, by decide +kernel⟩
theorem x_cls12 : x_clsP 12 := ⟨tyX12, rfl, rfl, x_u12, nmX12, tyX12_ok, by decide +kernel⟩
theorem x_clss : ∀ ci, ci < 13 → x_clsP ci := by
  intro ci h
  match ci, h with
  | 0, _ => exact x_cls0
  | 1, _ => exact x_cls1
  | 2, _ => exact x_cls2
  | 3, _ => exact x_cls3
  | 4, _ => exact x_cls4
  | 5, _ => exact x_cls5
  | 6, _ => exact x_cls6
  | 7, _ => exact x_cls7
  | 8, _ => exact x_cls8
  | 9, _ => exact x_cls9
  | 10, _ => exact x_cls10
  | 11, _ => exact x_cls11
  | 12, _ => exact x_cls12
  | ci + 13, h => exact absurd h (by omega)
theorem x_fl_ok {o idx : Nat} {e : Nat × Nat × Nat × Nat} (h : x_fl o idx = some e) (ho : o < 20) : x_fc o e ∈ x_tbl ∧ e.1 = idx ∧ e.2.1 < 13 ∧ e.2.2.1 < x_nf e.2.1 := by
  have h1 := List.mem_of_find?_eq_some h
  have h2 := List.find?_some h
  have h3 := List.all_eq_true.mp (x_foks o ho) e h1
  simp only [Bool.and_eq_true, decide_eq_true_eq] at h3
  exact ⟨x_at_mem h3.1.1, by simpa using h2, h3.1.2, h3.2⟩
def x_fr (S : xS) (j ci k : Nat) : Option Value := if x_tc ci k = 1 then some (.long (x_L S j k)) else if x_tc ci k = 2 then (match x_P S j k with | some r => some (.ref r) | none => none) else some (.int (x_I S j k))
theorem x_fr_c {S : xS} {j ci k : Nat} {v : Value} (h : x_fr S j ci k = some v) (al : Nat → Nat) : x_fv al S j k (x_tc ci k) = x_c al v := by
  unfold x_fr at h
  unfold x_fv
  by_cases h1 : x_tc ci k = 1
  · rw [if_pos h1] at h ⊢
    cases h
    rfl
  · rw [if_neg h1] at h ⊢
    by_cases h2 : x_tc ci k = 2
    · rw [if_pos h2] at h ⊢
      cases hp : x_P S j k with
      | none => rw [hp] at h; cases h
      | some r => rw [hp] at h; cases h; rfl
    · rw [if_neg h2] at h ⊢
      cases h
      rfl
theorem x_fr_wf {S : xS} {j ci k : Nat} {v : Value} (h : x_fr S j ci k = some v) (hw : x_wf S) : x_vv (x_n S) v := by
  unfold x_fr at h
  by_cases h1 : x_tc ci k = 1
  · rw [if_pos h1] at h
    cases h
    trivial
  · rw [if_neg h1] at h
    by_cases h2 : x_tc ci k = 2
    · rw [if_pos h2] at h
      cases hp : x_P S j k with
      | none => rw [hp] at h; cases h
      | some r => rw [hp] at h; cases h; exact hw.2.2 j k r hp
    · rw [if_neg h2] at h
      cases h
      trivial
theorem x_cell_o {cs : ClassId × ClassId × ClassId} {al : Nat → Nat} {S : xS} {j ci : Nat} (hK : x_K S j = ci) (hc : ci < 13) : x_cell cs al S j = .inr (ci, x_fs al S j ci) := by
  unfold x_cell
  rw [hK, if_pos (by omega)]
theorem x_fs_get {al : Nat → Nat} {S : xS} {j ci k : Nat} (hk : k < x_nf ci) : (x_fs al S j ci)[k]? = some (x_fv al S j k (x_tc ci k)) := by simp [x_fs, hk]
theorem xi_getf {E : Nat × (Nat → Int32)} {d m pc idx i0 j ci k p0 : Nat} {lv : List (Nat × Value)} {st : List Value} {S S' : xS} {r : Option Value} {v : Value} (hdg : decode (x_mB m) pc = .ok (.getfield idx, 3)) (hf : x_fl (x_mo m) idx = some (i0, ci, k, p0)) (ho : x_mo m < 20) (hK : x_K S j = ci) (hv : x_fr S j ci k = some v) (h : x_Rw E d m (pc + 3) lv (v :: st) S r S') : x_Rw E d m pc lv (.ref j :: st) S r S' := by
  obtain ⟨f1, f2, f3, f4⟩ := x_fl_ok hf ho
  dsimp only at f1 f2 f3 f4
  subst f2
  refine ⟨h.1, ?_⟩
  intro l p e R s mid args below meth c A D cs q al H locs ls cells slots Q C X hl w1 w2 hc hz kk
  obtain ⟨ty0, g1, g2, g3, g4, g5, g6⟩ := x_clss ci f3
  have hj : j < x_n S := X.2.2.2.2.2.1 j (by omega)
  have hlk : (Cond.fieldLink (x_o (x_mo m)) i0 ((x_C ci).2.1 k).1 ((x_C ci).2.1 k).2.1 ((x_C ci).2.1 k).2.2.1).before args s = true := C.2.2.2.2.2.2.1 _ f1
  have he : (x_w cs al S)[j]? = some (al j, .inr (ci, x_fs al S j ci)) := by rw [x_w_get hj, x_cell_o hK f3]
  have hfs : (x_fs al S j ci)[k]? = some (x_c al v) := by rw [x_fs_get f4, x_fr_c hv]
  refine va_get C.2.1 C.2.2.1 (C := (x_C ci).1) (T := (x_C ci).2.1) (N := (x_C ci).2.2) C.2.2.2.2.2.2.1 g3 C.2.2.2.2.1 C.2.2.2.2.2.2.2.1 X.1 j he g1 k (by rw [g2]; exact f4) hlk (fun _ h => h) hfs hdg ?_
  exact h.2 l p e R s mid args below meth c A D cs q al H locs ls cells slots Q C X hl w1 (x_wfs_c.mpr ⟨x_fr_wf hv X.2.2.2.2, xw1 w2⟩) hc hz kk

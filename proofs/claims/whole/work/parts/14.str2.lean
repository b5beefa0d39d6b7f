theorem x_al_str {al : Nat → Nat} {q : xQ} (h : x_xt al q) {i : Nat} (hi : i < 5) : al (x_ext0 + (i + 1)) = q.2.1 i := by
  rw [h (i + 1) (by omega)]
  unfold x_qa
  rw [if_neg (by omega)]
  rfl
theorem x_vr_str {n i : Nat} : x_vr n (x_ext0 + (i + 1)) := Or.inr (by omega)
theorem xi_ldcS {E : Nat × (Nat → Int32)} {d m pc i idx : Nat} {lv : List (Nat × Value)} {st : List Value} {S S' : xS} {r : Option Value} (hi : i < 5) (ho : x_mo m = 5) (hk : (x_stx.getD i (0, "")).1 = idx) (hdg : decode (x_mB m) pc = .ok (.ldc idx, 2)) (h : x_Rw E d m (pc + 2) lv (.ref (x_ext0 + (i + 1)) :: st) S r S') : x_Rw E d m pc lv st S r S' := by
  subst hk
  refine x_step h (fun w1 w2 => ⟨w1, xwr x_vr_str w2⟩) (fun l p e R s mid args below meth c A D cs q al H locs ls cells slots Q C X hl k => ?_)
  have hown := C.2.2.2.2.1
  rw [ho] at hown
  have hz := C.2.2.2.2.2.2.2.2.2.2.2.2.2.1 i hi
  refine va_ldcS C.2.1 C.2.2.1 hown hz hdg ?_
  have := k ls hl
  rw [List.map_cons, show x_c al (.ref (x_ext0 + (i + 1))) = .ref (q.2.1 i) from congrArg Value.ref (x_al_str X.2.2.2.1 hi)] at this
  exact this
theorem xi_strlen {E : Nat × (Nat → Int32)} {d m pc i idx i0 : Nat} {ps : List Nat} {lv : List (Nat × Value)} {rest : List Value} {S S' : xS} {r : Option Value} (hi : i < 5) (hdg : decode (x_mB m) pc = .ok (.invokevirtual idx, 3)) (hf : x_cl (x_mo m) idx = some (i0, 0, 232, ps)) (ho : x_mo m < 20) (hst : (rest.map fun v => v.category).sum ≤ 8) (h : x_Rw E (d + 2) m (pc + 3) lv (.int (nI (x_lens.getD i 0)) :: rest) S r S') : x_Rw E (d + 2) m pc lv (.ref (x_ext0 + (i + 1)) :: rest) S r S' := by
  refine ⟨h.1, ?_⟩
  intro l p e R s mid args below meth c A D cs q al H locs ls cells slots Q C X hl w1 w2 hcc hzz kk
  rw [List.map_cons, show x_c al (.ref (x_ext0 + (i + 1))) = .ref (q.2.1 i) from congrArg Value.ref (x_al_str X.2.2.2.1 hi)]
  refine x_pV (As := []) (rest := rest.map (x_c al)) (m1 := 232) (d := d + 1) (i := i) C.2.1 C.2.2.1 C.2.2.2.1 C.2.2.2.2.1 C.2.2.2.2.2.2.1 C.2.2.2.2.2.2.2.2.2.2.2 X.2.2.1 C.2.2.2.2.2.2.2.2.2.1 C.2.2.2.2.2.2.2.2.2.2.1 (by omega) (by omega) hl.1 ok_232 hf ho rfl (by rw [x_cs_cat]; exact hst) hdg hi rfl (x_length l d q A hi) ?_
  exact h.2 l p e R s mid args below meth c A D cs q al H locs ls cells slots Q C X hl w1 (xwi (xw1 w2)) hcc hzz kk
theorem xi_strch {E : Nat × (Nat → Int32)} {d m pc i idx i0 : Nat} {x : Int32} {ps : List Nat} {lv : List (Nat × Value)} {rest : List Value} {S S' : xS} {r : Option Value} (hi : i < 5) (hb : vp_in x (x_lens.getD i 0)) (hdg : decode (x_mB m) pc = .ok (.invokevirtual idx, 3)) (hf : x_cl (x_mo m) idx = some (i0, 0, 233, ps)) (ho : x_mo m < 20) (hst : (rest.map fun v => v.category).sum ≤ 8) (h : x_Rw E (d + 4) m (pc + 3) lv (.int (x_ch i x.toNatClampNeg) :: rest) S r S') : x_Rw E (d + 4) m pc lv (.int x :: .ref (x_ext0 + (i + 1)) :: rest) S r S' := by
  have hlen : x_lens.getD i 0 < 2 ^ 31 := by
    have : ∀ i, i < 5 → x_lens.getD i 0 < 2 ^ 31 := by decide +kernel
    exact this i hi
  obtain ⟨k, hk, rfl⟩ := vp_in_of hb hlen
  rw [nI_clamp (by omega)] at h
  refine ⟨h.1, ?_⟩
  intro l p e R s mid args below meth c A D cs q al H locs ls cells slots Q C X hl w1 w2 hcc hzz kk
  rw [List.map_cons, List.map_cons, show x_c al (.ref (x_ext0 + (i + 1))) = .ref (q.2.1 i) from congrArg Value.ref (x_al_str X.2.2.2.1 hi)]
  refine x_pV (As := [.int (nI k)]) (rest := rest.map (x_c al)) (m1 := 233) (d := d + 3) (i := i) C.2.1 C.2.2.1 C.2.2.2.1 C.2.2.2.2.1 C.2.2.2.2.2.2.1 C.2.2.2.2.2.2.2.2.2.2.2 X.2.2.1 C.2.2.2.2.2.2.2.2.2.1 C.2.2.2.2.2.2.2.2.2.2.1 (by omega) (by omega) hl.1 ok_233 hf ho rfl (by rw [x_cs_cat]; exact hst) hdg hi rfl (x_charAt l d q A hi hk) ?_
  exact h.2 l p e R s mid args below meth c A D cs q al H locs ls cells slots Q C X hl w1 (xwi (xw2 w2)) hcc hzz kk
theorem xr_ldcS {E : Nat × (Nat → Int32)} {d m pc i idx : Nat} {lv : List (Nat × Value)} {st : List Value} {S : xS} {Q : Option Value → xS → Prop} (hi : i < 5) (ho : x_mo m = 5) (hk : (x_stx.getD i (0, "")).1 = idx) (hdg : decode (x_mB m) pc = .ok (.ldc idx, 2)) (k : x_R E d m (pc + 2) lv (.ref (x_ext0 + (i + 1)) :: st) S Q) : x_R E d m pc lv st S Q := x_R.step (fun _ _ h => xi_ldcS hi ho hk hdg h) k
theorem xr_strlen {E : Nat × (Nat → Int32)} {d m pc i idx i0 : Nat} {ps : List Nat} {lv : List (Nat × Value)} {rest : List Value} {S : xS} {Q : Option Value → xS → Prop} (hi : i < 5) (hdg : decode (x_mB m) pc = .ok (.invokevirtual idx, 3)) (hf : x_cl (x_mo m) idx = some (i0, 0, 232, ps)) (ho : x_mo m < 20) (hst : (rest.map fun v => v.category).sum ≤ 8) (k : x_R E (d + 2) m (pc + 3) lv (.int (nI (x_lens.getD i 0)) :: rest) S Q) : x_R E (d + 2) m pc lv (.ref (x_ext0 + (i + 1)) :: rest) S Q := x_R.step (fun _ _ h => xi_strlen hi hdg hf ho hst h) k
theorem xr_strch {E : Nat × (Nat → Int32)} {d m pc i idx i0 : Nat} {x : Int32} {ps : List Nat} {lv : List (Nat × Value)} {rest : List Value} {S : xS} {Q : Option Value → xS → Prop} (hi : i < 5) (hb : vp_in x (x_lens.getD i 0)) (hdg : decode (x_mB m) pc = .ok (.invokevirtual idx, 3)) (hf : x_cl (x_mo m) idx = some (i0, 0, 233, ps)) (ho : x_mo m < 20) (hst : (rest.map fun v => v.category).sum ≤ 8) (k : x_R E (d + 4) m (pc + 3) lv (.int (x_ch i x.toNatClampNeg) :: rest) S Q) : x_R E (d + 4) m pc lv (.int x :: .ref (x_ext0 + (i + 1)) :: rest) S Q := x_R.step (fun _ _ h => xi_strch hi hb hdg hf ho hst h) k
/-- a method that answers a cell -/
def RA (E : Nat × (Nat → Int32)) (d m pc : Nat) (lv : List (Nat × Value)) (v : xV) (Q : Nat → xV → Prop) : Prop := x_R E d m pc lv [] (rt v) (fun r S => ∃ (y : Nat) (w : xV), r = some (.ref y) ∧ S = rt w ∧ Q y w)
def KA (E : Nat × (Nat → Int32)) (d m : Nat) (args : List Value) (v : xV) (Q : Nat → xV → Prop) : Prop := x_K1 E d m args (rt v) (fun r S => ∃ (y : Nat) (w : xV), r = some (.ref y) ∧ S = rt w ∧ Q y w)
theorem KA.of {E : Nat × (Nat → Int32)} {d m : Nat} {args : List Value} {v : xV} {Q : Nat → xV → Prop} (hok : x_mOK m) (hlen : (lg_sl args).length ≤ x_mL m) (h : RA E d m 0 (lv_args 0 args) v Q) : KA E d m args v Q := x_K1.of hok hlen h
theorem xk_SA {E : Nat × (Nat → Int32)} {d m pc idx i0 m1 : Nat} {ps : List Nat} {lv : List (Nat × Value)} {As rest st : List Value} {v : xV} {Q : Option Value → xS → Prop} (hdg : decode (x_mB m) pc = .ok (.invokestatic idx, 3)) (hf : x_cl (x_mo m) idx = some (i0, 1, m1, ps)) (ho : x_mo m < 20) (hn : As.length = x_mN m1) (hst : (rest.map fun v => v.category).sum ≤ 8) (hs : As.reverse ++ rest = st) {P : Nat → xV → Prop} (h : KA E d m1 As v P) (k : ∀ y w, P y w → x_R E (d + 1) m (pc + 3) lv (.ref y :: rest) (rt w) Q) : x_R E (d + 1) m pc lv st (rt v) Q := xr_callS hdg hf ho hn hst hs (x_K1.mono h (fun r S ⟨y, w, h1, h2, h3⟩ => by
  subst h1
  subst h2
  exact k y w h3))

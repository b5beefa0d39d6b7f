/-! contracts -/
def x_ws (m : Nat) : List Cond := x_mc m :: x_tbl
def x_Pc (E : Nat × (Nat → Int32)) (D : va_G) (cs : ClassId × ClassId × ClassId) (q : xQ) (al : Nat → Nat) (sz : Nat) (S : xS) (U : State) : Prop :=
  U.heap.size = sz ∧ va_P D vwCl (x_w cs al S) U.heap ∧ va_K D vwCl (x_tys cs) U ∧ va_D (fun _ => True) (x_w cs al S) ∧ x_Ex E q (va_A (x_w cs al S) sz) U
def x_Qc (D : va_G) (cs : ClassId × ClassId × ClassId) (al : Nat → Nat) (sz : Nat) (S : xS) (r : Option Value) (S' : xS) : Array Value → State → Outcome → State → Prop := fun _ st oc t =>
  ∃ al', x_ext al al' (x_n S) ∧ oc = .returned (r.map (x_c al')) ∧ va_P D vwCl (x_w cs al' S') t.heap ∧ va_D (va_A (x_w cs al S) sz) (x_w cs al' S') ∧ va_F (va_A (x_w cs al S) sz) st t ∧ x_wf S' ∧ x_wfs (x_n S') r.toList
def x_rm (d : Nat) (S S' : xS) : Room := { frames := d, cells := x_k S' - x_k S, slots := x_z S' - x_z S, locals := 50 * d }
def x_Call (E : Nat × (Nat → Int32)) (d m : Nat) (args : List Value) (S : xS) (r : Option Value) (S' : xS) : Prop :=
  x_mOK m ∧ (x_n S ≤ x_n S' ∧ x_k S ≤ x_k S' ∧ x_z S ≤ x_z S') ∧
  ∀ (l : Launch) (D : va_G) (cs : ClassId × ClassId × ClassId) (q : xQ) (al : Nat → Nat) (sz : Nat), l.stackTraces = false → x_wf S → x_wfs (x_n S) args → x_xt al q →
    Met l (x_mY m) (x_ws m) (x_rm d S S') (va_Pc (args.map (x_c al)) (x_Pc E D cs q al sz S)) (x_Qc D cs al sz S r S') (x_k S' - x_k S) (x_z S' - x_z S) (va_A (x_w cs al S) sz)
theorem x_args_map (al : Nat → Nat) : ∀ (i : Nat) (vs : List Value), lv_args i (vs.map (x_c al)) = (lv_args i vs).map (x_q al)
  | _, [] => rfl
  | i, v :: vs => by
    show (i, x_c al v) :: lv_args (if (x_c al v).category = 2 then i + 2 else i + 1) (vs.map (x_c al)) = _
    rw [x_c_cat, x_args_map al]
    rfl
theorem x_sl_len (al : Nat → Nat) : ∀ (vs : List Value), (lg_sl (vs.map (x_c al))).length = (lg_sl vs).length
  | [] => rfl
  | v :: vs => by
    have h := x_sl_len al vs
    unfold lg_sl at h ⊢
    rw [List.map_cons, List.flatMap_cons, List.flatMap_cons, List.length_append, List.length_append, h, x_c_cat]
    by_cases e : v.category = 2
    · simp [e]
    · simp [e]
theorem x_args_wf {n : Nat} : ∀ {i : Nat} {vs : List Value}, x_wfs n vs → x_wfl n (lv_args i vs)
  | _, [], _ => fun q hq => by simp [lv_args] at hq
  | i, v :: vs, h => fun q hq => by
    rcases List.mem_cons.mp hq with rfl | hq
    · exact h v List.mem_cons_self
    · exact x_args_wf (fun w hw => h w (List.mem_cons_of_mem _ hw)) q hq
theorem x_mk_spec {m : Nat} (h : x_mOK m) : x_mc m ∈ x_tbl ∧ Cond.initialized (x_mY m).cls ∈ x_tbl ∧ plainName (x_mY m).cls = true ∧ (x_mY m).cls ≠ "java/lang/invoke/MethodHandle" ∧ (x_mY m).cls ≠ "java/lang/invoke/VarHandle" ∧ (parseMethodDescriptor (x_mY m).desc).map (fun d => d.parameters.length) = some (x_mN m) ∧ x_mL m ≤ 31 ∧ (x_mY m).cls = x_o (x_mo m) ∧ x_mo m < 20 := by
  obtain ⟨h1, p, h2⟩ := h
  simp only [x_mk, Bool.and_eq_true, decide_eq_true_eq] at h2
  obtain ⟨⟨⟨⟨⟨⟨⟨a1, a2⟩, a3⟩, a4⟩, a5⟩, a6⟩, a7⟩, a8⟩ := h2
  exact ⟨h1, x_at_mem a1, a2, a3, a4, a5, a6, a7, a8⟩
theorem x_tbl_good {w : Cond} (h : w ∈ x_tbl) : (w.onTables && w.keeps) = true ∨ ∃ ty, w = .arrayClass ty := good_of_word (List.mem_filter.mp h).2
theorem x_ws_good {m : Nat} (h : x_mOK m) : GoodIn x_tbl (x_ws m) := by
  intro w hw
  rcases List.mem_cons.mp hw with rfl | hw
  · exact ⟨h.1, x_tbl_good h.1⟩
  · exact ⟨hw, x_tbl_good hw⟩
/-- a method's contract out of its body -/
theorem x_meth {E : Nat × (Nat → Int32)} {d m : Nat} {args : List Value} {S S' : xS} {r : Option Value} (hok : x_mOK m) (hlen : (lg_sl args).length ≤ x_mL m) (h : x_Rw E d m 0 (lv_args 0 args) [] S r S') : x_Call E d m args S r S' := by
  refine ⟨hok, h.1, ?_⟩
  intro l D cs q al sz htr hwf hwa hext
  obtain ⟨k1, k2, k3, k4, k5, k6, k7, k8, k9⟩ := x_mk_spec hok
  refine Met.ofW (cc := x_mB m) (maxL := x_mL m) (ret := x_mR m) k3 rfl ?_
  intro p e s mid args' below meth c s₁ B hml hv
  obtain ⟨rfl, hsz, hP, hK, hD0, hE⟩ := hv
  have hts := atoms_spec (ws := x_ws m) B.pre
  have hown : s.vm.findClass (x_mY m).cls = some mid.cls := findClass_of_methodNamed B.named
  have hb := B.bytes
  have hr := B.returns
  have hlocks := B.notSynchronized
  rw [k8] at hown
  have hl := lv_entry (args.map (x_c al)) (n := x_mL m) (by rw [x_sl_len]; exact hlen)
  rw [lg_entry_eq]
  rw [x_args_map] at hl
  generalize (lg_sl (args.map (x_c al)) ++ List.replicate (x_mL m - (lg_sl (args.map (x_c al))).length) Slot.unset).toArray = ls at hl ⊢
  have C : x_Ctx E d m l p (headSpec (x_ws m) (x_rm d S S')).room s mid (args.map (x_c al)).toArray meth c (va_A (x_w cs al S) sz) D cs q :=
    ⟨htr, B.exec, hb, hml, hown, (name_of_methodNamed B.named B.method).1, fun w hw => hts w (List.mem_cons_of_mem _ hw), hK, fun z hz => Or.inr (by rw [← hsz]; exact hz), Nat.le_refl _, Nat.le_refl _, hE⟩
  have X : x_Hp s (va_A (x_w cs al S) sz) D cs q al S s.heap [] := ⟨hP, hD0.self, va_S.rf, hext, hwf⟩
  have rc : 0 + (x_k S' - x_k S) ≤ (headSpec (x_ws m) (x_rm d S S')).room.cells := by rw [Nat.zero_add]; exact Nat.le_refl _
  have rz : 0 + (x_z S' - x_z S) ≤ (headSpec (x_ws m) (x_rm d S S')).room.slots := by rw [Nat.zero_add]; exact Nat.le_refl _
  refine h.2 l p e _ s mid _ below meth c _ D cs q al s.heap [] ls 0 0 _ C X hl (x_args_wf hwa) x_wfs_n rc rz ?_
  intro al' H' locs' ls' pc' x1 X1 w1 hrp
  rw [Nat.zero_add, Nat.zero_add]
  have hq : ∀ t : State, t.heap = H' → s.WarmedH t.vm → x_Qc D cs al sz S r S' (args.map (x_c al)).toArray s (.returned (r.map (x_c al'))) t := fun t ht _ => ⟨al', x1, rfl, by rw [ht]; exact X1.1, X1.2.1, X1.2.2.1.F ht, X1.2.2.2.2, w1⟩
  have hf : ∀ z ∈ locs', (va_A (x_w cs al S) sz) z.base := X1.2.2.1.2.2
  cases r with
  | none =>
    obtain ⟨d1, d2⟩ := hrp
    exact W.vret B.exec hb (hr.trans d2) hq hf d1 hlocks
  | some v =>
    cases v with
    | int x =>
      obtain ⟨d1, ty, d2, d3⟩ := hrp
      exact W.zret B.exec hb (hr.trans d2) d3 hq hf d1 hlocks
    | long x =>
      obtain ⟨d1, d2⟩ := hrp
      exact W.lret B.exec hb (hr.trans d2) hq hf d1 hlocks
    | ref x =>
      obtain ⟨d1, n, d2⟩ := hrp
      exact W.aret B.exec hb (hr.trans d2) (Or.inl ⟨n, rfl⟩) (Or.inr ⟨_, rfl⟩) hq hf d1 hlocks
    | float x => exact absurd hrp (fun h => h)
    | double x => exact absurd hrp (fun h => h)
    | null => exact absurd hrp (fun h => h)
    | retAddr x => exact absurd hrp (fun h => h)
theorem x_free {E : Nat × (Nat → Int32)} {d m : Nat} {l : Launch} {p : Program} {R : Room} {s : State} {mid : MethodId} {args : Array Value} {meth : Method} {c : Code} {A : Nat → Prop} {D : va_G} {cs : ClassId × ClassId × ClassId} {q : xQ} {al : Nat → Nat} {S : xS} {H : Heap} {locs : List Loc} (C : x_Ctx E d m l p R s mid args meth c A D cs q) (X : x_Hp s A D cs q al S H locs) : ∀ z, va_A (x_w cs al S) H.size z → A z := by
  intro z hz
  rcases hz with ⟨k, e, h⟩ | h
  · exact X.2.1.2 k _ h
  · exact C.2.2.2.2.2.2.2.2.1 z (Nat.le_trans X.2.2.1.1 h)
/-- behind a call -/
theorem x_cont {E : Nat × (Nat → Int32)} {d m pc : Nat} {l : Launch} {p : Program} {e : Env} {R : Room} {s : State} {mid : MethodId} {args : Array Value} {below : List Frame} {meth : Method} {c : Code} {A : Nat → Prop} {D : va_G} {cs : ClassId × ClassId × ClassId} {q : xQ} {al : Nat → Nat} {S S1 : xS} {H : Heap} {locs : List Loc} {cells slots : Nat} {Q : State → Prop} {ls : Array Slot} {st0 rest : List Value} {r : Option Value} {a : Array Value}
    (C : x_Ctx E d m l p R s mid args meth c A D cs q) (X : x_Hp s A D cs q al S H locs)
    (hr : va_Run p l e R s mid args below meth c H locs cells slots (x_k S1 - x_k S) (x_z S1 - x_z S) (F0 mid pc ls st0) rest (x_Qc D cs al H.size S r S1 a) (va_A (x_w cs al S) H.size))
    (kk : ∀ (al1 : Nat → Nat) (H1 : Heap) (locs1 : List Loc), x_ext al al1 (x_n S) → x_Hp s A D cs q al1 S1 H1 locs1 → x_wfs (x_n S1) r.toList → W p l e R s mid args below meth c H1 locs1 (cells + (x_k S1 - x_k S)) (slots + (x_z S1 - x_z S)) Q (F0 mid (pc + 3) ls ((r.map (x_c al1)).toList ++ rest))) :
    W p l e R s mid args below meth c H locs cells slots Q (F0 mid pc ls st0) := by
  intro T hT XX
  obtain ⟨v, st₀, t, T', L, h0, X', hL, e1, e2, ⟨al1, x1, hv, p1, p2, p3, w1, w2⟩, go⟩ := hr T hT XX
  cases Outcome.returned.inj hv
  have hfr := x_free C X
  obtain ⟨f1, f2⟩ := p3
  rw [h0] at f1 f2
  have hS := X.2.2.1
  obtain ⟨tt, a1, b1⟩ := kk al1 T'.heap (locs ++ L) x1 ⟨by rw [e1]; exact p1, p2.weaken (fun k z _ h => hfr _ h), ⟨by rw [e1]; exact Nat.le_trans hS.1 f1, fun z h1 h2 => by
      rw [e1, f2 z (Nat.lt_of_lt_of_le h1 hS.1) (fun h => h2 (hfr z h))]
      exact hS.2.1 z h1 h2, fun z hz => by
      rcases List.mem_append.mp hz with h | h
      · exact hS.2.2 z h
      · exact hfr _ (hL z h)⟩, fun i hi => (x1 _ (Or.inr (Nat.le_add_right _ _))).trans (X.2.2.2.1 i hi), w1⟩ w2 T' rfl X'
  exact ⟨tt, go tt a1, b1⟩
theorem x_Pc_blind {E : Nat × (Nat → Int32)} {D : va_G} {cs : ClassId × ClassId × ClassId} {q : xQ} {al : Nat → Nat} {sz : Nat} {S : xS} {vs : List Value} : FrameBlind (va_Pc vs (x_Pc E D cs q al sz S)) := by
  intro a U g mk h
  obtain ⟨h1, h2, h3, h4, h5, h6⟩ := h
  refine ⟨h1, h2, h3, va_K.moved (u := U) (U := U.calling g mk a) (Vm.Alike.refl U.vm) h4, h5, ?_⟩
  obtain ⟨⟨b1, b2, b3⟩, c2, c3, c4, c5, c6, c7, c8, c9⟩ := h6
  have hvm : U.vm.Alike (U.calling g mk a).vm := Vm.Alike.refl U.vm
  exact ⟨⟨b1.moved hvm, b2, b3⟩, vk_S.moved hvm c2, fun i hi => (c3 i hi).same rfl, fun r hr => (c4 r hr).same rfl rfl, vx_Zq.moved hvm c5, vx_Zq.moved hvm c6, c7.same rfl, va_Z.moved hvm c8, vx_Zq.moved hvm c9⟩
theorem x_Pc_at {E : Nat × (Nat → Int32)} {d m : Nat} {l : Launch} {p : Program} {R : Room} {s : State} {mid : MethodId} {args : Array Value} {meth : Method} {c : Code} {A : Nat → Prop} {D : va_G} {cs : ClassId × ClassId × ClassId} {q : xQ} {al : Nat → Nat} {S : xS} {H : Heap} {locs : List Loc} (C : x_Ctx E d m l p R s mid args meth c A D cs q) (X : x_Hp s A D cs q al S H locs) (vs : List Value) : ∀ U : State, U.heap = H → s.WarmedH U.vm → va_Pc vs (x_Pc E D cs q al H.size S) vs.toArray U := by
  intro U hU hW
  refine ⟨rfl, by rw [hU], by rw [hU]; exact X.1, va_K.moved hW.alike C.2.2.2.2.2.2.2.1, X.2.1.weaken (fun _ _ _ _ => trivial), C.2.2.2.2.2.2.2.2.2.2.2.move (locs := locs) (by rw [hU]; exact X.2.2.1) hW (x_free C X)⟩
theorem x_cl_ok {o idx : Nat} {e : Nat × Nat × Nat × List Nat} (h : x_cl o idx = some e) (ho : o < 20) : (∀ w ∈ x_cc o e, w ∈ x_tbl) ∧ e.1 = idx ∧ (e.2.1 = 3 ∨ e.2.1 = 5 → (o, e.1, e.2.2.1) ∈ x_NL) ∧ (e.2.1 = 2 ∨ e.2.1 = 3 → (x_mY e.2.2.1).name = "<init>" ∧ x_mR e.2.2.1 = none) := by
  have h1 := List.mem_of_find?_eq_some h
  have h2 : e.1 = idx := by simpa using List.find?_some h
  have h3 := List.all_eq_true.mp (x_coks o ho) e h1
  simp only [Bool.and_eq_true] at h3
  obtain ⟨⟨⟨a1, a2⟩, a3⟩, a4⟩ := h3
  refine ⟨x_ats_mem a1, h2, fun hh => ?_, fun hh => ?_⟩
  · rw [if_pos hh] at a3
    exact of_decide_eq_true a3
  · rw [if_pos hh] at a4
    simp only [Bool.and_eq_true, decide_eq_true_eq] at a4
    exact a4
theorem x_o_C : ∀ ci, ci < 13 → x_o ci = (x_C ci).1 := by decide +kernel
theorem x_room {m : Nat} {d : Nat} {R : Room} {S S1 : xS} (h1 : d + 1 ≤ R.frames) (h2 : 50 * (d + 1) ≤ R.locals) (h3 : x_mL m ≤ 31) : (x_rm d S S1).frames + 1 ≤ R.frames ∧ 8 + (x_mL m + 11) + (x_rm d S S1).locals ≤ R.locals := by
  unfold x_rm
  dsimp only
  exact ⟨h1, by omega⟩
theorem x_map_st (al : Nat → Nat) (As rest : List Value) (v : Value) : (As.reverse ++ v :: rest).map (x_c al) = (As.map (x_c al)).reverse ++ x_c al v :: rest.map (x_c al) := by
  rw [List.map_append, List.map_reverse, List.map_cons]
theorem x_opt_map (al : Nat → Nat) (r : Option Value) (rest : List Value) : (r.toList ++ rest).map (x_c al) = (r.map (x_c al)).toList ++ rest.map (x_c al) := by
  cases r <;> rfl
/-- a step that changes the state; what comes is known to be valid only there -/
theorem x_stepC {E : Nat × (Nat → Int32)} {d m pc pc1 : Nat} {lv lv1 : List (Nat × Value)} {st st1 : List Value} {S S1 S' : xS} {r : Option Value} (h : x_Rw E d m pc1 lv1 st1 S1 r S') (hm : x_n S ≤ x_n S1 ∧ x_k S ≤ x_k S1 ∧ x_z S ≤ x_z S1)
    (hs : ∀ (l : Launch) (p : Program) (e : Env) (R : Room) (s : State) (mid : MethodId) (args : Array Value) (below : List Frame) (meth : Method) (c : Code) (A : Nat → Prop) (D : va_G) (cs : ClassId × ClassId × ClassId) (q : xQ) (al : Nat → Nat) (H : Heap) (locs : List Loc) (ls : Array Slot) (cells slots : Nat) (Q : State → Prop),
      x_Ctx E d m l p R s mid args meth c A D cs q → x_Hp s A D cs q al S H locs → lv_has ls (x_mL m) (lv.map (x_q al)) → x_wfl (x_n S) lv → x_wfs (x_n S) st → cells + (x_k S1 - x_k S) ≤ R.cells → slots + (x_z S1 - x_z S) ≤ R.slots →
      (∀ (al1 : Nat → Nat) (H1 : Heap) (locs1 : List Loc) (ls1 : Array Slot), x_ext al al1 (x_n S) → x_Hp s A D cs q al1 S1 H1 locs1 → lv_has ls1 (x_mL m) (lv1.map (x_q al1)) → x_wfl (x_n S1) lv1 → x_wfs (x_n S1) st1 → W p l e R s mid args below meth c H1 locs1 (cells + (x_k S1 - x_k S)) (slots + (x_z S1 - x_z S)) Q (F0 mid pc1 ls1 (st1.map (x_c al1)))) →
      W p l e R s mid args below meth c H locs cells slots Q (F0 mid pc ls (st.map (x_c al)))) : x_Rw E d m pc lv st S r S' := by
  obtain ⟨⟨m1, m2, m3⟩, h2⟩ := h
  obtain ⟨n1, n2, n3⟩ := hm
  refine ⟨⟨by omega, by omega, by omega⟩, ?_⟩
  intro l p e R s mid args below meth c A D cs q al H locs ls cells slots Q C X hl w1 w2 hc hz kk
  have e1 : cells + (x_k S1 - x_k S) + (x_k S' - x_k S1) = cells + (x_k S' - x_k S) := by omega
  have e2 : slots + (x_z S1 - x_z S) + (x_z S' - x_z S1) = slots + (x_z S' - x_z S) := by omega
  refine hs l p e R s mid args below meth c A D cs q al H locs ls cells slots Q C X hl w1 w2 (by omega) (by omega) (fun al1 H1 locs1 ls1 x1 X1 hl1 v1 v2 => ?_)
  refine h2 l p e R s mid args below meth c A D cs q al1 H1 locs1 ls1 _ _ Q C X1 hl1 v1 v2 (by omega) (by omega) (fun al2 H2 locs2 ls2 pc2 x2 X2 w3 hr => ?_)
  rw [e1, e2]
  exact kk al2 H2 locs2 ls2 pc2 (x1.tr x2 n1) X2 w3 hr
/-- invokevirtual -/
theorem xi_callV {E : Nat × (Nat → Int32)} {d m pc idx i0 m1 bb : Nat} {ps : List Nat} {lv : List (Nat × Value)} {As rest : List Value} {S S1 S' : xS} {r1 r : Option Value} (hdg : decode (x_mB m) pc = .ok (.invokevirtual idx, 3)) (hf : x_cl (x_mo m) idx = some (i0, 0, m1, ps)) (ho : x_mo m < 20) (hn : As.length = x_mN m1) (hK : x_K S bb = x_mo m1) (hK2 : x_mo m1 < 13) (hst : (rest.map fun v => v.category).sum ≤ 8)
    (hc : x_Call E d m1 (.ref bb :: As) S r1 S1) (h : x_Rw E (d + 1) m (pc + 3) lv (r1.toList ++ rest) S1 r S') : x_Rw E (d + 1) m pc lv (As.reverse ++ .ref bb :: rest) S r S' := by
  obtain ⟨f1, f2, -, -⟩ := x_cl_ok hf ho
  dsimp only at f2
  subst f2
  have hl : Cond.methodLink (x_o (x_mo m)) i0 (x_mY m1) ∈ x_tbl := f1 _ (by simp [x_cc])
  have hi : Cond.instanceMethod (x_mY m1) ∈ x_tbl := f1 _ (by simp [x_cc])
  have hs : Cond.selects (x_mY m1).cls (x_mY m1) (x_mY m1) ∈ x_tbl := f1 _ (by simp [x_cc])
  obtain ⟨k1, k2, k3, k4, k5, k6, k7, k8, k9⟩ := x_mk_spec hc.1
  obtain ⟨hm1, hm2, hm3⟩ := hc.2.1
  refine x_stepC h ⟨hm1, hm2, hm3⟩ ?_
  intro l p e R s mid args below meth c A D cs q al H locs ls cells slots Q C X hl0 w1 w2 hcc hzz kk
  obtain ⟨wa, wb⟩ := x_wfs_a.mp w2
  have wargs : x_wfs (x_n S) (.ref bb :: As) := x_wfs_c.mpr ⟨(x_wfs_c.mp wb).1, x_wfs_r.mp wa⟩
  have hM := hc.2.2 l D cs q al H.size C.1 X.2.2.2.2 wargs X.2.2.2.1
  have hts := C.2.2.2.2.2.2.1
  have hj : bb < x_n S := X.2.2.2.2.2.1 bb (by omega)
  have he : (x_w cs al S)[bb]? = some (al bb, .inr (x_mo m1, x_fs al S bb (x_mo m1))) := by rw [x_w_get hj, x_cell_o hK hK2]
  obtain ⟨ty0, g1, -⟩ := x_clss _ hK2
  have hrecv := va_recv C.2.2.2.2.2.2.2.1 X.1 g1 he
  have hrecv2 : ∃ cellB : Cell, H[al bb]? = some cellB ∧ cellB.vm.isStatics = false ∧ s.vm.findClass (x_mY m1).cls = some cellB.cls := by
    rw [k8, x_o_C _ hK2]
    exact hrecv
  have hrm := x_room (S := S) (S1 := S1) (m := m1) C.2.2.2.2.2.2.2.2.2.1 C.2.2.2.2.2.2.2.2.2.2.1 k7
  have cw : CallW R s args (x_o (x_mo m)) (x_mY m1).cls i0 (x_mY m1) (x_mB m1) (x_mL m1) (x_mR m1) (x_ws m1) (x_rm d S S1) (x_k S1 - x_k S) (x_z S1 - x_z S) (x_mN m1) :=
    ⟨callB_of (x_mN m1) hts (x_ws_good hc.1) rfl rfl rfl (hts _ k2) (hts _ hl) ⟨k4, k5, k6⟩ hrm, hts _ hi, hts _ hs⟩
  rw [x_map_st]
  refine x_cont C X (va_runV (As := As.map (x_c al)) (rest := rest.map (x_c al)) ⟨C.2.1, C.2.2.1, C.2.2.2.1, C.2.2.2.2.1, hts⟩ hM cw ⟨x_Pc_blind, hrecv2, x_Pc_at C X ((Value.ref bb :: As).map (x_c al))⟩ rfl (by rw [List.length_map]; exact hn) hl0.1 rfl (lv_room (by rw [x_cs_cat]; exact hst)) hdg ⟨hcc, hzz⟩) ?_
  intro al1 H1 locs1 x1 X1 wr
  have := kk al1 H1 locs1 ls x1 X1 (by rw [x_ql_ext x1 w1]; exact hl0) (w1.mono hm1) (x_wfs_a.mpr ⟨wr, (xw1 wb).mono hm1⟩)
  rw [x_opt_map, x_cs_ext x1 (xw1 wb)] at this
  exact this
/-- invokestatic -/
theorem xi_callS {E : Nat × (Nat → Int32)} {d m pc idx i0 m1 : Nat} {ps : List Nat} {lv : List (Nat × Value)} {As rest : List Value} {S S1 S' : xS} {r1 r : Option Value} (hdg : decode (x_mB m) pc = .ok (.invokestatic idx, 3)) (hf : x_cl (x_mo m) idx = some (i0, 1, m1, ps)) (ho : x_mo m < 20) (hn : As.length = x_mN m1) (hst : (rest.map fun v => v.category).sum ≤ 8)
    (hc : x_Call E d m1 As S r1 S1) (h : x_Rw E (d + 1) m (pc + 3) lv (r1.toList ++ rest) S1 r S') : x_Rw E (d + 1) m pc lv (As.reverse ++ rest) S r S' := by
  obtain ⟨f1, f2, -, -⟩ := x_cl_ok hf ho
  dsimp only at f2
  subst f2
  have hl : Cond.methodLink (x_o (x_mo m)) i0 (x_mY m1) ∈ x_tbl := f1 _ (by simp [x_cc])
  have hi : Cond.static (x_mY m1) ∈ x_tbl := f1 _ (by simp [x_cc])
  obtain ⟨k1, k2, k3, k4, k5, k6, k7, k8, k9⟩ := x_mk_spec hc.1
  obtain ⟨hm1, hm2, hm3⟩ := hc.2.1
  refine x_stepC h ⟨hm1, hm2, hm3⟩ ?_
  intro l p e R s mid args below meth c A D cs q al H locs ls cells slots Q C X hl0 w1 w2 hcc hzz kk
  obtain ⟨wa, wb⟩ := x_wfs_a.mp w2
  have hM := hc.2.2 l D cs q al H.size C.1 X.2.2.2.2 (x_wfs_r.mp wa) X.2.2.2.1
  have hts := C.2.2.2.2.2.2.1
  have hrm := x_room (S := S) (S1 := S1) (m := m1) C.2.2.2.2.2.2.2.2.2.1 C.2.2.2.2.2.2.2.2.2.2.1 k7
  have cw : CallB R s args (x_o (x_mo m)) i0 (x_mY m1) (x_mB m1) (x_mL m1) (x_mR m1) (x_ws m1) (x_rm d S S1) (x_k S1 - x_k S) (x_z S1 - x_z S) (x_mN m1) ∧ (Cond.static (x_mY m1)).before args s = true :=
    ⟨callB_of (x_mN m1) hts (x_ws_good hc.1) rfl rfl rfl (hts _ k2) (hts _ hl) ⟨k4, k5, k6⟩ hrm, hts _ hi⟩
  rw [List.map_append, List.map_reverse]
  refine x_cont C X (va_runS (As := As.map (x_c al)) (rest := rest.map (x_c al)) ⟨C.2.1, C.2.2.1, C.2.2.2.1, C.2.2.2.2.1, hts⟩ hM cw ⟨x_Pc_blind, x_Pc_at C X (As.map (x_c al))⟩ rfl (by rw [List.length_map]; exact hn) hl0.1 rfl (lv_room (by rw [x_cs_cat]; exact hst)) hdg ⟨hcc, hzz⟩) ?_
  intro al1 H1 locs1 x1 X1 wr
  have := kk al1 H1 locs1 ls x1 X1 (by rw [x_ql_ext x1 w1]; exact hl0) (w1.mono hm1) (x_wfs_a.mpr ⟨wr, wb.mono hm1⟩)
  rw [x_opt_map, x_cs_ext x1 wb] at this
  exact this
/-- invokestatic of a nest mate's private method -/
theorem xi_callSN {E : Nat × (Nat → Int32)} {d m pc idx i0 m1 : Nat} {ps : List Nat} {lv : List (Nat × Value)} {As rest : List Value} {S S1 S' : xS} {r1 r : Option Value} (hdg : decode (x_mB m) pc = .ok (.invokestatic idx, 3)) (hf : x_cl (x_mo m) idx = some (i0, 5, m1, ps)) (ho : x_mo m < 20) (hn : As.length = x_mN m1) (hst : (rest.map fun v => v.category).sum ≤ 8)
    (hc : x_Call E d m1 As S r1 S1) (h : x_Rw E (d + 1) m (pc + 3) lv (r1.toList ++ rest) S1 r S') : x_Rw E (d + 1) m pc lv (As.reverse ++ rest) S r S' := by
  obtain ⟨f1, f2, f3, -⟩ := x_cl_ok hf ho
  dsimp only at f2
  subst f2
  have hnl := f3 (Or.inr rfl)
  dsimp only at hnl
  have hi : Cond.static (x_mY m1) ∈ x_tbl := f1 _ (by simp [x_cc])
  obtain ⟨k1, k2, k3, k4, k5, k6, k7, k8, k9⟩ := x_mk_spec hc.1
  obtain ⟨hm1, hm2, hm3⟩ := hc.2.1
  refine x_stepC h ⟨hm1, hm2, hm3⟩ ?_
  intro l p e R s mid args below meth c A D cs q al H locs ls cells slots Q C X hl0 w1 w2 hcc hzz kk
  obtain ⟨wa, wb⟩ := x_wfs_a.mp w2
  have hM := hc.2.2 l D cs q al H.size C.1 X.2.2.2.2 (x_wfs_r.mp wa) X.2.2.2.1
  have hts := C.2.2.2.2.2.2.1
  have hnw : va_Nw (x_nc (x_mo m, i0, m1)) s := C.2.2.2.2.2.2.2.2.2.2.2.2.2.2.1 _ hnl
  have hrm := x_room (S := S) (S1 := S1) (m := m1) C.2.2.2.2.2.2.2.2.2.1 C.2.2.2.2.2.2.2.2.2.2.1 k7
  have cw := va_cnB (R := R) (own := x_o (x_mo m)) (host := "ScrawlHouse") (index := i0) (y := x_mY m1) (bytes := x_mB m1) (maxL := x_mL m1) (ret := x_mR m1) (rm := x_rm d S S1) (mc := x_k S1 - x_k S) (ms := x_z S1 - x_z S) (x_mN m1) hts (x_ws_good hc.1) rfl rfl rfl hnw (hts _ k2) ⟨k4, k5, k6⟩ hrm
  rw [List.map_append, List.map_reverse]
  refine x_cont C X (va_runSN (As := As.map (x_c al)) (rest := rest.map (x_c al)) ⟨C.2.1, C.2.2.1, C.2.2.2.1, C.2.2.2.2.1, hts⟩ hM ⟨cw, hts _ hi, trivial⟩ ⟨x_Pc_blind, x_Pc_at C X (As.map (x_c al))⟩ rfl (by rw [List.length_map]; exact hn) hl0.1 rfl (lv_room (by rw [x_cs_cat]; exact hst)) hdg ⟨hcc, hzz⟩) ?_
  intro al1 H1 locs1 x1 X1 wr
  have := kk al1 H1 locs1 ls x1 X1 (by rw [x_ql_ext x1 w1]; exact hl0) (w1.mono hm1) (x_wfs_a.mpr ⟨wr, wb.mono hm1⟩)
  rw [x_opt_map, x_cs_ext x1 wb] at this
  exact this
/-- invokespecial of a constructor -/
theorem xi_callI {E : Nat × (Nat → Int32)} {d m pc idx i0 m1 bb : Nat} {ps : List Nat} {lv : List (Nat × Value)} {As rest : List Value} {S S1 S' : xS} {r : Option Value} (hdg : decode (x_mB m) pc = .ok (.invokespecial idx, 3)) (hf : x_cl (x_mo m) idx = some (i0, 2, m1, ps)) (ho : x_mo m < 20) (hn : As.length = x_mN m1) (hst : (rest.map fun v => v.category).sum ≤ 8)
    (hc : x_Call E d m1 (.ref bb :: As) S none S1) (h : x_Rw E (d + 1) m (pc + 3) lv rest S1 r S') : x_Rw E (d + 1) m pc lv (As.reverse ++ .ref bb :: rest) S r S' := by
  obtain ⟨f1, f2, -, f4⟩ := x_cl_ok hf ho
  dsimp only at f2
  subst f2
  obtain ⟨n1, n2⟩ := f4 (Or.inl rfl)
  dsimp only at n1 n2
  have hl : Cond.methodLink (x_o (x_mo m)) i0 (x_mY m1) ∈ x_tbl := f1 _ (by simp [x_cc])
  have hi : Cond.instanceMethod (x_mY m1) ∈ x_tbl := f1 _ (by simp [x_cc])
  obtain ⟨k1, k2, k3, k4, k5, k6, k7, k8, k9⟩ := x_mk_spec hc.1
  obtain ⟨hm1, hm2, hm3⟩ := hc.2.1
  refine x_stepC h ⟨hm1, hm2, hm3⟩ ?_
  intro l p e R s mid args below meth c A D cs q al H locs ls cells slots Q C X hl0 w1 w2 hcc hzz kk
  obtain ⟨wa, wb⟩ := x_wfs_a.mp w2
  have wargs : x_wfs (x_n S) (.ref bb :: As) := x_wfs_c.mpr ⟨(x_wfs_c.mp wb).1, x_wfs_r.mp wa⟩
  have hM := hc.2.2 l D cs q al H.size C.1 X.2.2.2.2 wargs X.2.2.2.1
  have hts := C.2.2.2.2.2.2.1
  have hrm := x_room (S := S) (S1 := S1) (m := m1) C.2.2.2.2.2.2.2.2.2.1 C.2.2.2.2.2.2.2.2.2.2.1 k7
  have cw := cwI (R := R) (own := x_o (x_mo m)) (index := i0) (y := x_mY m1) (bytes := x_mB m1) (maxL := x_mL m1) (rm := x_rm d S S1) (mc := x_k S1 - x_k S) (ms := x_z S1 - x_z S) (x_mN m1) hts (x_ws_good hc.1) (ws' := x_tbl) (by unfold x_ws x_mc; rw [n2]) rfl rfl (hts _ k2) (hts _ hl) (hts _ hi) n1 ⟨k4, k5, k6⟩ hrm
  rw [x_map_st]
  refine x_cont C X (va_runI (As := As.map (x_c al)) (rest := rest.map (x_c al)) ⟨C.2.1, C.2.2.1, C.2.2.2.1, C.2.2.2.2.1, hts⟩ hM cw ⟨x_Pc_blind, x_Pc_at C X ((Value.ref bb :: As).map (x_c al))⟩ rfl (by rw [List.length_map]; exact hn) hl0.1 rfl (lv_room (by rw [x_cs_cat]; exact hst)) hdg ⟨hcc, hzz⟩) ?_
  intro al1 H1 locs1 x1 X1 wr
  have := kk al1 H1 locs1 ls x1 X1 (by rw [x_ql_ext x1 w1]; exact hl0) (w1.mono hm1) ((xw1 wb).mono hm1)
  rw [x_cs_ext x1 (xw1 wb)] at this
  exact this
theorem xi_callIN {E : Nat × (Nat → Int32)} {d m pc idx i0 m1 bb : Nat} {ps : List Nat} {lv : List (Nat × Value)} {As rest : List Value} {S S1 S' : xS} {r : Option Value} (hdg : decode (x_mB m) pc = .ok (.invokespecial idx, 3)) (hf : x_cl (x_mo m) idx = some (i0, 3, m1, ps)) (ho : x_mo m < 20) (hn : As.length = x_mN m1) (hst : (rest.map fun v => v.category).sum ≤ 8)
    (hc : x_Call E d m1 (.ref bb :: As) S none S1) (h : x_Rw E (d + 1) m (pc + 3) lv rest S1 r S') : x_Rw E (d + 1) m pc lv (As.reverse ++ .ref bb :: rest) S r S' := by
  obtain ⟨f1, f2, f3, f4⟩ := x_cl_ok hf ho
  dsimp only at f2
  subst f2
  obtain ⟨n1, n2⟩ := f4 (Or.inr rfl)
  dsimp only at n1 n2
  have hnl := f3 (Or.inl rfl)
  dsimp only at hnl
  have hi : Cond.instanceMethod (x_mY m1) ∈ x_tbl := f1 _ (by simp [x_cc])
  obtain ⟨k1, k2, k3, k4, k5, k6, k7, k8, k9⟩ := x_mk_spec hc.1
  obtain ⟨hm1, hm2, hm3⟩ := hc.2.1
  refine x_stepC h ⟨hm1, hm2, hm3⟩ ?_
  intro l p e R s mid args below meth c A D cs q al H locs ls cells slots Q C X hl0 w1 w2 hcc hzz kk
  obtain ⟨wa, wb⟩ := x_wfs_a.mp w2
  have wargs : x_wfs (x_n S) (.ref bb :: As) := x_wfs_c.mpr ⟨(x_wfs_c.mp wb).1, x_wfs_r.mp wa⟩
  have hM := hc.2.2 l D cs q al H.size C.1 X.2.2.2.2 wargs X.2.2.2.1
  have hts := C.2.2.2.2.2.2.1
  have hnw : va_Nw (x_nc (x_mo m, i0, m1)) s := C.2.2.2.2.2.2.2.2.2.2.2.2.2.2.1 _ hnl
  have hrm := x_room (S := S) (S1 := S1) (m := m1) C.2.2.2.2.2.2.2.2.2.1 C.2.2.2.2.2.2.2.2.2.2.1 k7
  have cw := va_cnB (R := R) (own := x_o (x_mo m)) (host := "ScrawlHouse") (index := i0) (y := x_mY m1) (bytes := x_mB m1) (maxL := x_mL m1) (ret := none) (rm := x_rm d S S1) (mc := x_k S1 - x_k S) (ms := x_z S1 - x_z S) (x_mN m1) hts (x_ws_good hc.1) (ws' := x_tbl) (by unfold x_ws x_mc; rw [n2]) rfl rfl hnw (hts _ k2) ⟨k4, k5, k6⟩ hrm
  rw [x_map_st]
  refine x_cont C X (va_runIN (As := As.map (x_c al)) (rest := rest.map (x_c al)) ⟨C.2.1, C.2.2.1, C.2.2.2.1, C.2.2.2.2.1, hts⟩ hM ⟨cw, n1, hts _ hi⟩ ⟨x_Pc_blind, x_Pc_at C X ((Value.ref bb :: As).map (x_c al))⟩ rfl (by rw [List.length_map]; exact hn) hl0.1 rfl (lv_room (by rw [x_cs_cat]; exact hst)) hdg ⟨hcc, hzz⟩) ?_
  intro al1 H1 locs1 x1 X1 wr
  have := kk al1 H1 locs1 ls x1 X1 (by rw [x_ql_ext x1 w1]; exact hl0) (w1.mono hm1) ((xw1 wb).mono hm1)
  rw [x_cs_ext x1 (xw1 wb)] at this
  exact this
/-- Object's own constructor -/
theorem xi_obj {E : Nat × (Nat → Int32)} {d m pc idx i0 bb m1 : Nat} {ps : List Nat} {lv : List (Nat × Value)} {rest : List Value} {S S' : xS} {r : Option Value} (hdg : decode (x_mB m) pc = .ok (.invokespecial idx, 3)) (hf : x_cl (x_mo m) idx = some (i0, 4, m1, ps)) (ho : x_mo m < 20) (hst : (rest.map fun v => v.category).sum ≤ 8) (h : x_Rw E (d + 1) m (pc + 3) lv rest S r S') : x_Rw E (d + 1) m pc lv (.ref bb :: rest) S r S' := by
  obtain ⟨f1, f2, -, -⟩ := x_cl_ok hf ho
  dsimp only at f2
  subst f2
  have hl : Cond.methodLink (x_o (x_mo m)) i0 x_oi ∈ x_tbl := f1 _ (by simp [x_cc])
  have hi : Cond.instanceMethod x_oi ∈ x_tbl := f1 _ (by simp [x_cc])
  have hc : Cond.code x_oi ⟨#[0xb1]⟩ 1 none ∈ x_tbl := f1 _ (by simp [x_cc])
  refine x_step h (fun w1 w2 => ⟨w1, xw1 w2⟩) (fun l p e R s mid args below meth c A D cs q al H locs ls cells slots Q C X hl0 k => ?_)
  have hts := C.2.2.2.2.2.2.1
  have hlo := C.2.2.2.2.2.2.2.2.2.2.1
  refine W.objInit C.2.1 C.2.2.1 C.2.2.2.2.1 (hts _ hl) (hts _ hi) (hts _ hc) rfl (hl0.1.trans C.2.2.2.1.symm) rfl hdg (Nat.le_trans (by omega) C.2.2.2.2.2.2.2.2.2.1) ?_ (k ls hl0)
  have e1 := x_cs_cat al rest
  rw [e1]
  show 2 * 0 + _ + 12 ≤ _
  omega

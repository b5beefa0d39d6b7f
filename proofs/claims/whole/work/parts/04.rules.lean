theorem xw1 {n : Nat} {a : Value} {st : List Value} (h : x_wfs n (a :: st)) : x_wfs n st := (x_wfs_c.mp h).2
theorem xw2 {n : Nat} {a b : Value} {st : List Value} (h : x_wfs n (a :: b :: st)) : x_wfs n st := xw1 (xw1 h)
theorem xw3 {n : Nat} {a b c : Value} {st : List Value} (h : x_wfs n (a :: b :: c :: st)) : x_wfs n st := xw1 (xw2 h)
theorem xwi {n : Nat} {x : Int32} {st : List Value} (h : x_wfs n st) : x_wfs n (.int x :: st) := x_wfs_c.mpr ⟨trivial, h⟩
theorem xwl {n : Nat} {x : Int64} {st : List Value} (h : x_wfs n st) : x_wfs n (.long x :: st) := x_wfs_c.mpr ⟨trivial, h⟩
theorem xwr {n : Nat} {x : Nat} {st : List Value} (hx : x_vr n x) (h : x_wfs n st) : x_wfs n (.ref x :: st) := x_wfs_c.mpr ⟨hx, h⟩
def x_lk : List (Nat × Value) → Nat → Option Value
  | [], _ => none
  | q :: t, i => if q.1 = i then some q.2 else x_lk t i
theorem x_lk_mem : ∀ {lv : List (Nat × Value)} {i : Nat} {v : Value}, x_lk lv i = some v → (i, v) ∈ lv
  | [], _, _, h => by simp [x_lk] at h
  | q :: t, i, v, h => by
    unfold x_lk at h
    by_cases e : q.1 = i
    · rw [if_pos e] at h
      cases h
      subst e
      exact List.mem_cons_self
    · rw [if_neg e] at h
      exact List.mem_cons_of_mem _ (x_lk_mem h)
theorem x_lk_at {ls : Array Slot} {nL : Nat} {al : Nat → Nat} {lv : List (Nat × Value)} {i : Nat} {v : Value} (hl : lv_has ls nL (lv.map (x_q al))) (h : x_lk lv i = some v) : ls[i]? = some (.val (x_c al v)) := hl.2.2 (i, x_c al v) (List.mem_map.mpr ⟨(i, v), x_lk_mem h, rfl⟩)
def x_p1 (i : Nat) (q : Nat × Value) : Bool := !(q.1 == i) && !(q.1 + 1 == i && q.2.category == 2)
def x_p2 (i : Nat) (q : Nat × Value) : Bool := !(q.1 == i) && (!(q.1 == i + 1) && !(q.1 + 1 == i && q.2.category == 2))
def x_s1 (lv : List (Nat × Value)) (i : Nat) (v : Value) : List (Nat × Value) := (i, v) :: lv.filter (x_p1 i)
def x_s2 (lv : List (Nat × Value)) (i : Nat) (v : Value) : List (Nat × Value) := (i, v) :: lv.filter (x_p2 i)
theorem x_s1_map (al : Nat → Nat) (lv : List (Nat × Value)) (i : Nat) (v : Value) : (i, x_c al v) :: (lv.map (x_q al)).filter (fun q => !(q.1 == i) && !(q.1 + 1 == i && q.2.category == 2)) = (x_s1 lv i v).map (x_q al) := by
  unfold x_s1
  rw [List.map_cons, List.filter_map]
  have e : ((fun q : Nat × Value => !(q.1 == i) && !(q.1 + 1 == i && q.2.category == 2)) ∘ x_q al) = x_p1 i := by
    funext q
    simp only [Function.comp, x_q, x_c_cat, x_p1]
  rw [e]
theorem x_s2_map (al : Nat → Nat) (lv : List (Nat × Value)) (i : Nat) (v : Value) : (i, x_c al v) :: (lv.map (x_q al)).filter (fun q => !(q.1 == i) && (!(q.1 == i + 1) && !(q.1 + 1 == i && q.2.category == 2))) = (x_s2 lv i v).map (x_q al) := by
  unfold x_s2
  rw [List.map_cons, List.filter_map]
  have e : ((fun q : Nat × Value => !(q.1 == i) && (!(q.1 == i + 1) && !(q.1 + 1 == i && q.2.category == 2))) ∘ x_q al) = x_p2 i := by
    funext q
    simp only [Function.comp, x_q, x_c_cat, x_p2]
  rw [e]
theorem x_s1_wf {n : Nat} {lv : List (Nat × Value)} {i : Nat} {v : Value} (h : x_wfl n lv) (hv : x_vv n v) : x_wfl n (x_s1 lv i v) := fun q hq => by
  rcases List.mem_cons.mp hq with rfl | hq
  · exact hv
  · exact h q (List.mem_filter.mp hq).1
theorem x_s2_wf {n : Nat} {lv : List (Nat × Value)} {i : Nat} {v : Value} (h : x_wfl n lv) (hv : x_vv n v) : x_wfl n (x_s2 lv i v) := fun q hq => by
  rcases List.mem_cons.mp hq with rfl | hq
  · exact hv
  · exact h q (List.mem_filter.mp hq).1
theorem xi_iconst {E : Nat × (Nat → Int32)} {d m pc : Nat} {lv : List (Nat × Value)} {st : List Value} {S S' : xS} {r : Option Value} {n : Int} {v : Int32} (hdg : decode (x_mB m) pc = .ok (.iconst n, 1)) (hv : Int32.ofInt n = v) (h : x_Rw E d m (pc + 1) lv (.int v :: st) S r S') : x_Rw E d m pc lv (st) S r S' :=
  x_step h (fun w1 w2 => ⟨w1, xwi w2⟩) (fun l p e R s mid args below meth c A D cs q al H locs ls cells slots Q C X hl k => lv_iconst C.2.1 C.2.2.1 hdg hv (k ls hl))
theorem xi_bipush {E : Nat × (Nat → Int32)} {d m pc : Nat} {lv : List (Nat × Value)} {st : List Value} {S S' : xS} {r : Option Value} {n : Int} {v : Int32} (hdg : decode (x_mB m) pc = .ok (.bipush n, 2)) (hv : (Int8.ofInt n).toInt32 = v) (h : x_Rw E d m (pc + 2) lv (.int v :: st) S r S') : x_Rw E d m pc lv (st) S r S' :=
  x_step h (fun w1 w2 => ⟨w1, xwi w2⟩) (fun l p e R s mid args below meth c A D cs q al H locs ls cells slots Q C X hl k => lv_bipush C.2.1 C.2.2.1 hdg hv (k ls hl))
theorem xi_sipush {E : Nat × (Nat → Int32)} {d m pc : Nat} {lv : List (Nat × Value)} {st : List Value} {S S' : xS} {r : Option Value} {n : Int} {v : Int32} (hdg : decode (x_mB m) pc = .ok (.sipush n, 3)) (hv : (Int16.ofInt n).toInt32 = v) (h : x_Rw E d m (pc + 3) lv (.int v :: st) S r S') : x_Rw E d m pc lv (st) S r S' :=
  x_step h (fun w1 w2 => ⟨w1, xwi w2⟩) (fun l p e R s mid args below meth c A D cs q al H locs ls cells slots Q C X hl k => lv_sipush C.2.1 C.2.2.1 hdg hv (k ls hl))
theorem xi_lconst {E : Nat × (Nat → Int32)} {d m pc : Nat} {lv : List (Nat × Value)} {st : List Value} {S S' : xS} {r : Option Value} {n : Fin 2} {v : Int64} (hdg : decode (x_mB m) pc = .ok (.lconst n, 1)) (hv : Int64.ofNat (n : Nat) = v) (h : x_Rw E d m (pc + 1) lv (.long v :: st) S r S') : x_Rw E d m pc lv (st) S r S' :=
  x_step h (fun w1 w2 => ⟨w1, xwl w2⟩) (fun l p e R s mid args below meth c A D cs q al H locs ls cells slots Q C X hl k => lv_lconst C.2.1 C.2.2.1 hdg hv (k ls hl))
theorem xi_ldc {E : Nat × (Nat → Int32)} {d m pc : Nat} {lv : List (Nat × Value)} {st : List Value} {S S' : xS} {r : Option Value} {n : Nat} {v : Int32} (hdg : decode (x_mB m) pc = .ok (.ldc n, 2)) (hv : Cond.constant (x_o (x_mo m)) n v ∈ x_tbl) (h : x_Rw E d m (pc + 2) lv (.int v :: st) S r S') : x_Rw E d m pc lv (st) S r S' :=
  x_step h (fun w1 w2 => ⟨w1, xwi w2⟩) (fun l p e R s mid args below meth c A D cs q al H locs ls cells slots Q C X hl k => lv_ldc C.2.1 C.2.2.1 C.2.2.2.2.1 (C.2.2.2.2.2.2.1 _ hv) hdg (k ls hl))
theorem xi_ldcw {E : Nat × (Nat → Int32)} {d m pc : Nat} {lv : List (Nat × Value)} {st : List Value} {S S' : xS} {r : Option Value} {n : Nat} {v : Int32} (hdg : decode (x_mB m) pc = .ok (.ldc_w n, 3)) (hv : Cond.constant (x_o (x_mo m)) n v ∈ x_tbl) (h : x_Rw E d m (pc + 3) lv (.int v :: st) S r S') : x_Rw E d m pc lv (st) S r S' :=
  x_step h (fun w1 w2 => ⟨w1, xwi w2⟩) (fun l p e R s mid args below meth c A D cs q al H locs ls cells slots Q C X hl k => lv_ldcw C.2.1 C.2.2.1 C.2.2.2.2.1 (C.2.2.2.2.2.2.1 _ hv) hdg (k ls hl))
theorem xi_ldc2 {E : Nat × (Nat → Int32)} {d m pc : Nat} {lv : List (Nat × Value)} {st : List Value} {S S' : xS} {r : Option Value} {n : Nat} {v : Int64} (hdg : decode (x_mB m) pc = .ok (.ldc2_w n, 3)) (hv : Cond.constantLong (x_o (x_mo m)) n v ∈ x_tbl) (h : x_Rw E d m (pc + 3) lv (.long v :: st) S r S') : x_Rw E d m pc lv (st) S r S' :=
  x_step h (fun w1 w2 => ⟨w1, xwl w2⟩) (fun l p e R s mid args below meth c A D cs q al H locs ls cells slots Q C X hl k => lv_ldc2 C.2.1 C.2.2.1 C.2.2.2.2.1 (C.2.2.2.2.2.2.1 _ hv) hdg (k ls hl))
theorem xi_iload {E : Nat × (Nat → Int32)} {d m pc : Nat} {lv : List (Nat × Value)} {st : List Value} {S S' : xS} {r : Option Value} {i : Nat} {x : Int32} (hdg : decode (x_mB m) pc = .ok (.iload i, 2)) (hk : x_lk lv i = some (.int x)) (h : x_Rw E d m (pc + 2) lv (.int x :: st) S r S') : x_Rw E d m pc lv (st) S r S' :=
  x_step h (fun w1 w2 => ⟨w1, xwi w2⟩) (fun l p e R s mid args below meth c A D cs q al H locs ls cells slots Q C X hl k => lv_iload C.2.1 C.2.2.1 hdg (x_lk_at hl hk) (k ls hl))
theorem xi_iload_n {E : Nat × (Nat → Int32)} {d m pc : Nat} {lv : List (Nat × Value)} {st : List Value} {S S' : xS} {r : Option Value} {i : Fin 4} {x : Int32} (hdg : decode (x_mB m) pc = .ok (.iload_n i, 1)) (hk : x_lk lv (i : Nat) = some (.int x)) (h : x_Rw E d m (pc + 1) lv (.int x :: st) S r S') : x_Rw E d m pc lv (st) S r S' :=
  x_step h (fun w1 w2 => ⟨w1, xwi w2⟩) (fun l p e R s mid args below meth c A D cs q al H locs ls cells slots Q C X hl k => lv_iload_n C.2.1 C.2.2.1 hdg rfl (x_lk_at hl hk) (k ls hl))
theorem xi_lload {E : Nat × (Nat → Int32)} {d m pc : Nat} {lv : List (Nat × Value)} {st : List Value} {S S' : xS} {r : Option Value} {i : Nat} {x : Int64} (hdg : decode (x_mB m) pc = .ok (.lload i, 2)) (hk : x_lk lv i = some (.long x)) (h : x_Rw E d m (pc + 2) lv (.long x :: st) S r S') : x_Rw E d m pc lv (st) S r S' :=
  x_step h (fun w1 w2 => ⟨w1, xwl w2⟩) (fun l p e R s mid args below meth c A D cs q al H locs ls cells slots Q C X hl k => lv_lload C.2.1 C.2.2.1 hdg (x_lk_at hl hk) (k ls hl))
theorem xi_lload_n {E : Nat × (Nat → Int32)} {d m pc : Nat} {lv : List (Nat × Value)} {st : List Value} {S S' : xS} {r : Option Value} {i : Fin 4} {x : Int64} (hdg : decode (x_mB m) pc = .ok (.lload_n i, 1)) (hk : x_lk lv (i : Nat) = some (.long x)) (h : x_Rw E d m (pc + 1) lv (.long x :: st) S r S') : x_Rw E d m pc lv (st) S r S' :=
  x_step h (fun w1 w2 => ⟨w1, xwl w2⟩) (fun l p e R s mid args below meth c A D cs q al H locs ls cells slots Q C X hl k => lv_lload_n C.2.1 C.2.2.1 hdg rfl (x_lk_at hl hk) (k ls hl))
theorem xi_aload {E : Nat × (Nat → Int32)} {d m pc : Nat} {lv : List (Nat × Value)} {st : List Value} {S S' : xS} {r : Option Value} {i : Nat} {x : Nat} (hdg : decode (x_mB m) pc = .ok (.aload i, 2)) (hk : x_lk lv i = some (.ref x)) (h : x_Rw E d m (pc + 2) lv (.ref x :: st) S r S') : x_Rw E d m pc lv (st) S r S' :=
  x_step h (fun w1 w2 => ⟨w1, xwr (w1 _ (x_lk_mem hk)) w2⟩) (fun l p e R s mid args below meth c A D cs q al H locs ls cells slots Q C X hl k => lv_aload C.2.1 C.2.2.1 hdg (x_lk_at hl hk) (k ls hl))
theorem xi_aload_n {E : Nat × (Nat → Int32)} {d m pc : Nat} {lv : List (Nat × Value)} {st : List Value} {S S' : xS} {r : Option Value} {i : Fin 4} {x : Nat} (hdg : decode (x_mB m) pc = .ok (.aload_n i, 1)) (hk : x_lk lv (i : Nat) = some (.ref x)) (h : x_Rw E d m (pc + 1) lv (.ref x :: st) S r S') : x_Rw E d m pc lv (st) S r S' :=
  x_step h (fun w1 w2 => ⟨w1, xwr (w1 _ (x_lk_mem hk)) w2⟩) (fun l p e R s mid args below meth c A D cs q al H locs ls cells slots Q C X hl k => lv_aload_n C.2.1 C.2.2.1 hdg rfl (x_lk_at hl hk) (k ls hl))
theorem xi_istore {E : Nat × (Nat → Int32)} {d m pc : Nat} {lv : List (Nat × Value)} {st : List Value} {S S' : xS} {r : Option Value} {i : Nat} {x : Int32} (hdg : decode (x_mB m) pc = .ok (.istore i, 2)) (hn : i < x_mL m) (h : x_Rw E d m (pc + 2) (x_s1 lv i (.int x)) st S r S') : x_Rw E d m pc lv (.int x :: st) S r S' :=
  x_step h (fun w1 w2 => ⟨x_s1_wf w1 trivial, xw1 w2⟩) (fun l p e R s mid args below meth c A D cs q al H locs ls cells slots Q C X hl k => lv_istore C.2.1 C.2.2.1 hdg hl hn (x_s1_map al lv i (.int x)) k)
theorem xi_istore_n {E : Nat × (Nat → Int32)} {d m pc : Nat} {lv : List (Nat × Value)} {st : List Value} {S S' : xS} {r : Option Value} {i : Fin 4} {x : Int32} (hdg : decode (x_mB m) pc = .ok (.istore_n i, 1)) (hn : (i : Nat) < x_mL m) (h : x_Rw E d m (pc + 1) (x_s1 lv (i : Nat) (.int x)) st S r S') : x_Rw E d m pc lv (.int x :: st) S r S' :=
  x_step h (fun w1 w2 => ⟨x_s1_wf w1 trivial, xw1 w2⟩) (fun l p e R s mid args below meth c A D cs q al H locs ls cells slots Q C X hl k => lv_istore_n C.2.1 C.2.2.1 hdg rfl hl hn (x_s1_map al lv (i : Nat) (.int x)) k)
theorem xi_lstore {E : Nat × (Nat → Int32)} {d m pc : Nat} {lv : List (Nat × Value)} {st : List Value} {S S' : xS} {r : Option Value} {i : Nat} {x : Int64} (hdg : decode (x_mB m) pc = .ok (.lstore i, 2)) (hn : i + 1 < x_mL m) (h : x_Rw E d m (pc + 2) (x_s2 lv i (.long x)) st S r S') : x_Rw E d m pc lv (.long x :: st) S r S' :=
  x_step h (fun w1 w2 => ⟨x_s2_wf w1 trivial, xw1 w2⟩) (fun l p e R s mid args below meth c A D cs q al H locs ls cells slots Q C X hl k => lv_lstore C.2.1 C.2.2.1 hdg hl hn (x_s2_map al lv i (.long x)) k)
theorem xi_lstore_n {E : Nat × (Nat → Int32)} {d m pc : Nat} {lv : List (Nat × Value)} {st : List Value} {S S' : xS} {r : Option Value} {i : Fin 4} {x : Int64} (hdg : decode (x_mB m) pc = .ok (.lstore_n i, 1)) (hn : (i : Nat) + 1 < x_mL m) (h : x_Rw E d m (pc + 1) (x_s2 lv (i : Nat) (.long x)) st S r S') : x_Rw E d m pc lv (.long x :: st) S r S' :=
  x_step h (fun w1 w2 => ⟨x_s2_wf w1 trivial, xw1 w2⟩) (fun l p e R s mid args below meth c A D cs q al H locs ls cells slots Q C X hl k => lv_lstore_n C.2.1 C.2.2.1 hdg rfl hl hn (x_s2_map al lv (i : Nat) (.long x)) k)
theorem xi_astore {E : Nat × (Nat → Int32)} {d m pc : Nat} {lv : List (Nat × Value)} {st : List Value} {S S' : xS} {r : Option Value} {i : Nat} {x : Nat} (hdg : decode (x_mB m) pc = .ok (.astore i, 2)) (hn : i < x_mL m) (h : x_Rw E d m (pc + 2) (x_s1 lv i (.ref x)) st S r S') : x_Rw E d m pc lv (.ref x :: st) S r S' :=
  x_step h (fun w1 w2 => ⟨x_s1_wf w1 (x_wfs_c.mp w2).1, xw1 w2⟩) (fun l p e R s mid args below meth c A D cs q al H locs ls cells slots Q C X hl k => lv_astore C.2.1 C.2.2.1 hdg hl hn (x_s1_map al lv i (.ref x)) k)
theorem xi_astore_n {E : Nat × (Nat → Int32)} {d m pc : Nat} {lv : List (Nat × Value)} {st : List Value} {S S' : xS} {r : Option Value} {i : Fin 4} {x : Nat} (hdg : decode (x_mB m) pc = .ok (.astore_n i, 1)) (hn : (i : Nat) < x_mL m) (h : x_Rw E d m (pc + 1) (x_s1 lv (i : Nat) (.ref x)) st S r S') : x_Rw E d m pc lv (.ref x :: st) S r S' :=
  x_step h (fun w1 w2 => ⟨x_s1_wf w1 (x_wfs_c.mp w2).1, xw1 w2⟩) (fun l p e R s mid args below meth c A D cs q al H locs ls cells slots Q C X hl k => lv_astore_n C.2.1 C.2.2.1 hdg rfl hl hn (x_s1_map al lv (i : Nat) (.ref x)) k)
theorem xi_iinc {E : Nat × (Nat → Int32)} {d m pc : Nat} {lv : List (Nat × Value)} {st : List Value} {S S' : xS} {r : Option Value} {i : Nat} {n : Int} {x v : Int32} (hdg : decode (x_mB m) pc = .ok (.iinc i n, 3)) (hn : i < x_mL m) (hk : x_lk lv i = some (.int x)) (hv : Int32.ofInt n = v) (h : x_Rw E d m (pc + 3) (x_s1 lv i (.int (x + v))) st S r S') : x_Rw E d m pc lv st S r S' := by
  subst hv
  refine x_step h (fun w1 w2 => ⟨x_s1_wf w1 trivial, w2⟩) (fun l p e R s mid args below meth c A D cs q al H locs ls cells slots Q C X hl k => ?_)
  obtain ⟨j, hj⟩ := List.getElem?_of_mem (List.mem_map.mpr ⟨(i, Value.int x), x_lk_mem hk, rfl⟩ : (i, Value.int x) ∈ lv.map (x_q al))
  exact lv_iinc C.2.1 C.2.2.1 hdg hl hj rfl hn (x_s1_map al lv i (.int (x + Int32.ofInt n))) k
theorem xi_dup {E : Nat × (Nat → Int32)} {d m pc : Nat} {lv : List (Nat × Value)} {st : List Value} {S S' : xS} {r : Option Value} {v : Value} (hdg : decode (x_mB m) pc = .ok (.dup, 1)) (hv : v.category = 1) (h : x_Rw E d m (pc + 1) lv (v :: v :: st) S r S') : x_Rw E d m pc lv (v :: st) S r S' :=
  x_step h (fun w1 w2 => ⟨w1, x_wfs_c.mpr ⟨(x_wfs_c.mp w2).1, w2⟩⟩) (fun l p e R s mid args below meth c A D cs q al H locs ls cells slots Q C X hl k => lv_dup C.2.1 C.2.2.1 hdg ((x_c_cat al v).trans hv) (k ls hl))
theorem xi_pop {E : Nat × (Nat → Int32)} {d m pc : Nat} {lv : List (Nat × Value)} {st : List Value} {S S' : xS} {r : Option Value} {v : Value} (hdg : decode (x_mB m) pc = .ok (.pop, 1)) (hv : v.category = 1) (h : x_Rw E d m (pc + 1) lv (st) S r S') : x_Rw E d m pc lv (v :: st) S r S' :=
  x_step h (fun w1 w2 => ⟨w1, xw1 w2⟩) (fun l p e R s mid args below meth c A D cs q al H locs ls cells slots Q C X hl k => lv_pop C.2.1 C.2.2.1 hdg ((x_c_cat al v).trans hv) (k ls hl))
theorem xi_dup2 {E : Nat × (Nat → Int32)} {d m pc : Nat} {lv : List (Nat × Value)} {st : List Value} {S S' : xS} {r : Option Value} {v w : Value} (hdg : decode (x_mB m) pc = .ok (.dup2, 1)) (hv : v.category = 1) (hw : w.category = 1) (h : x_Rw E d m (pc + 1) lv (v :: w :: v :: w :: st) S r S') : x_Rw E d m pc lv (v :: w :: st) S r S' :=
  x_step h (fun w1 w2 => ⟨w1, x_wfs_c.mpr ⟨(x_wfs_c.mp w2).1, x_wfs_c.mpr ⟨(x_wfs_c.mp (x_wfs_c.mp w2).2).1, w2⟩⟩⟩) (fun l p e R s mid args below meth c A D cs q al H locs ls cells slots Q C X hl k => lv_dup2_11 C.2.1 C.2.2.1 hdg ((x_c_cat al v).trans hv) ((x_c_cat al w).trans hw) (k ls hl))
theorem xi_iadd {E : Nat × (Nat → Int32)} {d m pc : Nat} {lv : List (Nat × Value)} {st : List Value} {S S' : xS} {r : Option Value} {x y : Int32} (hdg : decode (x_mB m) pc = .ok (.iadd, 1))  (h : x_Rw E d m (pc + 1) lv (.int (x + y) :: st) S r S') : x_Rw E d m pc lv (.int y :: .int x :: st) S r S' :=
  x_step h (fun w1 w2 => ⟨w1, xwi (xw2 w2)⟩) (fun l p e R s mid args below meth c A D cs q al H locs ls cells slots Q C X hl k => lv_iadd C.2.1 C.2.2.1 hdg (k ls hl))
theorem xi_isub {E : Nat × (Nat → Int32)} {d m pc : Nat} {lv : List (Nat × Value)} {st : List Value} {S S' : xS} {r : Option Value} {x y : Int32} (hdg : decode (x_mB m) pc = .ok (.isub, 1))  (h : x_Rw E d m (pc + 1) lv (.int (x - y) :: st) S r S') : x_Rw E d m pc lv (.int y :: .int x :: st) S r S' :=
  x_step h (fun w1 w2 => ⟨w1, xwi (xw2 w2)⟩) (fun l p e R s mid args below meth c A D cs q al H locs ls cells slots Q C X hl k => lv_isub C.2.1 C.2.2.1 hdg (k ls hl))
theorem xi_imul {E : Nat × (Nat → Int32)} {d m pc : Nat} {lv : List (Nat × Value)} {st : List Value} {S S' : xS} {r : Option Value} {x y : Int32} (hdg : decode (x_mB m) pc = .ok (.imul, 1))  (h : x_Rw E d m (pc + 1) lv (.int (x * y) :: st) S r S') : x_Rw E d m pc lv (.int y :: .int x :: st) S r S' :=
  x_step h (fun w1 w2 => ⟨w1, xwi (xw2 w2)⟩) (fun l p e R s mid args below meth c A D cs q al H locs ls cells slots Q C X hl k => lv_imul C.2.1 C.2.2.1 hdg (k ls hl))
theorem xi_iand {E : Nat × (Nat → Int32)} {d m pc : Nat} {lv : List (Nat × Value)} {st : List Value} {S S' : xS} {r : Option Value} {x y : Int32} (hdg : decode (x_mB m) pc = .ok (.iand, 1))  (h : x_Rw E d m (pc + 1) lv (.int (x &&& y) :: st) S r S') : x_Rw E d m pc lv (.int y :: .int x :: st) S r S' :=
  x_step h (fun w1 w2 => ⟨w1, xwi (xw2 w2)⟩) (fun l p e R s mid args below meth c A D cs q al H locs ls cells slots Q C X hl k => lv_iand C.2.1 C.2.2.1 hdg (k ls hl))
theorem xi_ior {E : Nat × (Nat → Int32)} {d m pc : Nat} {lv : List (Nat × Value)} {st : List Value} {S S' : xS} {r : Option Value} {x y : Int32} (hdg : decode (x_mB m) pc = .ok (.ior, 1))  (h : x_Rw E d m (pc + 1) lv (.int (x ||| y) :: st) S r S') : x_Rw E d m pc lv (.int y :: .int x :: st) S r S' :=
  x_step h (fun w1 w2 => ⟨w1, xwi (xw2 w2)⟩) (fun l p e R s mid args below meth c A D cs q al H locs ls cells slots Q C X hl k => lv_ior C.2.1 C.2.2.1 hdg (k ls hl))
theorem xi_ixor {E : Nat × (Nat → Int32)} {d m pc : Nat} {lv : List (Nat × Value)} {st : List Value} {S S' : xS} {r : Option Value} {x y : Int32} (hdg : decode (x_mB m) pc = .ok (.ixor, 1))  (h : x_Rw E d m (pc + 1) lv (.int (x ^^^ y) :: st) S r S') : x_Rw E d m pc lv (.int y :: .int x :: st) S r S' :=
  x_step h (fun w1 w2 => ⟨w1, xwi (xw2 w2)⟩) (fun l p e R s mid args below meth c A D cs q al H locs ls cells slots Q C X hl k => lv_ixor C.2.1 C.2.2.1 hdg (k ls hl))
theorem xi_ishl {E : Nat × (Nat → Int32)} {d m pc : Nat} {lv : List (Nat × Value)} {st : List Value} {S S' : xS} {r : Option Value} {x y : Int32} (hdg : decode (x_mB m) pc = .ok (.ishl, 1))  (h : x_Rw E d m (pc + 1) lv (.int (x <<< (y &&& 31)) :: st) S r S') : x_Rw E d m pc lv (.int y :: .int x :: st) S r S' :=
  x_step h (fun w1 w2 => ⟨w1, xwi (xw2 w2)⟩) (fun l p e R s mid args below meth c A D cs q al H locs ls cells slots Q C X hl k => lv_ishl C.2.1 C.2.2.1 hdg (k ls hl))
theorem xi_ishr {E : Nat × (Nat → Int32)} {d m pc : Nat} {lv : List (Nat × Value)} {st : List Value} {S S' : xS} {r : Option Value} {x y : Int32} (hdg : decode (x_mB m) pc = .ok (.ishr, 1))  (h : x_Rw E d m (pc + 1) lv (.int (x >>> (y &&& 31)) :: st) S r S') : x_Rw E d m pc lv (.int y :: .int x :: st) S r S' :=
  x_step h (fun w1 w2 => ⟨w1, xwi (xw2 w2)⟩) (fun l p e R s mid args below meth c A D cs q al H locs ls cells slots Q C X hl k => lv_ishr C.2.1 C.2.2.1 hdg (k ls hl))
theorem xi_iushr {E : Nat × (Nat → Int32)} {d m pc : Nat} {lv : List (Nat × Value)} {st : List Value} {S S' : xS} {r : Option Value} {x y : Int32} (hdg : decode (x_mB m) pc = .ok (.iushr, 1))  (h : x_Rw E d m (pc + 1) lv (.int ((x.toUInt32 >>> (y.toUInt32 &&& Int32.toUInt32 31)).toInt32) :: st) S r S') : x_Rw E d m pc lv (.int y :: .int x :: st) S r S' :=
  x_step h (fun w1 w2 => ⟨w1, xwi (xw2 w2)⟩) (fun l p e R s mid args below meth c A D cs q al H locs ls cells slots Q C X hl k => lv_iushr C.2.1 C.2.2.1 hdg rfl (k ls hl))
theorem xi_ladd {E : Nat × (Nat → Int32)} {d m pc : Nat} {lv : List (Nat × Value)} {st : List Value} {S S' : xS} {r : Option Value} {x y : Int64} (hdg : decode (x_mB m) pc = .ok (.ladd, 1))  (h : x_Rw E d m (pc + 1) lv (.long (x + y) :: st) S r S') : x_Rw E d m pc lv (.long y :: .long x :: st) S r S' :=
  x_step h (fun w1 w2 => ⟨w1, xwl (xw2 w2)⟩) (fun l p e R s mid args below meth c A D cs q al H locs ls cells slots Q C X hl k => lv_ladd C.2.1 C.2.2.1 hdg (k ls hl))
theorem xi_lsub {E : Nat × (Nat → Int32)} {d m pc : Nat} {lv : List (Nat × Value)} {st : List Value} {S S' : xS} {r : Option Value} {x y : Int64} (hdg : decode (x_mB m) pc = .ok (.lsub, 1))  (h : x_Rw E d m (pc + 1) lv (.long (x - y) :: st) S r S') : x_Rw E d m pc lv (.long y :: .long x :: st) S r S' :=
  x_step h (fun w1 w2 => ⟨w1, xwl (xw2 w2)⟩) (fun l p e R s mid args below meth c A D cs q al H locs ls cells slots Q C X hl k => lv_lsub C.2.1 C.2.2.1 hdg (k ls hl))
theorem xi_lmul {E : Nat × (Nat → Int32)} {d m pc : Nat} {lv : List (Nat × Value)} {st : List Value} {S S' : xS} {r : Option Value} {x y : Int64} (hdg : decode (x_mB m) pc = .ok (.lmul, 1))  (h : x_Rw E d m (pc + 1) lv (.long (x * y) :: st) S r S') : x_Rw E d m pc lv (.long y :: .long x :: st) S r S' :=
  x_step h (fun w1 w2 => ⟨w1, xwl (xw2 w2)⟩) (fun l p e R s mid args below meth c A D cs q al H locs ls cells slots Q C X hl k => lv_lmul C.2.1 C.2.2.1 hdg (k ls hl))
theorem xi_land {E : Nat × (Nat → Int32)} {d m pc : Nat} {lv : List (Nat × Value)} {st : List Value} {S S' : xS} {r : Option Value} {x y : Int64} (hdg : decode (x_mB m) pc = .ok (.land, 1))  (h : x_Rw E d m (pc + 1) lv (.long (x &&& y) :: st) S r S') : x_Rw E d m pc lv (.long y :: .long x :: st) S r S' :=
  x_step h (fun w1 w2 => ⟨w1, xwl (xw2 w2)⟩) (fun l p e R s mid args below meth c A D cs q al H locs ls cells slots Q C X hl k => lv_land C.2.1 C.2.2.1 hdg (k ls hl))
theorem xi_lor {E : Nat × (Nat → Int32)} {d m pc : Nat} {lv : List (Nat × Value)} {st : List Value} {S S' : xS} {r : Option Value} {x y : Int64} (hdg : decode (x_mB m) pc = .ok (.lor, 1))  (h : x_Rw E d m (pc + 1) lv (.long (x ||| y) :: st) S r S') : x_Rw E d m pc lv (.long y :: .long x :: st) S r S' :=
  x_step h (fun w1 w2 => ⟨w1, xwl (xw2 w2)⟩) (fun l p e R s mid args below meth c A D cs q al H locs ls cells slots Q C X hl k => lv_lor C.2.1 C.2.2.1 hdg (k ls hl))
theorem xi_lushr {E : Nat × (Nat → Int32)} {d m pc : Nat} {lv : List (Nat × Value)} {st : List Value} {S S' : xS} {r : Option Value} {x : Int64} {y : Int32} (hdg : decode (x_mB m) pc = .ok (.lushr, 1))  (h : x_Rw E d m (pc + 1) lv (.long ((x.toUInt64 >>> (y.toInt64.toUInt64 &&& Int64.toUInt64 63)).toInt64) :: st) S r S') : x_Rw E d m pc lv (.int y :: .long x :: st) S r S' :=
  x_step h (fun w1 w2 => ⟨w1, xwl (xw2 w2)⟩) (fun l p e R s mid args below meth c A D cs q al H locs ls cells slots Q C X hl k => lv_lushr C.2.1 C.2.2.1 hdg rfl (k ls hl))
theorem xi_lshl {E : Nat × (Nat → Int32)} {d m pc : Nat} {lv : List (Nat × Value)} {st : List Value} {S S' : xS} {r : Option Value} {x : Int64} {y : Int32} (hdg : decode (x_mB m) pc = .ok (.lshl, 1))  (h : x_Rw E d m (pc + 1) lv (.long (x <<< (y.toInt64 &&& 63)) :: st) S r S') : x_Rw E d m pc lv (.int y :: .long x :: st) S r S' :=
  x_step h (fun w1 w2 => ⟨w1, xwl (xw2 w2)⟩) (fun l p e R s mid args below meth c A D cs q al H locs ls cells slots Q C X hl k => lv_lshl C.2.1 C.2.2.1 hdg rfl (k ls hl))
theorem xi_i2l {E : Nat × (Nat → Int32)} {d m pc : Nat} {lv : List (Nat × Value)} {st : List Value} {S S' : xS} {r : Option Value} {x : Int32} (hdg : decode (x_mB m) pc = .ok (.i2l, 1))  (h : x_Rw E d m (pc + 1) lv (.long x.toInt64 :: st) S r S') : x_Rw E d m pc lv (.int x :: st) S r S' :=
  x_step h (fun w1 w2 => ⟨w1, xwl (xw1 w2)⟩) (fun l p e R s mid args below meth c A D cs q al H locs ls cells slots Q C X hl k => lv_i2l C.2.1 C.2.2.1 hdg rfl (k ls hl))
theorem xi_lcmp {E : Nat × (Nat → Int32)} {d m pc : Nat} {lv : List (Nat × Value)} {st : List Value} {S S' : xS} {r : Option Value} {x y : Int64} (hdg : decode (x_mB m) pc = .ok (.lcmp, 1))  (h : x_Rw E d m (pc + 1) lv (.int (lg_cmp x y) :: st) S r S') : x_Rw E d m pc lv (.long y :: .long x :: st) S r S' :=
  x_step h (fun w1 w2 => ⟨w1, xwi (xw2 w2)⟩) (fun l p e R s mid args below meth c A D cs q al H locs ls cells slots Q C X hl k => W.lcmp C.2.1 C.2.2.1 hdg (k ls hl))

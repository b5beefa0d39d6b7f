/-! The abstract state: int fields, long fields, reference fields, int (and boolean) arrays, long arrays, lengths, kinds, how many cells; cells and slots made so far -/
abbrev xS : Type := (Nat → Nat → Int32) × (Nat → Nat → Int64) × (Nat → Nat → Option Nat) × (Nat → Nat → Int32) × (Nat → Nat → Int64) × (Nat → Nat) × (Nat → Nat) × Nat × Nat × Nat
abbrev x_I (S : xS) : Nat → Nat → Int32 := S.1
abbrev x_L (S : xS) : Nat → Nat → Int64 := S.2.1
abbrev x_P (S : xS) : Nat → Nat → Option Nat := S.2.2.1
abbrev x_A (S : xS) : Nat → Nat → Int32 := S.2.2.2.1
abbrev x_B (S : xS) : Nat → Nat → Int64 := S.2.2.2.2.1
abbrev x_N (S : xS) : Nat → Nat := S.2.2.2.2.2.1
abbrev x_K (S : xS) : Nat → Nat := S.2.2.2.2.2.2.1
abbrev x_n (S : xS) : Nat := S.2.2.2.2.2.2.2.1
abbrev x_k (S : xS) : Nat := S.2.2.2.2.2.2.2.2.1
abbrev x_z (S : xS) : Nat := S.2.2.2.2.2.2.2.2.2
def xu1 {α : Type} (f : Nat → α) (i : Nat) (v : α) : Nat → α := fun a => if a = i then v else f a
def xu2 {α : Type} (f : Nat → Nat → α) (i k : Nat) (v : α) : Nat → Nat → α := fun a b => if a = i then (if b = k then v else f a b) else f a b
theorem xu1_s {α : Type} (f : Nat → α) (i : Nat) (v : α) : xu1 f i v i = v := by simp [xu1]
theorem xu1_n {α : Type} (f : Nat → α) {i j : Nat} (v : α) (h : j ≠ i) : xu1 f i v j = f j := by simp [xu1, h]
theorem xu2_s {α : Type} (f : Nat → Nat → α) (i k : Nat) (v : α) : xu2 f i k v i k = v := by simp [xu2]
theorem xu2_n {α : Type} (f : Nat → Nat → α) {i k a b : Nat} (v : α) (h : ¬ (a = i ∧ b = k)) : xu2 f i k v a b = f a b := by
  unfold xu2
  by_cases h1 : a = i
  · by_cases h2 : b = k
    · exact absurd ⟨h1, h2⟩ h
    · simp [h1, h2]
  · simp [h1]
abbrev x_ext0 : Nat := 1000000
def x_c (al : Nat → Nat) : Value → Value
  | .ref i => .ref (al i)
  | v => v
def x_fv (al : Nat → Nat) (S : xS) (i k t : Nat) : Value := if t = 1 then .long (x_L S i k) else if t = 2 then va_rf ((x_P S i k).map al) else .int (x_I S i k)
def x_fs (al : Nat → Nat) (S : xS) (i c : Nat) : List Value := (List.range (x_nf c)).map (fun k => x_fv al S i k (x_tc c k))
def x_cell (cs : ClassId × ClassId × ClassId) (al : Nat → Nat) (S : xS) (i : Nat) : va_E :=
  if x_K S i < 100 then .inr (x_K S i, x_fs al S i (x_K S i)) else if x_K S i = 100 then .inl (cs.1, x_N S i, .inl (x_A S i)) else if x_K S i = 101 then .inl (cs.2.1, x_N S i, .inl (x_A S i)) else .inl (cs.2.2, x_N S i, .inr (.inl (x_B S i)))
def x_w (cs : ClassId × ClassId × ClassId) (al : Nat → Nat) (S : xS) : va_W := (List.range (x_n S)).map (fun i => (al i, x_cell cs al S i))
abbrev x_tys (cs : ClassId × ClassId × ClassId) : List (ClassId × FieldType) := [(cs.1, .int), (cs.2.1, .boolean), (cs.2.2, .long)]
theorem x_w_get {cs : ClassId × ClassId × ClassId} {al : Nat → Nat} {S : xS} {i : Nat} (h : i < x_n S) : (x_w cs al S)[i]? = some (al i, x_cell cs al S i) := by simp [x_w, h]
theorem x_rset {α : Type} {N k : Nat} {f g : Nat → α} {v : α} (h : g k = v) (h2 : ∀ j, j ≠ k → g j = f j) : ((List.range N).map f).set k v = (List.range N).map g := by
  apply List.ext_getElem?
  intro j
  by_cases hj : j < N
  · by_cases e : k = j
    · subst e
      simp [hj, h]
    · rw [List.getElem?_set_ne e]
      simp [hj, h2 j (fun q => e q.symm)]
  · simp [hj]
theorem x_w_set {cs : ClassId × ClassId × ClassId} {al : Nat → Nat} {S S' : xS} {i : Nat} {e : va_E} (hn : x_n S' = x_n S) (he : x_cell cs al S' i = e) (h2 : ∀ j, j ≠ i → x_cell cs al S' j = x_cell cs al S j) : (x_w cs al S).set i (al i, e) = x_w cs al S' := by
  unfold x_w
  rw [hn]
  exact x_rset (by rw [he]) (fun j hj => by rw [h2 j hj])
theorem x_w_len {cs : ClassId × ClassId × ClassId} {al : Nat → Nat} {S : xS} : (x_w cs al S).length = x_n S := by simp [x_w]
/-- valid references -/
def x_vr (n r : Nat) : Prop := r < n ∨ x_ext0 ≤ r
def x_vv (n : Nat) : Value → Prop
  | .ref r => x_vr n r
  | _ => True
def x_wf (S : xS) : Prop := x_n S ≤ x_ext0 ∧ (∀ j, x_K S j < 200 → j < x_n S) ∧ ∀ i k r, x_P S i k = some r → x_vr (x_n S) r
def x_wfs (n : Nat) (st : List Value) : Prop := ∀ v ∈ st, x_vv n v
def x_wfl (n : Nat) (lv : List (Nat × Value)) : Prop := ∀ q ∈ lv, x_vv n q.2
def x_ext (al al' : Nat → Nat) (n : Nat) : Prop := ∀ r, x_vr n r → al' r = al r
theorem x_vr.mono {n n' r : Nat} (h : x_vr n r) (hn : n ≤ n') : x_vr n' r := h.elim (fun h => Or.inl (by omega)) Or.inr
theorem x_vv.mono {n n' : Nat} {v : Value} (h : x_vv n v) (hn : n ≤ n') : x_vv n' v := by
  cases v <;> first | exact trivial | exact x_vr.mono h hn
theorem x_wfs.mono {n n' : Nat} {st : List Value} (h : x_wfs n st) (hn : n ≤ n') : x_wfs n' st := fun v hv => (h v hv).mono hn
theorem x_wfl.mono {n n' : Nat} {lv : List (Nat × Value)} (h : x_wfl n lv) (hn : n ≤ n') : x_wfl n' lv := fun v hv => (h v hv).mono hn
theorem x_ext.rf {al : Nat → Nat} {n : Nat} : x_ext al al n := fun _ _ => rfl
theorem x_ext.tr {a b c : Nat → Nat} {n m : Nat} (h : x_ext a b n) (h2 : x_ext b c m) (hn : n ≤ m) : x_ext a c n := fun r hr => (h2 r (hr.mono hn)).trans (h r hr)
theorem x_c_ext {al al' : Nat → Nat} {n : Nat} (h : x_ext al al' n) {v : Value} (hv : x_vv n v) : x_c al' v = x_c al v := by
  cases v <;> first | rfl | exact congrArg Value.ref (h _ hv)
theorem x_cs_ext {al al' : Nat → Nat} {n : Nat} (h : x_ext al al' n) : ∀ {st : List Value}, x_wfs n st → st.map (x_c al') = st.map (x_c al)
  | [], _ => rfl
  | v :: st, hs => by
    rw [List.map_cons, List.map_cons, x_c_ext h (hs v List.mem_cons_self), x_cs_ext h (fun w hw => hs w (List.mem_cons_of_mem _ hw))]
abbrev x_q (al : Nat → Nat) (q : Nat × Value) : Nat × Value := (q.1, x_c al q.2)
theorem x_ql_ext {al al' : Nat → Nat} {n : Nat} (h : x_ext al al' n) : ∀ {lv : List (Nat × Value)}, x_wfl n lv → lv.map (x_q al') = lv.map (x_q al)
  | [], _ => rfl
  | v :: st, hs => by
    rw [List.map_cons, List.map_cons, x_ql_ext h (fun w hw => hs w (List.mem_cons_of_mem _ hw))]
    simp only [x_q, x_c_ext h (hs v List.mem_cons_self)]
theorem x_c_cat (al : Nat → Nat) (v : Value) : (x_c al v).category = v.category := by cases v <;> rfl
theorem x_cs_cat (al : Nat → Nat) (st : List Value) : ((st.map (x_c al)).map fun v => v.category) = st.map fun v => v.category := by
  rw [List.map_map]
  exact List.map_congr_left (fun v _ => x_c_cat al v)
theorem x_wfs_c {n : Nat} {v : Value} {st : List Value} : x_wfs n (v :: st) ↔ x_vv n v ∧ x_wfs n st := by simp [x_wfs]
theorem x_wfs_a {n : Nat} {a b : List Value} : x_wfs n (a ++ b) ↔ x_wfs n a ∧ x_wfs n b := by
  simp only [x_wfs, List.mem_append]
  exact ⟨fun h => ⟨fun v hv => h v (Or.inl hv), fun v hv => h v (Or.inr hv)⟩, fun h v hv => hv.elim (h.1 v) (h.2 v)⟩
theorem x_wfs_r {n : Nat} {a : List Value} : x_wfs n a.reverse ↔ x_wfs n a := by simp [x_wfs]
theorem x_wfs_n {n : Nat} : x_wfs n [] := fun v hv => absurd hv List.not_mem_nil
/-! what lies outside: the script, String constants, nest links, statics -/
def x_lens : List Nat := [4, 5, 6, 5, 5]
def x_byts : List (List Int32) := [[110, 97, 109, 101], [116, 114, 97, 100, 101], [111, 102, 102, 105, 99, 101], [116, 104, 105, 110, 103], [111, 116, 104, 101, 114]]
def x_stx : List (Nat × String) := [(98, "name"), (100, "trade"), (102, "office"), (104, "thing"), (106, "other")]
abbrev xQ : Type := Nat × (Nat → Nat) × (Nat → Nat) × Nat
/-- the cells outside: the script 0, String constants 1 to 5 -/
def x_qa (q : xQ) (i : Nat) : Nat := if i = 0 then q.1 else q.2.1 (i - 1)
def x_xt (al : Nat → Nat) (q : xQ) : Prop := ∀ i, i < 6 → al (x_ext0 + i) = x_qa q i
def x_Ex (E : Nat × (Nat → Int32)) (q : xQ) (A : Nat → Prop) (U : State) : Prop :=
  (va_X q.1 E.1 E.2 U U.heap ∧ q.1 < U.heap.size ∧ ¬ A q.1) ∧ vk_S 5 x_lens x_byts q.2.1 q.2.2.1 A U U.heap ∧ (∀ i, i < 5 → vk_R "ScrawlHouse$PatternText" (x_stx.getD i (0, "")).1 (x_stx.getD i (0, "")).2 (q.2.1 i) U) ∧ (∀ r ∈ x_NL, va_Nw (x_nc r) U) ∧
  vx_Zq "java/lang/Throwable" "UNASSIGNED_STACK" "[Ljava/lang/StackTraceElement;" A U U.heap ∧ vx_Zq "java/lang/Throwable" "SUPPRESSED_SENTINEL" "Ljava/util/List;" A U U.heap ∧ vk_R "ScrawlHouse" 195 "OUT has no such byte" q.2.2.2 U ∧
  va_Z "java/lang/String" "COMPACT_STRINGS" "Z" (.int 1) A U U.heap ∧ vx_Zq "jdk/internal/util/Preconditions" "SIOOBE_FORMATTER" "Ljava/util/function/BiFunction;" A U U.heap
theorem x_Ex.move {E : Nat × (Nat → Int32)} {q : xQ} {A B : Nat → Prop} {s U : State} {locs : List Loc} (h : x_Ex E q A s) (hS : va_S A s.heap U.heap locs) (hW : s.WarmedH U.vm) (hAB : ∀ q, B q → A q) : x_Ex E q B U := by
  obtain ⟨⟨a1, a2, a3⟩, h2, h3, h4, h5, h6, h7, h8, h9⟩ := h
  have hvm := hW.alike
  exact ⟨⟨(a1.kept (hS.2.1 _ a2 a3)).moved hvm, Nat.lt_of_lt_of_le a2 hS.1, fun z => a3 (hAB _ z)⟩, (vk_S.moved hvm (h2.kept hS.2.1)).narrow hAB, fun i hi => (h3 i hi).warm hW, fun r hr => va_Nw.warmM hW (h4 r hr),
    (vx_Zq.moved hvm (h5.kept hS.2.1)).narrow hAB, (vx_Zq.moved hvm (h6.kept hS.2.1)).narrow hAB, h7.warm hW, (va_Z.moved hvm (h8.kept hS.2.1)).narrow hAB, (vx_Zq.moved hvm (h9.kept hS.2.1)).narrow hAB⟩
/-! contexts -/
def x_Ctx (E : Nat × (Nat → Int32)) (d m : Nat) (l : Launch) (p : Program) (R : Room) (s : State) (mid : MethodId) (args : Array Value) (meth : Method) (c : Code) (A : Nat → Prop) (D : va_G) (cs : ClassId × ClassId × ClassId) (q : xQ) : Prop :=
  l.stackTraces = false ∧ p.tables.exec = Jvm.exec ∧ c.code = x_mB m ∧ c.maxLocals = x_mL m ∧ s.vm.findClass (x_o (x_mo m)) = some mid.cls ∧ meth.name = (x_mY m).name ∧ (∀ w ∈ x_tbl, w.before args s = true) ∧ va_K D vwCl (x_tys cs) s ∧ (∀ q, s.heap.size ≤ q → A q) ∧ d ≤ R.frames ∧ 50 * d ≤ R.locals ∧ x_Ex E q A s
def x_Hp (s : State) (A : Nat → Prop) (D : va_G) (cs : ClassId × ClassId × ClassId) (q : xQ) (al : Nat → Nat) (S : xS) (H : Heap) (locs : List Loc) : Prop :=
  va_P D vwCl (x_w cs al S) H ∧ va_D A (x_w cs al S) ∧ va_S A s.heap H locs ∧ x_xt al q ∧ x_wf S
/-- the return that ends a method with r -/
def x_rp (m pc : Nat) (r : Option Value) : Prop := match r with
  | none => decode (x_mB m) pc = .ok (.return_, 1) ∧ x_mR m = none
  | some (.int x) => decode (x_mB m) pc = .ok (.ireturn, 1) ∧ ∃ ty, x_mR m = some ty ∧ narrow ty (.int x) = .int x
  | some (.long _) => decode (x_mB m) pc = .ok (.lreturn, 1) ∧ x_mR m = some .long
  | some (.ref _) => decode (x_mB m) pc = .ok (.areturn, 1) ∧ ∃ n, x_mR m = some (.object n)
  | _ => False
/-- from pc, with these locals and this stack, in state S, method m comes to its return with r, in state S' -/
def x_Rw (E : Nat × (Nat → Int32)) (d m pc : Nat) (lv : List (Nat × Value)) (st : List Value) (S : xS) (r : Option Value) (S' : xS) : Prop :=
  (x_n S ≤ x_n S' ∧ x_k S ≤ x_k S' ∧ x_z S ≤ x_z S') ∧
  ∀ (l : Launch) (p : Program) (e : Env) (R : Room) (s : State) (mid : MethodId) (args : Array Value) (below : List Frame) (meth : Method) (c : Code) (A : Nat → Prop) (D : va_G) (cs : ClassId × ClassId × ClassId) (q : xQ) (al : Nat → Nat) (H : Heap) (locs : List Loc) (ls : Array Slot) (cells slots : Nat) (Q : State → Prop),
    x_Ctx E d m l p R s mid args meth c A D cs q → x_Hp s A D cs q al S H locs → lv_has ls (x_mL m) (lv.map (x_q al)) → x_wfl (x_n S) lv → x_wfs (x_n S) st →
    cells + (x_k S' - x_k S) ≤ R.cells → slots + (x_z S' - x_z S) ≤ R.slots →
    (∀ (al' : Nat → Nat) (H' : Heap) (locs' : List Loc) (ls' : Array Slot) (pc' : Nat), x_ext al al' (x_n S) → x_Hp s A D cs q al' S' H' locs' → x_wfs (x_n S') r.toList → x_rp m pc' r →
      W p l e R s mid args below meth c H' locs' (cells + (x_k S' - x_k S)) (slots + (x_z S' - x_z S)) Q (F0 mid pc' ls' (r.toList.map (x_c al')))) →
    W p l e R s mid args below meth c H locs cells slots Q (F0 mid pc ls (st.map (x_c al)))
/-- a pure step: the state stays -/
theorem x_step {E : Nat × (Nat → Int32)} {d m pc pc1 : Nat} {lv lv1 : List (Nat × Value)} {st st1 : List Value} {S S' : xS} {r : Option Value} (h : x_Rw E d m pc1 lv1 st1 S r S')
    (hw : x_wfl (x_n S) lv → x_wfs (x_n S) st → x_wfl (x_n S) lv1 ∧ x_wfs (x_n S) st1)
    (hs : ∀ (l : Launch) (p : Program) (e : Env) (R : Room) (s : State) (mid : MethodId) (args : Array Value) (below : List Frame) (meth : Method) (c : Code) (A : Nat → Prop) (D : va_G) (cs : ClassId × ClassId × ClassId) (q : xQ) (al : Nat → Nat) (H : Heap) (locs : List Loc) (ls : Array Slot) (cells slots : Nat) (Q : State → Prop),
      x_Ctx E d m l p R s mid args meth c A D cs q → x_Hp s A D cs q al S H locs → lv_has ls (x_mL m) (lv.map (x_q al)) →
      (∀ ls1, lv_has ls1 (x_mL m) (lv1.map (x_q al)) → W p l e R s mid args below meth c H locs cells slots Q (F0 mid pc1 ls1 (st1.map (x_c al)))) →
      W p l e R s mid args below meth c H locs cells slots Q (F0 mid pc ls (st.map (x_c al)))) : x_Rw E d m pc lv st S r S' := by
  refine ⟨h.1, ?_⟩
  intro l p e R s mid args below meth c A D cs q al H locs ls cells slots Q C X hl w1 w2 hc hz kk
  obtain ⟨v1, v2⟩ := hw w1 w2
  exact hs l p e R s mid args below meth c A D cs q al H locs ls cells slots Q C X hl (fun ls1 hl1 => h.2 l p e R s mid args below meth c A D cs q al H locs ls1 cells slots Q C X hl1 v1 v2 hc hz kk)
/-- fewer locals -/
theorem x_sub {E : Nat × (Nat → Int32)} {d m pc : Nat} {lv lv1 : List (Nat × Value)} {st : List Value} {S S' : xS} {r : Option Value} (ks : List Nat) (hk : lv_pick lv ks = lv1) (h : x_Rw E d m pc lv1 st S r S') : x_Rw E d m pc lv st S r S' := by
  have hm : ∀ q ∈ lv1, q ∈ lv := by
    intro q hq
    rw [← hk] at hq
    obtain ⟨k, -, h2⟩ := List.mem_filterMap.mp hq
    exact List.mem_of_getElem? h2
  refine x_step h (fun w1 w2 => ⟨fun q hq => w1 q (hm q hq), w2⟩) ?_
  intro l p e R s mid args below meth c A D cs q al H locs ls cells slots Q C X hl k
  refine k ls ⟨hl.1, hl.2.1, fun q hq => ?_⟩
  obtain ⟨q', h1, rfl⟩ := List.mem_map.mp hq
  exact hl.2.2 _ (List.mem_map.mpr ⟨q', hm q' h1, rfl⟩)
/-- a step that changes the state -/
theorem x_stepS {E : Nat × (Nat → Int32)} {d m pc pc1 : Nat} {lv lv1 : List (Nat × Value)} {st st1 : List Value} {S S1 S' : xS} {r : Option Value} (h : x_Rw E d m pc1 lv1 st1 S1 r S') (hm : x_n S ≤ x_n S1 ∧ x_k S ≤ x_k S1 ∧ x_z S ≤ x_z S1)
    (hw : x_wfl (x_n S) lv → x_wfs (x_n S) st → x_wfl (x_n S1) lv1 ∧ x_wfs (x_n S1) st1)
    (hs : ∀ (l : Launch) (p : Program) (e : Env) (R : Room) (s : State) (mid : MethodId) (args : Array Value) (below : List Frame) (meth : Method) (c : Code) (A : Nat → Prop) (D : va_G) (cs : ClassId × ClassId × ClassId) (q : xQ) (al : Nat → Nat) (H : Heap) (locs : List Loc) (ls : Array Slot) (cells slots : Nat) (Q : State → Prop),
      x_Ctx E d m l p R s mid args meth c A D cs q → x_Hp s A D cs q al S H locs → lv_has ls (x_mL m) (lv.map (x_q al)) → x_wfl (x_n S) lv → x_wfs (x_n S) st → cells + (x_k S1 - x_k S) ≤ R.cells → slots + (x_z S1 - x_z S) ≤ R.slots →
      (∀ (al1 : Nat → Nat) (H1 : Heap) (locs1 : List Loc) (ls1 : Array Slot), x_ext al al1 (x_n S) → x_Hp s A D cs q al1 S1 H1 locs1 → lv_has ls1 (x_mL m) (lv1.map (x_q al1)) → W p l e R s mid args below meth c H1 locs1 (cells + (x_k S1 - x_k S)) (slots + (x_z S1 - x_z S)) Q (F0 mid pc1 ls1 (st1.map (x_c al1)))) →
      W p l e R s mid args below meth c H locs cells slots Q (F0 mid pc ls (st.map (x_c al)))) : x_Rw E d m pc lv st S r S' := by
  obtain ⟨⟨m1, m2, m3⟩, h2⟩ := h
  obtain ⟨n1, n2, n3⟩ := hm
  refine ⟨⟨by omega, by omega, by omega⟩, ?_⟩
  intro l p e R s mid args below meth c A D cs q al H locs ls cells slots Q C X hl w1 w2 hc hz kk
  obtain ⟨v1, v2⟩ := hw w1 w2
  have e1 : cells + (x_k S1 - x_k S) + (x_k S' - x_k S1) = cells + (x_k S' - x_k S) := by omega
  have e2 : slots + (x_z S1 - x_z S) + (x_z S' - x_z S1) = slots + (x_z S' - x_z S) := by omega
  refine hs l p e R s mid args below meth c A D cs q al H locs ls cells slots Q C X hl w1 w2 (by omega) (by omega) (fun al1 H1 locs1 ls1 x1 X1 hl1 => ?_)
  refine h2 l p e R s mid args below meth c A D cs q al1 H1 locs1 ls1 _ _ Q C X1 hl1 v1 v2 (by omega) (by omega) (fun al2 H2 locs2 ls2 pc2 x2 X2 w3 hr => ?_)
  rw [e1, e2]
  exact kk al2 H2 locs2 ls2 pc2 (x1.tr x2 n1) X2 w3 hr

/-! String constants: length() and charAt() of the JDK, by hand over the machine -/
theorem x_Ex_call {E : Nat × (Nat → Int32)} {q : xQ} {A : Nat → Prop} {U : State} {g : JFrame} {mk : MethodId} {a : Array Value} (h : x_Ex E q A U) : x_Ex E q A (U.calling g mk a) := by
  obtain ⟨⟨b1, b2, b3⟩, c2, c3, c4, c5, c6, c7, c8, c9⟩ := h
  have hvm : U.vm.Alike (U.calling g mk a).vm := Vm.Alike.refl U.vm
  exact ⟨⟨b1.moved hvm, b2, b3⟩, vk_S.moved hvm c2, fun i hi => (c3 i hi).same rfl, fun r hr => (c4 r hr).same rfl rfl, vx_Zq.moved hvm c5, vx_Zq.moved hvm c6, c7.same rfl, va_Z.moved hvm c8, vx_Zq.moved hvm c9⟩
def x_pQ (r : Option Value) : Array Value → State → Outcome → State → Prop := fun _ st oc t => oc = .returned r ∧ t.heap = st.heap
def x_pr (d : Nat) : Room := { frames := d, cells := 0, slots := 0, locals := 50 * d }
/-- a method that only reads what lies outside -/
def x_PM (E : Nat × (Nat → Int32)) (l : Launch) (d m : Nat) (q : xQ) (A : Nat → Prop) (args : List Value) (r : Option Value) : Prop := Met l (x_mY m) (x_ws m) (x_pr d) (va_Pc args (x_Ex E q A)) (x_pQ r) 0 0 (fun _ => False)
theorem x_pblind {E : Nat × (Nat → Int32)} {q : xQ} {A : Nat → Prop} {vs : List Value} : FrameBlind (va_Pc vs (x_Ex E q A)) := fun _ _ _ _ h => ⟨h.1, x_Ex_call h.2⟩
theorem x_pcont {p : Program} {l : Launch} {e : Env} {R : Room} {s : State} {m : MethodId} {args : Array Value} {below : List Frame} {meth : Method} {c : Code} {H : Heap} {locs : List Loc} {cells slots pc : Nat} {Q : State → Prop} {ls : Array Slot} {st0 rest : List Value} {r : Option Value} {a : Array Value}
    (hr : va_Run p l e R s m args below meth c H locs cells slots 0 0 (F0 m pc ls st0) rest (x_pQ r a) (fun _ => False)) (kk : W p l e R s m args below meth c H locs cells slots Q (F0 m (pc + 3) ls (r.toList ++ rest))) : W p l e R s m args below meth c H locs cells slots Q (F0 m pc ls st0) := by
  intro T hT X
  obtain ⟨v, st₀, t, T', L, h0, X', hL, e1, e2, ⟨hv, hh⟩, go⟩ := hr T hT X
  cases Outcome.returned.inj hv
  have hLn : L = [] := by
    cases L with
    | nil => rfl
    | cons z L => exact (hL z List.mem_cons_self).elim
  subst hLn
  rw [List.append_nil] at X'
  obtain ⟨tt, a1, b1⟩ := kk T' (by rw [e1, hh, h0]) X'
  exact ⟨tt, go tt a1, b1⟩
theorem x_prm {m d : Nat} {R : Room} (h1 : d + 1 ≤ R.frames) (h2 : 50 * (d + 1) ≤ R.locals) (h3 : x_mL m ≤ 31) : (x_pr d).frames + 1 ≤ R.frames ∧ 8 + (x_mL m + 11) + (x_pr d).locals ≤ R.locals := by
  unfold x_pr
  dsimp only
  exact ⟨h1, by omega⟩
/-- a static reader called -/
theorem x_pS {E : Nat × (Nat → Int32)} {p : Program} {l : Launch} {e : Env} {R : Room} {s : State} {m : MethodId} {args : Array Value} {below : List Frame} {meth : Method} {c : Code} {H : Heap} {locs : List Loc} {cells slots pc d o idx i0 m1 nL : Nat} {ps : List Nat} {Q : State → Prop} {ls : Array Slot} {As rest : List Value} {r : Option Value} {q : xQ} {A : Nat → Prop} {cc : ByteArray}
    (hx : p.tables.exec = Jvm.exec) (hb : c.code = cc) (hml : c.maxLocals = nL) (hown : s.vm.findClass (x_o o) = some m.cls) (hts : ∀ w ∈ x_tbl, w.before args s = true) (hE : x_Ex E q A s) (hS : va_S A s.heap H locs) (hfr : d + 1 ≤ R.frames) (hlo : 50 * (d + 1) ≤ R.locals) (hce : cells ≤ R.cells) (hsl : slots ≤ R.slots) (hsz : ls.size = nL)
    (hok : x_mOK m1) (hf : x_cl o idx = some (i0, 1, m1, ps)) (ho : o < 20) (hn : As.length = x_mN m1) (hst : (rest.map fun v => v.category).sum ≤ 8) (hdg : decode cc pc = .ok (.invokestatic idx, 3)) (hM : x_PM E l d m1 q A As r)
    (kk : W p l e R s m args below meth c H locs cells slots Q (F0 m (pc + 3) ls (r.toList ++ rest))) : W p l e R s m args below meth c H locs cells slots Q (F0 m pc ls (As.reverse ++ rest)) := by
  obtain ⟨f1, f2, -, -⟩ := x_cl_ok hf ho
  dsimp only at f2
  subst f2
  have hl : Cond.methodLink (x_o o) i0 (x_mY m1) ∈ x_tbl := f1 _ (by simp [x_cc])
  have hi : Cond.static (x_mY m1) ∈ x_tbl := f1 _ (by simp [x_cc])
  obtain ⟨k1, k2, k3, k4, k5, k6, k7, k8, k9⟩ := x_mk_spec hok
  have cw : CallB R s args (x_o o) i0 (x_mY m1) (x_mB m1) (x_mL m1) (x_mR m1) (x_ws m1) (x_pr d) 0 0 (x_mN m1) ∧ (Cond.static (x_mY m1)).before args s = true :=
    ⟨callB_of (x_mN m1) hts (x_ws_good hok) rfl rfl rfl (hts _ k2) (hts _ hl) ⟨k4, k5, k6⟩ (x_prm hfr hlo k7), hts _ hi⟩
  exact x_pcont (va_runS (As := As) (rest := rest) ⟨hx, hb, hml, hown, hts⟩ hM cw ⟨x_pblind, fun U hU hW => ⟨rfl, hE.move (locs := locs) (by rw [hU]; exact hS) hW (fun _ h => h)⟩⟩ rfl hn hsz rfl (lv_room hst) hdg ⟨hce, hsl⟩) kk
/-- a reader of a String constant called -/
theorem x_pV {E : Nat × (Nat → Int32)} {p : Program} {l : Launch} {e : Env} {R : Room} {s : State} {m : MethodId} {args : Array Value} {below : List Frame} {meth : Method} {c : Code} {H : Heap} {locs : List Loc} {cells slots pc d o idx i0 m1 nL i : Nat} {ps : List Nat} {Q : State → Prop} {ls : Array Slot} {As rest : List Value} {r : Option Value} {q : xQ} {A : Nat → Prop} {cc : ByteArray}
    (hx : p.tables.exec = Jvm.exec) (hb : c.code = cc) (hml : c.maxLocals = nL) (hown : s.vm.findClass (x_o o) = some m.cls) (hts : ∀ w ∈ x_tbl, w.before args s = true) (hE : x_Ex E q A s) (hS : va_S A s.heap H locs) (hfr : d + 1 ≤ R.frames) (hlo : 50 * (d + 1) ≤ R.locals) (hce : cells ≤ R.cells) (hsl : slots ≤ R.slots) (hsz : ls.size = nL)
    (hok : x_mOK m1) (hf : x_cl o idx = some (i0, 0, m1, ps)) (ho : o < 20) (hn : As.length = x_mN m1) (hst : (rest.map fun v => v.category).sum ≤ 8) (hdg : decode cc pc = .ok (.invokevirtual idx, 3)) (hi5 : i < 5) (hcls : (x_mY m1).cls = "java/lang/String") (hM : x_PM E l d m1 q A (.ref (q.2.1 i) :: As) r)
    (kk : W p l e R s m args below meth c H locs cells slots Q (F0 m (pc + 3) ls (r.toList ++ rest))) : W p l e R s m args below meth c H locs cells slots Q (F0 m pc ls (As.reverse ++ .ref (q.2.1 i) :: rest)) := by
  obtain ⟨f1, f2, -, -⟩ := x_cl_ok hf ho
  dsimp only at f2
  subst f2
  have hl : Cond.methodLink (x_o o) i0 (x_mY m1) ∈ x_tbl := f1 _ (by simp [x_cc])
  have hi : Cond.instanceMethod (x_mY m1) ∈ x_tbl := f1 _ (by simp [x_cc])
  have hs : Cond.selects (x_mY m1).cls (x_mY m1) (x_mY m1) ∈ x_tbl := f1 _ (by simp [x_cc])
  obtain ⟨k1, k2, k3, k4, k5, k6, k7, k8, k9⟩ := x_mk_spec hok
  have cw : CallW R s args (x_o o) (x_mY m1).cls i0 (x_mY m1) (x_mB m1) (x_mL m1) (x_mR m1) (x_ws m1) (x_pr d) 0 0 (x_mN m1) :=
    ⟨callB_of (x_mN m1) hts (x_ws_good hok) rfl rfl rfl (hts _ k2) (hts _ hl) ⟨k4, k5, k6⟩ (x_prm hfr hlo k7), hts _ hi, hts _ hs⟩
  exact x_pcont (va_runV (As := As) (rest := rest) ⟨hx, hb, hml, hown, hts⟩ hM cw ⟨x_pblind, by rw [hcls]; exact vk_recv hE.2.1 hi5 hS, fun U hU hW => ⟨rfl, hE.move (locs := locs) (by rw [hU]; exact hS) hW (fun _ h => h)⟩⟩ rfl hn hsz rfl (lv_room hst) hdg ⟨hce, hsl⟩) kk
theorem ok_232 : x_mOK 232 := ⟨x_tm3 (List.mem_of_getElem? (i := 186) rfl) rfl, 116, by decide +kernel⟩
theorem ok_233 : x_mOK 233 := ⟨x_tm3 (List.mem_of_getElem? (i := 196) rfl) rfl, 116, by decide +kernel⟩
theorem ok_234 : x_mOK 234 := ⟨x_tm3 (List.mem_of_getElem? (i := 190) rfl) rfl, 116, by decide +kernel⟩
theorem ok_235 : x_mOK 235 := ⟨x_tm3 (List.mem_of_getElem? (i := 200) rfl) rfl, 116, by decide +kernel⟩
theorem ok_236 : x_mOK 236 := ⟨x_tm3 (List.mem_of_getElem? (i := 206) rfl) rfl, 116, by decide +kernel⟩
theorem ok_237 : x_mOK 237 := ⟨x_tm3 (List.mem_of_getElem? (i := 203) rfl) rfl, 117, by decide +kernel⟩
theorem ok_238 : x_mOK 238 := ⟨x_tm3 (List.mem_of_getElem? (i := 211) rfl) rfl, 118, by decide +kernel⟩
theorem x_lkZ : Cond.fieldLink (x_o 17) 38 "java/lang/String" "COMPACT_STRINGS" "Z" ∈ x_tbl := x_at_mem (p := 771) (by decide +kernel)
theorem x_lkV : Cond.fieldLink (x_o 17) 9 "java/lang/String" "value" "[B" ∈ x_tbl := x_at_mem (p := 1927) (by decide +kernel)
theorem x_lkC : Cond.fieldLink (x_o 17) 15 "java/lang/String" "coder" "B" ∈ x_tbl := x_at_mem (p := 1928) (by decide +kernel)
theorem x_lkF : Cond.fieldLink (x_o 17) 1053 "jdk/internal/util/Preconditions" "SIOOBE_FORMATTER" "Ljava/util/function/BiFunction;" ∈ x_tbl := x_at_mem (p := 787) (by decide +kernel)
theorem x_coder {E : Nat × (Nat → Int32)} (l : Launch) (d : Nat) (q : xQ) (A : Nat → Prop) {i : Nat} (hi : i < 5) : x_PM E l d 234 q A [.ref (q.2.1 i)] (some (.int 0)) := by
  obtain ⟨k1, k2, k3, k4, k5, k6, k7, k8, k9⟩ := x_mk_spec ok_234
  refine Met.ofW (cc := x_mB 234) (maxL := 1) (ret := some .byte) k3 rfl ?_
  intro p e s mid args' below meth c s₁ B hml hv
  obtain ⟨rfl, hE⟩ := hv
  have hx := B.exec
  have hb := B.bytes
  have hr := B.returns
  have hlocks := B.notSynchronized
  have hts0 := atoms_spec (ws := x_ws 234) B.pre
  have hts : ∀ w ∈ x_tbl, w.before _ s = true := fun w hw => hts0 w (List.mem_cons_of_mem _ hw)
  have hown : s.vm.findClass (x_mY 234).cls = some mid.cls := findClass_of_methodNamed B.named
  rw [k8] at hown
  rw [lg_entry_eq]
  have hl := lv_entry [.ref (q.2.1 i)] (n := 1) (Nat.le_of_ble_eq_true rfl)
  generalize (lg_sl [.ref (q.2.1 i)] ++ List.replicate (1 - (lg_sl [.ref (q.2.1 i)]).length) Slot.unset).toArray = ls at hl ⊢
  refine va_gets hx hb hE.2.2.2.2.2.2.2.1 va_S.rf hown (hts _ x_lkZ) (fun _ h => h) (by decide +kernel : decode (x_mB 234) 0 = .ok (.getstatic 38, 3)) ?_
  refine lv_if_eq (tgt := 13) hx hb (by decide +kernel : decode (x_mB 234) 3 = .ok (.ifCond .eq 10, 3)) (by decide) (fun h => absurd h (by decide)) (fun _ => ?_)
  refine lv_aload_n hx hb (by decide +kernel : decode (x_mB 234) 6 = .ok (.aload_n 0, 1)) rfl (lv_at hl 0 rfl) ?_
  refine vk_getf hx hb ((hE.2.1.1 i hi).2.1) va_S.rf hown (hts _ x_lkC) (fun _ h => h) (by decide +kernel : decode (x_mB 234) 7 = .ok (.getfield 15, 3)) ?_
  refine lv_goto (tgt := 14) hx hb (by decide +kernel : decode (x_mB 234) 10 = .ok (.goto 4, 3)) (by decide) ?_
  exact W.zret hx hb hr rfl (fun t ht _ => ⟨rfl, ht⟩) (fun z hz => absurd hz List.not_mem_nil) (by decide +kernel : decode (x_mB 234) 14 = .ok (.ireturn, 1)) hlocks
theorem x_isLatin1 {E : Nat × (Nat → Int32)} (l : Launch) (d : Nat) (q : xQ) (A : Nat → Prop) {i : Nat} (hi : i < 5) : x_PM E l d 235 q A [.ref (q.2.1 i)] (some (.int 1)) := by
  obtain ⟨k1, k2, k3, k4, k5, k6, k7, k8, k9⟩ := x_mk_spec ok_235
  refine Met.ofW (cc := x_mB 235) (maxL := 1) (ret := some .boolean) k3 rfl ?_
  intro p e s mid args' below meth c s₁ B hml hv
  obtain ⟨rfl, hE⟩ := hv
  have hx := B.exec
  have hb := B.bytes
  have hr := B.returns
  have hlocks := B.notSynchronized
  have hts0 := atoms_spec (ws := x_ws 235) B.pre
  have hts : ∀ w ∈ x_tbl, w.before _ s = true := fun w hw => hts0 w (List.mem_cons_of_mem _ hw)
  have hown : s.vm.findClass (x_mY 235).cls = some mid.cls := findClass_of_methodNamed B.named
  rw [k8] at hown
  rw [lg_entry_eq]
  have hl := lv_entry [.ref (q.2.1 i)] (n := 1) (Nat.le_of_ble_eq_true rfl)
  generalize (lg_sl [.ref (q.2.1 i)] ++ List.replicate (1 - (lg_sl [.ref (q.2.1 i)]).length) Slot.unset).toArray = ls at hl ⊢
  refine va_gets hx hb hE.2.2.2.2.2.2.2.1 va_S.rf hown (hts _ x_lkZ) (fun _ h => h) (by decide +kernel : decode (x_mB 235) 0 = .ok (.getstatic 38, 3)) ?_
  refine lv_if_eq (tgt := 17) hx hb (by decide +kernel : decode (x_mB 235) 3 = .ok (.ifCond .eq 14, 3)) (by decide) (fun h => absurd h (by decide)) (fun _ => ?_)
  refine lv_aload_n hx hb (by decide +kernel : decode (x_mB 235) 6 = .ok (.aload_n 0, 1)) rfl (lv_at hl 0 rfl) ?_
  refine vk_getf hx hb ((hE.2.1.1 i hi).2.1) va_S.rf hown (hts _ x_lkC) (fun _ h => h) (by decide +kernel : decode (x_mB 235) 7 = .ok (.getfield 15, 3)) ?_
  refine lv_if_ne (tgt := 17) hx hb (by decide +kernel : decode (x_mB 235) 10 = .ok (.ifCond .ne 7, 3)) (by decide) (fun h => absurd rfl h) (fun _ => ?_)
  refine lv_iconst (v := 1) hx hb (by decide +kernel : decode (x_mB 235) 13 = .ok (.iconst 1, 1)) (by decide) ?_
  refine lv_goto (tgt := 18) hx hb (by decide +kernel : decode (x_mB 235) 14 = .ok (.goto 4, 3)) (by decide) ?_
  exact W.zret hx hb hr rfl (fun t ht _ => ⟨rfl, ht⟩) (fun z hz => absurd hz List.not_mem_nil) (by decide +kernel : decode (x_mB 235) 18 = .ok (.ireturn, 1)) hlocks
theorem x_pcheck {E : Nat × (Nat → Int32)} (l : Launch) (d : Nat) (q : xQ) (A : Nat → Prop) {i n : Int32} {w : Value} (hw : w.category = 1) (h0 : ¬ i < 0) (h1 : i < n) : x_PM E l d 238 q A [.int i, .int n, w] (some (.int i)) := by
  obtain ⟨k1, k2, k3, k4, k5, k6, k7, k8, k9⟩ := x_mk_spec ok_238
  refine Met.ofW (cc := x_mB 238) (maxL := 3) (ret := some .int) k3 rfl ?_
  intro p e s mid args' below meth c s₁ B hml hv
  obtain ⟨rfl, hE⟩ := hv
  have hx := B.exec
  have hb := B.bytes
  have hr := B.returns
  have hlocks := B.notSynchronized
  rw [lg_entry_eq]
  have hl := lv_entry [.int i, .int n, w] (n := 3) (by cases w <;> first | exact Nat.le_of_ble_eq_true rfl | exact absurd hw (by simp [Value.category]))
  generalize (lg_sl [.int i, .int n, w] ++ List.replicate (3 - (lg_sl [.int i, .int n, w]).length) Slot.unset).toArray = ls at hl ⊢
  refine lv_iload_n hx hb (by decide +kernel : decode (x_mB 238) 0 = .ok (.iload_n 0, 1)) rfl (lv_at hl 0 rfl) ?_
  refine lv_if_lt (tgt := 9) hx hb (by decide +kernel : decode (x_mB 238) 1 = .ok (.ifCond .lt 8, 3)) (by decide) (fun h => absurd h h0) (fun _ => ?_)
  refine lv_iload_n hx hb (by decide +kernel : decode (x_mB 238) 4 = .ok (.iload_n 0, 1)) rfl (lv_at hl 0 rfl) ?_
  refine lv_iload_n hx hb (by decide +kernel : decode (x_mB 238) 5 = .ok (.iload_n 1, 1)) rfl (lv_at hl 1 rfl) ?_
  refine lv_icmp_lt (tgt := 16) hx hb (by decide +kernel : decode (x_mB 238) 6 = .ok (.if_icmp .lt 10, 3)) (by decide) (fun _ => ?_) (fun h => absurd h1 h)
  refine lv_iload_n hx hb (by decide +kernel : decode (x_mB 238) 16 = .ok (.iload_n 0, 1)) rfl (lv_at hl 0 rfl) ?_
  exact W.iret hx hb hr (fun t ht _ => ⟨rfl, ht⟩) (fun z hz => absurd hz List.not_mem_nil) (by decide +kernel : decode (x_mB 238) 17 = .ok (.ireturn, 1)) hlocks
theorem x_scheck {E : Nat × (Nat → Int32)} (l : Launch) (d : Nat) (q : xQ) (A : Nat → Prop) {i n : Int32} (h0 : ¬ i < 0) (h1 : i < n) : x_PM E l (d + 1) 236 q A [.int i, .int n] none := by
  obtain ⟨k1, k2, k3, k4, k5, k6, k7, k8, k9⟩ := x_mk_spec ok_236
  refine Met.ofW (cc := x_mB 236) (maxL := 2) (ret := none) k3 rfl ?_
  intro p e s mid args' below meth c s₁ B hml hv
  obtain ⟨rfl, hE⟩ := hv
  have hx := B.exec
  have hb := B.bytes
  have hr := B.returns
  have hlocks := B.notSynchronized
  have hts0 := atoms_spec (ws := x_ws 236) B.pre
  have hts : ∀ w ∈ x_tbl, w.before _ s = true := fun w hw => hts0 w (List.mem_cons_of_mem _ hw)
  have hown : s.vm.findClass (x_mY 236).cls = some mid.cls := findClass_of_methodNamed B.named
  rw [k8] at hown
  rw [lg_entry_eq]
  have hl := lv_entry [.int i, .int n] (n := 2) (Nat.le_of_ble_eq_true rfl)
  generalize (lg_sl [.int i, .int n] ++ List.replicate (2 - (lg_sl [.int i, .int n]).length) Slot.unset).toArray = ls at hl ⊢
  have go : ∀ w : Value, w.category = 1 → W p l e (headSpec (x_ws 236) (x_pr (d + 1))).room s mid [Value.int i, .int n].toArray below meth c s.heap [] 0 0 (MQ below (x_pQ none) [Value.int i, .int n].toArray s 0 0 (fun _ => False)) (F0 mid 5 ls [w, .int n, .int i]) := by
    intro w hw
    refine x_pS (As := [.int i, .int n, w]) (rest := []) (m1 := 238) (d := d) (idx := 1059) (i0 := 1059) (ps := [789, 790]) hx hb hml hown hts hE va_S.rf (Nat.le_refl _) (Nat.le_refl _) (Nat.zero_le _) (Nat.zero_le _) hl.1 ok_238 (by decide +kernel) (by decide) rfl (Nat.le_of_ble_eq_true rfl) (by decide +kernel : decode (x_mB 236) 5 = .ok (.invokestatic 1059, 3)) (x_pcheck l d q A hw h0 h1) ?_
    refine lv_pop hx hb (by decide +kernel : decode (x_mB 236) 8 = .ok (.pop, 1)) rfl ?_
    exact W.vret hx hb hr (fun t ht _ => ⟨rfl, ht⟩) (fun z hz => absurd hz List.not_mem_nil) (by decide +kernel : decode (x_mB 236) 9 = .ok (.return_, 1)) hlocks
  refine lv_iload_n hx hb (by decide +kernel : decode (x_mB 236) 0 = .ok (.iload_n 0, 1)) rfl (lv_at hl 0 rfl) ?_
  refine lv_iload_n hx hb (by decide +kernel : decode (x_mB 236) 1 = .ok (.iload_n 1, 1)) rfl (lv_at hl 1 rfl) ?_
  rcases hE.2.2.2.2.2.2.2.2.1 with hz | ⟨t, hz⟩
  · exact va_gets hx hb hz va_S.rf hown (hts _ x_lkF) (fun _ h => h) (by decide +kernel : decode (x_mB 236) 2 = .ok (.getstatic 1053, 3)) (go _ rfl)
  · exact va_gets hx hb hz va_S.rf hown (hts _ x_lkF) (fun _ h => h) (by decide +kernel : decode (x_mB 236) 2 = .ok (.getstatic 1053, 3)) (go _ rfl)
theorem x_length {E : Nat × (Nat → Int32)} (l : Launch) (d : Nat) (q : xQ) (A : Nat → Prop) {i : Nat} (hi : i < 5) : x_PM E l (d + 1) 232 q A [.ref (q.2.1 i)] (some (.int (nI (x_lens.getD i 0)))) := by
  obtain ⟨k1, k2, k3, k4, k5, k6, k7, k8, k9⟩ := x_mk_spec ok_232
  refine Met.ofW (cc := x_mB 232) (maxL := 1) (ret := some .int) k3 rfl ?_
  intro p e s mid args' below meth c s₁ B hml hv
  obtain ⟨rfl, hE⟩ := hv
  have hx := B.exec
  have hb := B.bytes
  have hr := B.returns
  have hlocks := B.notSynchronized
  have hts0 := atoms_spec (ws := x_ws 232) B.pre
  have hts : ∀ w ∈ x_tbl, w.before _ s = true := fun w hw => hts0 w (List.mem_cons_of_mem _ hw)
  have hown : s.vm.findClass (x_mY 232).cls = some mid.cls := findClass_of_methodNamed B.named
  rw [k8] at hown
  rw [lg_entry_eq]
  have hl := lv_entry [.ref (q.2.1 i)] (n := 1) (Nat.le_of_ble_eq_true rfl)
  generalize (lg_sl [.ref (q.2.1 i)] ++ List.replicate (1 - (lg_sl [.ref (q.2.1 i)]).length) Slot.unset).toArray = ls at hl ⊢
  refine lv_aload_n hx hb (by decide +kernel : decode (x_mB 232) 0 = .ok (.aload_n 0, 1)) rfl (lv_at hl 0 rfl) ?_
  refine vk_getf hx hb ((hE.2.1.1 i hi).2.2.1) va_S.rf hown (hts _ x_lkV) (fun _ h => h) (by decide +kernel : decode (x_mB 232) 1 = .ok (.getfield 9, 3)) ?_
  refine va_tlen hx hb ((hE.2.1.1 i hi).2.2.2) va_S.rf rfl (by decide +kernel : decode (x_mB 232) 4 = .ok (.arraylength, 1)) ?_
  refine lv_aload_n hx hb (by decide +kernel : decode (x_mB 232) 5 = .ok (.aload_n 0, 1)) rfl (lv_at hl 0 rfl) ?_
  refine x_pV (As := []) (rest := [.int (Int32.ofNat (x_lens.getD i 0))]) (m1 := 234) (d := d) (i := i) (idx := 335) (i0 := 335) (ps := [767, 768, 769]) hx hb hml hown hts hE va_S.rf (Nat.le_refl _) (Nat.le_refl _) (Nat.zero_le _) (Nat.zero_le _) hl.1 ok_234 (by decide +kernel) (by decide) rfl (Nat.le_of_ble_eq_true rfl) (by decide +kernel : decode (x_mB 232) 6 = .ok (.invokevirtual 335, 3)) hi rfl (x_coder l d q A hi) ?_
  refine lv_ishr hx hb (by decide +kernel : decode (x_mB 232) 9 = .ok (.ishr, 1)) ?_
  rw [show Int32.ofNat (x_lens.getD i 0) >>> ((0 : Int32) &&& 31) = nI (x_lens.getD i 0) from sb_shr0 _]
  exact W.iret hx hb hr (fun t ht _ => ⟨rfl, ht⟩) (fun z hz => absurd hz List.not_mem_nil) (by decide +kernel : decode (x_mB 232) 10 = .ok (.ireturn, 1)) hlocks
def x_ch (i k : Nat) : Int32 := (x_byts.getD i []).getD k 0
theorem x_ch_ok : ∀ i, i < 5 → ∀ k, k < x_lens.getD i 0 → ((x_ch i k &&& 255).toUInt32 % 65536).toInt32 = x_ch i k ∧ narrow .char (.int (x_ch i k)) = .int (x_ch i k) := by decide +kernel
theorem x_latin {E : Nat × (Nat → Int32)} (l : Launch) (d : Nat) (q : xQ) (A : Nat → Prop) {i k : Nat} (hi : i < 5) (hk : k < x_lens.getD i 0) : x_PM E l (d + 2) 237 q A [.ref (q.2.2.1 i), .int (nI k)] (some (.int (x_ch i k))) := by
  obtain ⟨k1, k2, k3, k4, k5, k6, k7, k8, k9⟩ := x_mk_spec ok_237
  refine Met.ofW (cc := x_mB 237) (maxL := 2) (ret := some .char) k3 rfl ?_
  intro p e s mid args' below meth c s₁ B hml hv
  obtain ⟨rfl, hE⟩ := hv
  have hx := B.exec
  have hb := B.bytes
  have hr := B.returns
  have hlocks := B.notSynchronized
  have hts0 := atoms_spec (ws := x_ws 237) B.pre
  have hts : ∀ w ∈ x_tbl, w.before _ s = true := fun w hw => hts0 w (List.mem_cons_of_mem _ hw)
  have hown : s.vm.findClass (x_mY 237).cls = some mid.cls := findClass_of_methodNamed B.named
  rw [k8] at hown
  rw [lg_entry_eq]
  have hl := lv_entry [.ref (q.2.2.1 i), .int (nI k)] (n := 2) (Nat.le_of_ble_eq_true rfl)
  generalize (lg_sl [.ref (q.2.2.1 i), .int (nI k)] ++ List.replicate (2 - (lg_sl [.ref (q.2.2.1 i), .int (nI k)]).length) Slot.unset).toArray = ls at hl ⊢
  have hlen : x_lens.getD i 0 < 2 ^ 31 := by
    have : ∀ i, i < 5 → x_lens.getD i 0 < 2 ^ 31 := by decide +kernel
    exact this i hi
  have hk31 : k < 2 ^ 31 := by omega
  refine lv_iload_n hx hb (by decide +kernel : decode (x_mB 237) 0 = .ok (.iload_n 1, 1)) rfl (lv_at hl 1 rfl) ?_
  refine lv_aload_n hx hb (by decide +kernel : decode (x_mB 237) 1 = .ok (.aload_n 0, 1)) rfl (lv_at hl 0 rfl) ?_
  refine va_tlen hx hb ((hE.2.1.1 i hi).2.2.2) va_S.rf rfl (by decide +kernel : decode (x_mB 237) 2 = .ok (.arraylength, 1)) ?_
  refine x_pS (As := [.int (nI k), .int (nI (x_lens.getD i 0))]) (rest := []) (m1 := 236) (d := d + 1) (idx := 9) (i0 := 9) (ps := [784, 785]) hx hb hml hown hts hE va_S.rf (Nat.le_refl _) (Nat.le_refl _) (Nat.zero_le _) (Nat.zero_le _) hl.1 ok_236 (by decide +kernel) (by decide) rfl (Nat.le_of_ble_eq_true rfl) (by decide +kernel : decode (x_mB 237) 3 = .ok (.invokestatic 9, 3)) (x_scheck l d q A (nI_pos hk31) (nI_lt hk hlen)) ?_
  refine lv_aload_n hx hb (by decide +kernel : decode (x_mB 237) 6 = .ok (.aload_n 0, 1)) rfl (lv_at hl 0 rfl) ?_
  refine lv_iload_n hx hb (by decide +kernel : decode (x_mB 237) 7 = .ok (.iload_n 1, 1)) rfl (lv_at hl 1 rfl) ?_
  refine va_tb hx hb ((hE.2.1.1 i hi).2.2.2) va_S.rf (vp_in_nI hk hlen) (v := .int (x_ch i k)) (by rw [nI_clamp hk31]; rfl) (by decide +kernel : decode (x_mB 237) 8 = .ok (.baload, 1)) ?_
  refine lv_sipush (v := 255) hx hb (by decide +kernel : decode (x_mB 237) 9 = .ok (.sipush 255, 3)) (by decide) ?_
  refine lv_iand hx hb (by decide +kernel : decode (x_mB 237) 12 = .ok (.iand, 1)) ?_
  refine lv_i2c (v := x_ch i k) hx hb (by decide +kernel : decode (x_mB 237) 13 = .ok (.i2c, 1)) (x_ch_ok i hi k hk).1 ?_
  exact W.zret hx hb hr (x_ch_ok i hi k hk).2 (fun t ht _ => ⟨rfl, ht⟩) (fun z hz => absurd hz List.not_mem_nil) (by decide +kernel : decode (x_mB 237) 14 = .ok (.ireturn, 1)) hlocks
theorem x_charAt {E : Nat × (Nat → Int32)} (l : Launch) (d : Nat) (q : xQ) (A : Nat → Prop) {i k : Nat} (hi : i < 5) (hk : k < x_lens.getD i 0) : x_PM E l (d + 3) 233 q A [.ref (q.2.1 i), .int (nI k)] (some (.int (x_ch i k))) := by
  obtain ⟨k1, k2, k3, k4, k5, k6, k7, k8, k9⟩ := x_mk_spec ok_233
  refine Met.ofW (cc := x_mB 233) (maxL := 2) (ret := some .char) k3 rfl ?_
  intro p e s mid args' below meth c s₁ B hml hv
  obtain ⟨rfl, hE⟩ := hv
  have hx := B.exec
  have hb := B.bytes
  have hr := B.returns
  have hlocks := B.notSynchronized
  have hts0 := atoms_spec (ws := x_ws 233) B.pre
  have hts : ∀ w ∈ x_tbl, w.before _ s = true := fun w hw => hts0 w (List.mem_cons_of_mem _ hw)
  have hown : s.vm.findClass (x_mY 233).cls = some mid.cls := findClass_of_methodNamed B.named
  rw [k8] at hown
  rw [lg_entry_eq]
  have hl := lv_entry [.ref (q.2.1 i), .int (nI k)] (n := 2) (Nat.le_of_ble_eq_true rfl)
  generalize (lg_sl [.ref (q.2.1 i), .int (nI k)] ++ List.replicate (2 - (lg_sl [.ref (q.2.1 i), .int (nI k)]).length) Slot.unset).toArray = ls at hl ⊢
  refine lv_aload_n hx hb (by decide +kernel : decode (x_mB 233) 0 = .ok (.aload_n 0, 1)) rfl (lv_at hl 0 rfl) ?_
  refine x_pV (As := []) (rest := []) (m1 := 235) (d := d + 2) (i := i) (idx := 492) (i0 := 492) (ps := [777, 778, 779]) hx hb hml hown hts hE va_S.rf (Nat.le_refl _) (Nat.le_refl _) (Nat.zero_le _) (Nat.zero_le _) hl.1 ok_235 (by decide +kernel) (by decide) rfl (Nat.le_of_ble_eq_true rfl) (by decide +kernel : decode (x_mB 233) 1 = .ok (.invokevirtual 492, 3)) hi rfl (x_isLatin1 l (d + 2) q A hi) ?_
  refine lv_if_eq (tgt := 16) hx hb (by decide +kernel : decode (x_mB 233) 4 = .ok (.ifCond .eq 12, 3)) (by decide) (fun h => absurd h (by decide)) (fun _ => ?_)
  refine lv_aload_n hx hb (by decide +kernel : decode (x_mB 233) 7 = .ok (.aload_n 0, 1)) rfl (lv_at hl 0 rfl) ?_
  refine vk_getf hx hb ((hE.2.1.1 i hi).2.2.1) va_S.rf hown (hts _ x_lkV) (fun _ h => h) (by decide +kernel : decode (x_mB 233) 8 = .ok (.getfield 9, 3)) ?_
  refine lv_iload_n hx hb (by decide +kernel : decode (x_mB 233) 11 = .ok (.iload_n 1, 1)) rfl (lv_at hl 1 rfl) ?_
  refine x_pS (As := [.ref (q.2.2.1 i), .int (nI k)]) (rest := []) (m1 := 237) (d := d + 2) (idx := 495) (i0 := 495) (ps := [781, 782]) hx hb hml hown hts hE va_S.rf (Nat.le_refl _) (Nat.le_refl _) (Nat.zero_le _) (Nat.zero_le _) hl.1 ok_237 (by decide +kernel) (by decide) rfl (Nat.le_of_ble_eq_true rfl) (by decide +kernel : decode (x_mB 233) 12 = .ok (.invokestatic 495, 3)) (x_latin l d q A hi hk) ?_
  exact W.zret hx hb hr (x_ch_ok i hi k hk).2 (fun t ht _ => ⟨rfl, ht⟩) (fun z hz => absurd hz List.not_mem_nil) (by decide +kernel : decode (x_mB 233) 15 = .ok (.ireturn, 1)) hlocks

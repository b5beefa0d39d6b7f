/-! octet: the law's own method -/
section XO3
variable {E : Nat × (Nat → Int32)} {l : Launch} {p : Program} {e : Env} {R : Room} {s : State} {mid : MethodId} {args : Array Value} {below : List Frame} {meth : Method} {c : Code} {A : Nat → Prop} {D : va_G} {cs : ClassId × ClassId × ClassId} {q : xQ} {al : Nat → Nat} {S S1 : xS} {H : Heap} {locs : List Loc} {cells slots : Nat}
theorem xo_free (hA : ∀ z, s.heap.size ≤ z → A z) (X : x_Hp s A D cs q al S H locs) : ∀ z, va_A (x_w cs al S) H.size z → A z := by
  intro z hz
  rcases hz with ⟨k, e, h⟩ | h
  · exact X.2.1.2 k _ h
  · exact hA z (Nat.le_trans X.2.2.1.1 h)
theorem xo_cont {pc : Nat} {Q : State → Prop} {ls : Array Slot} {st0 rest : List Value} {r : Option Value} {a : Array Value} (hA : ∀ z, s.heap.size ≤ z → A z) (X : x_Hp s A D cs q al S H locs)
    (hr : va_Run p l e R s mid args below meth c H locs cells slots (x_k S1 - x_k S) (x_z S1 - x_z S) (F0 mid pc ls st0) rest (x_Qc D cs al H.size S r S1 a) (va_A (x_w cs al S) H.size))
    (kk : ∀ (al1 : Nat → Nat) (H1 : Heap) (locs1 : List Loc), x_ext al al1 (x_n S) → x_Hp s A D cs q al1 S1 H1 locs1 → x_wfs (x_n S1) r.toList → W p l e R s mid args below meth c H1 locs1 (cells + (x_k S1 - x_k S)) (slots + (x_z S1 - x_z S)) Q (F0 mid (pc + 3) ls ((r.map (x_c al1)).toList ++ rest))) :
    W p l e R s mid args below meth c H locs cells slots Q (F0 mid pc ls st0) := by
  intro T hT XX
  obtain ⟨v, st₀, t, T', L, h0, X', hL, e1, e2, ⟨al1, x1, hv, p1, p2, p3, w1, w2⟩, go⟩ := hr T hT XX
  cases Outcome.returned.inj hv
  have hfr := xo_free hA X
  obtain ⟨f1, f2⟩ := p3
  rw [h0] at f1 f2
  have hS := X.2.2.1
  obtain ⟨tt, a1, b1⟩ := kk al1 T'.heap (locs ++ L) x1 ⟨by rw [e1]; exact p1, p2.weaken (fun k z _ h => hfr _ h), ⟨by rw [e1]; exact Nat.le_trans hS.1 f1, fun z h1 h2 => by
      rw [e1, f2 z (Nat.lt_of_lt_of_le h1 hS.1) (fun h => h2 (hfr z h))]
      exact hS.2.1 z h1 h2, fun z hz => by
      rcases List.mem_append.mp hz with h | h
      · exact hS.2.2 z h
      · exact hfr _ (hL z h)⟩, fun i hi => (x1 _ (Or.inr (Nat.le_add_right _ _))).trans (X.2.2.2.1 i hi), w1⟩ w2 T' rfl X'
  exact ⟨tt, go tt a1, b1⟩
theorem xo_Pc_at (hA : ∀ z, s.heap.size ≤ z → A z) (hK : va_K D vwCl (x_tys cs) s) (hE : x_Ex E q A s) (X : x_Hp s A D cs q al S H locs) (vs : List Value) : ∀ U : State, U.heap = H → s.WarmedH U.vm → va_Pc vs (x_Pc E D cs q al H.size S) vs.toArray U := by
  intro U hU hW
  exact ⟨rfl, by rw [hU], by rw [hU]; exact X.1, va_K.moved hW.alike hK, X.2.1.weaken (fun _ _ _ _ => trivial), hE.move (locs := locs) (by rw [hU]; exact X.2.2.1) hW (xo_free hA X)⟩
theorem xo_ofWH {y : MethodName} {ws ws' : List Cond} {rm : Room} {Pc : Array Value → State → Prop} {Qc : Array Value → State → Outcome → State → Prop} {mc ms : Nat} {free : Addr → Prop} {cc : ByteArray} {maxL : Nat} {ret : Option FieldType} {hh : List (Nat × Nat × Nat × Nat)}
    (hy : plainName y.cls = true) (hw : ws = Cond.codeWith y cc maxL ret hh :: ws')
    (body : ∀ p e s m args below meth c s₁, BodyLoose p l y (headSpec ws rm) cc maxL ret e s m args below meth c s₁ → c.maxLocals = maxL → Pc args s →
      W p l e (headSpec ws rm).room s m args below meth c s.heap [] 0 0 (MQ below Qc args s mc ms free) (entryFrame m args maxL)) : Met l y ws rm Pc Qc mc ms free := by
  refine MetFree.of_bodyS (code := cc) (maxLocals := maxL) (ret := ret) hy ?_ ?_
  · intro args s m h hn
    obtain ⟨m9, meth, c, hn9, h1, h2, h3, h4, -, h5, h6, -⟩ := Cond.codeWith_spec (atoms_spec (ws := ws) h _ (by rw [hw]; exact List.mem_cons_self))
    cases hn.symm.trans hn9
    exact ⟨meth, c, h1, h2, h3, h4, h5, h6⟩
  · intro p e s m args below meth c s₁ B hml hP _
    have hh0 : s₁.heap = s.heap := by rw [B.state]; rfl
    obtain ⟨t, a1, o, b1, b2, b3⟩ := body p e s m args below meth c s₁ B hml hP s₁ hh0 (Stand.of_body B)
    exact ⟨t, o, a1, b1, b2, ⟨b3.1, b3.2⟩⟩
end XO3
abbrev xo_cw : Cond := .codeWith xo_Y method_3_code 4 (some .int) [(0, 9, 12, 13)]
def xo_ws : List Cond := xo_cw :: x_tbl
theorem xo_good : GoodIn x_tbl xo_ws := by
  intro w hw
  have hm : w ∈ x_tbl := by
    rcases List.mem_cons.mp hw with rfl | h
    · exact xo_m2 _ (by simp)
    · exact h
  exact ⟨hm, x_tbl_good hm⟩
theorem xo_l0 : decode method_3_code 0 = .ok (.aload_n 2, 1) := by decide +kernel
theorem xo_l1 : decode method_3_code 1 = .ok (.iconst 0, 1) := by decide +kernel
theorem xo_l2 : decode method_3_code 2 = .ok (.aload_n 0, 1) := by decide +kernel
theorem xo_l3 : decode method_3_code 3 = .ok (.iload_n 1, 1) := by decide +kernel
theorem xo_l4 : decode method_3_code 4 = .ok (.invokevirtual 7, 3) := by decide +kernel
theorem xo_l7 : decode method_3_code 7 = .ok (.i2l, 1) := by decide +kernel
theorem xo_l8 : decode method_3_code 8 = .ok (.lastore, 1) := by decide +kernel
theorem xo_l9 : decode method_3_code 9 = .ok (.goto 6, 3) := by decide +kernel
theorem xo_l12 : decode method_3_code 12 = .ok (.astore_n 3, 1) := by decide +kernel
theorem xo_l13 : decode method_3_code 13 = .ok (.iconst 1, 1) := by decide +kernel
theorem xo_l14 : decode method_3_code 14 = .ok (.ireturn, 1) := by decide +kernel
theorem xo_l15 : decode method_3_code 15 = .ok (.iconst 0, 1) := by decide +kernel
theorem xo_l16 : decode method_3_code 16 = .ok (.ireturn, 1) := by decide +kernel
/-- one state with one more cell -/
def xo_S (S : xS) : xS := (S.1, S.2.1, S.2.2.1, S.2.2.2.1, S.2.2.2.2.1, S.2.2.2.2.2.1, S.2.2.2.2.2.2.1, S.2.2.2.2.2.2.2.1, S.2.2.2.2.2.2.2.2.1 + 1, S.2.2.2.2.2.2.2.2.2 + 6)
theorem xo_law {E : Nat × (Nat → Int32)} {D : va_G} {cs : ClassId × ClassId × ClassId} {q : xQ} {al : Nat → Nat} {sz d : Nat} {S S1 : xS} {k y : Int32} {l : Launch} (hl : l.stackTraces = false) (hK : x_K S 0 = 11) (hK9 : x_K S 139 = 102) (hN9 : x_N S 139 = 1) (hwf : x_wf S) (hext : x_xt al q) (hd : 6 ≤ d)
    (hc : (∃ y0, x_Call E d 128 [.ref 0, .int k] S (some (.int y0)) S ∧ y = nI 0 ∧ S1 = x_pB S 139 (vp_updL (x_B S 139) 0 y0.toInt64)) ∨ ((k < nI 0 ∨ ¬ k < x_I S 0 12) ∧ y = nI 1 ∧ S1 = xo_S S)) :
    Met l xo_Y xo_ws (x_rm (d + 1) S S1) (va_Pc ([Value.ref 0, .int k, .ref 139].map (x_c al)) (x_Pc E D cs q al sz S)) (x_Qc D cs al sz S (some (.int y)) S1) (x_k S1 - x_k S) (x_z S1 - x_z S) (va_A (x_w cs al S) sz) := by
  obtain ⟨k1, k2, k3, k4, k5, k6, k7, k8, k9⟩ := x_mk_spec ok_128
  have hn0 : 0 < x_n S := hwf.2.1 0 (by omega)
  have hn9 : 139 < x_n S := hwf.2.1 139 (by omega)
  refine xo_ofWH (cc := method_3_code) (maxL := 4) (ret := some .int) (by decide) rfl ?_
  intro p e s mid args' below meth c s₁ B hml hv
  obtain ⟨rfl, hsz, hP, hKK, hD0, hE⟩ := hv
  subst hsz
  have hts := atoms_spec (ws := xo_ws) B.pre
  have hown : s.vm.findClass "ScrawlHouseLaw" = some mid.cls := findClass_of_methodNamed B.named
  have hb := B.bytes
  have hlocks := B.notSynchronized
  have hret := B.returns
  have tb : ∀ w ∈ x_tbl, w.before ([Value.ref 0, .int k, .ref 139].map (x_c al)).toArray s = true := fun w hw => hts w (List.mem_cons_of_mem _ hw)
  have htab := vx_table (x := xo_Y) B (hts _ List.mem_cons_self)
  have hl0 := lv_entry ([Value.ref 0, .int k, .ref 139].map (x_c al)) (n := 4) (by rw [x_sl_len]; exact Nat.le_of_ble_eq_true rfl)
  rw [lg_entry_eq]
  rw [x_args_map] at hl0
  generalize (lg_sl ([Value.ref 0, .int k, .ref 139].map (x_c al)) ++ List.replicate (4 - (lg_sl ([Value.ref 0, .int k, .ref 139].map (x_c al))).length) Slot.unset).toArray = ls at hl0 ⊢
  have hA : ∀ z, s.heap.size ≤ z → va_A (x_w cs al S) s.heap.size z := fun z hz => Or.inr hz
  have X : x_Hp s (va_A (x_w cs al S) s.heap.size) D cs q al S s.heap [] := ⟨hP, hD0.self, va_S.rf, hext, hwf⟩
  have he : (x_w cs al S)[0]? = some (al 0, .inr (11, x_fs al S 0 11)) := by rw [x_w_get hn0, x_cell_o hK (by decide)]
  obtain ⟨ty0, g1, -⟩ := x_clss 11 (by decide)
  have hrecv := va_recv hKK hP g1 he
  have hrecv2 : ∃ cellB : Cell, s.heap[al 0]? = some cellB ∧ cellB.vm.isStatics = false ∧ s.vm.findClass (x_mY 128).cls = some cellB.cls := hrecv
  have wargs : x_wfs (x_n S) [.ref 0, .int k] := x_wfs_c.mpr ⟨Or.inl hn0, x_wfs_c.mpr ⟨trivial, x_wfs_n⟩⟩
  have hx0 : [(0, Value.ref 0), (1, .int k), (2, .ref 139)] = lv_args 0 [Value.ref 0, .int k, .ref 139] := rfl
  rw [← hx0] at hl0
  refine lv_aload_n B.exec hb xo_l0 rfl (x_lk_at hl0 (show x_lk _ 2 = some (.ref 139) from rfl)) ?_
  refine lv_iconst (v := nI 0) B.exec hb xo_l1 (by decide) ?_
  refine lv_aload_n B.exec hb xo_l2 rfl (x_lk_at hl0 (show x_lk _ 0 = some (.ref 0) from rfl)) ?_
  refine lv_iload_n B.exec hb xo_l3 rfl (x_lk_at hl0 (show x_lk _ 1 = some (.int k) from rfl)) ?_
  rcases hc with ⟨y0, hc, rfl, rfl⟩ | ⟨hk, rfl, rfl⟩
  · have hM := hc.2.2 l D cs q al s.heap.size hl hwf wargs hext
    have cw : CallW (headSpec xo_ws (x_rm (d + 1) S (x_pB S 139 (vp_updL (x_B S 139) 0 y0.toInt64)))).room s ([Value.ref 0, .int k, .ref 139].map (x_c al)).toArray "ScrawlHouseLaw" (x_mY 128).cls 7 (x_mY 128) (x_mB 128) (x_mL 128) (x_mR 128) (x_ws 128) (x_rm d S S) (x_k S - x_k S) (x_z S - x_z S) (x_mN 128) :=
      ⟨callB_of (x_mN 128) tb (x_ws_good ok_128) rfl rfl rfl (tb _ k2) (tb _ (xo_m2 _ (by simp))) ⟨k4, k5, k6⟩ ⟨Nat.le_refl _, by show 8 + (2 + 11) + 50 * d ≤ 50 * (d + 1); omega⟩, tb _ (xo_m2 _ (by simp)), (show (Cond.selects "ScrawlHouse" (x_mY 128) (x_mY 128)).before ([Value.ref 0, .int k, .ref 139].map (x_c al)).toArray s = true from tb _ (xo_m2 _ (by simp)))⟩
    refine xo_cont (S1 := S) (r := some (.int y0)) hA X (va_runV (As := [.int k]) (rest := [.int (nI 0), .ref (al 139)]) ⟨B.exec, hb, hml, hown, tb⟩ hM cw ⟨x_Pc_blind, hrecv2, xo_Pc_at hA hKK hE X ([Value.ref 0, .int k].map (x_c al))⟩ rfl rfl hl0.1 rfl (lv_room (Nat.le_of_ble_eq_true rfl)) xo_l4 ⟨by rw [Nat.sub_self]; exact Nat.zero_le _, by rw [Nat.sub_self]; exact Nat.zero_le _⟩) ?_
    intro al1 H1 locs1 x1 X1 wr
    have ea : al 139 = al1 139 := (x1 139 (Or.inl hn9)).symm
    rw [ea]
    refine lv_i2l (v := y0.toInt64) B.exec hb xo_l7 rfl ?_
    have hws := x_w_set (cs := cs) (al := al1) (S := S) (S' := x_pB S 139 (vp_updL (x_B S 139) 0 y0.toInt64)) (i := 139) (e := .inl (cs.2.2, x_N S 139, .inr (.inl (vp_updL (x_B S 139) 0 y0.toInt64)))) rfl ((x_cell_l (S := x_pB S 139 (vp_updL (x_B S 139) 0 y0.toInt64)) hK9).trans (by rw [show x_B (x_pB S 139 (vp_updL (x_B S 139) 0 y0.toInt64)) 139 = vp_updL (x_B S 139) 0 y0.toInt64 from xu1_s (x_B S) 139 (vp_updL (x_B S 139) 0 y0.toInt64)]; rfl)) x_pB_cell
    refine va_last B.exec hb hKK X1.1 X1.2.1 X1.2.2.1 139 2 ((x_w_get hn9).trans (by rw [x_cell_l hK9])) rfl (show vp_in (nI 0) (x_N S 139) by rw [hN9]; exact vp_in_nI (by decide) (by decide)) xo_l8 (fun H2 locs2 p1 p2 p3 => ?_)
    rw [show (nI 0).toNatClampNeg = 0 from rfl, hws] at p1 p2
    refine lv_goto (tgt := 15) B.exec hb xo_l9 (by decide) ?_
    refine lv_iconst (v := nI 0) B.exec hb xo_l15 (by decide) ?_
    refine W.widen (k := 0) (n := 0) (by rw [Nat.sub_self]; exact Nat.le_refl _) (by rw [Nat.sub_self]; exact Nat.le_refl _) ?_
    have hz : ∀ a : Nat, a - a = 0 := Nat.sub_self
    rw [show x_k (x_pB S 139 (vp_updL (x_B S 139) 0 y0.toInt64)) - x_k S = 0 from hz _, show x_z (x_pB S 139 (vp_updL (x_B S 139) 0 y0.toInt64)) - x_z S = 0 from hz _]
    exact W.iret B.exec hb hret (fun t ht _ => ⟨al1, x1, rfl, by rw [ht]; exact p1, p2, p3.F ht, X1.2.2.2.2, x_wfs_c.mpr ⟨trivial, x_wfs_n⟩⟩) p3.2.2 xo_l16 hlocks
  · have hM := xo_cls (E := E) (D := D) (cs := cs) (q := q) (al := al) (sz := s.heap.size) (d := d) (S := S) (k := k) hl hK hn0 hk hd
    have e1 : x_k (xo_S S) - x_k S = 1 := by show x_k S + 1 - x_k S = 1; omega
    have e2 : x_z (xo_S S) - x_z S = 6 := by show x_z S + 6 - x_z S = 6; omega
    have cw : CallW (headSpec xo_ws (x_rm (d + 1) S (xo_S S))).room s ([Value.ref 0, .int k, .ref 139].map (x_c al)).toArray "ScrawlHouseLaw" (x_mY 128).cls 7 (x_mY 128) (x_mB 128) (x_mL 128) (x_mR 128) (x_ws 128) (xo_rm d) 1 6 (x_mN 128) :=
      ⟨callB_of (x_mN 128) tb (x_ws_good ok_128) rfl rfl rfl (tb _ k2) (tb _ (xo_m2 _ (by simp))) ⟨k4, k5, k6⟩ ⟨Nat.le_refl _, by show 8 + (2 + 11) + 50 * d ≤ 50 * (d + 1); omega⟩, tb _ (xo_m2 _ (by simp)), (show (Cond.selects "ScrawlHouse" (x_mY 128) (x_mY 128)).before ([Value.ref 0, .int k, .ref 139].map (x_c al)).toArray s = true from tb _ (xo_m2 _ (by simp)))⟩
    have hr := vx_runV (e := e) (below := below) (meth := meth) (locs := []) (cells := 0) (slots := 0) (g := F0 mid 4 ls [.int k, .ref (al 0), .int (nI 0), .ref (al 139)]) (As := [.int k]) (rest := [.int (nI 0), .ref (al 139)]) (c := c) (p := p) (m := mid) ⟨B.exec, hb, hml, hown, tb⟩ hM cw ⟨x_Pc_blind, hrecv2, xo_Pc_at hA hKK hE X ([Value.ref 0, .int k].map (x_c al))⟩ rfl rfl hl0.1 rfl (lv_room (Nat.le_of_ble_eq_true rfl)) xo_l4 ⟨by show 0 + 1 ≤ x_k (xo_S S) - x_k S; omega, by show 0 + 6 ≤ x_z (xo_S S) - x_z S; omega⟩
    intro T hT XX
    rcases hr T hT XX with ⟨v, st₀, t, T', L, h0, X', hL, q1, q2, hF, st⟩ | ⟨q9, st₀, t, T', L, E9, ce, h0, X', hL, q1, q2, ⟨rfl, hz, hkeep⟩, hce, hcv, hcl, st⟩
    · exact hF.elim
    · have hL0 : L = [] := by
        cases L with
        | nil => rfl
        | cons a b => exact (hL a List.mem_cons_self).elim
      subst hL0
      rw [h0] at hz hkeep
      obtain ⟨x, hx, hx1, hx2, hx3⟩ : ∃ x : ExceptionTableEntry, tableOf [(0, 9, 12, 13)] = [x] ∧ x.handlerPc = 12 ∧ x.catchType = 13 ∧ covers x 4 = true := ⟨_, rfl, rfl, rfl, rfl⟩
      have hS2 : va_S (va_A (x_w cs al S) s.heap.size) s.heap t.heap [] := ⟨hz, fun z h1 _ => hkeep z h1, fun z hz => absurd hz List.not_mem_nil⟩
      have hP2 : va_P D vwCl (x_w cs al S) t.heap := hP.kept (fun i z hi => hkeep _ ((hP i z hi).lt))
      have hcatch : vx_W p l e (headSpec xo_ws (x_rm (d + 1) S (xo_S S))).room s mid ([Value.ref 0, .int k, .ref 139].map (x_c al)).toArray below meth c T'.heap ([] ++ []) (0 + 1) (0 + 6) (MQ below (x_Qc D cs al s.heap.size S (some (.int (nI 1))) (xo_S S)) ([Value.ref 0, .int k, .ref 139].map (x_c al)).toArray s (x_k (xo_S S) - x_k S) (x_z (xo_S S) - x_z S) (va_A (x_w cs al S) s.heap.size)) (F0 mid 4 ls [.int (nI 0), .ref (al 139)]) q9 := by
        refine xo_catch (own := "ScrawlHouseLaw") (name := xo_N) (E := xo_N) (ce := ce) hown x (by rw [htab, hx]) hx3 (by rw [hx2]; decide) (by rw [hx2]; exact tb _ (xo_m2 _ (by simp))) (xo_cast hown (tb (.classLink "ScrawlHouseLaw" 13 xo_N) (xo_m2 _ (by simp)))) (by rw [q1]; exact hce) hcv hcl ?_
        rw [hx1]
        refine lv_astore_n (i := 3) (nL := 4) B.exec hb xo_l12 rfl hl0 (by decide) rfl (fun ls' _ => ?_)
        refine lv_iconst (v := nI 1) B.exec hb xo_l13 (by decide) ?_
        rw [e1, e2]
        exact W.iret B.exec hb hret (fun t2 ht _ => ⟨al, x_ext.rf, rfl, by rw [ht, q1]; exact hP2, hD0.self, by rw [q1] at ht; exact hS2.F ht, hwf, x_wfs_c.mpr ⟨trivial, x_wfs_n⟩⟩) (fun z hz => absurd hz List.not_mem_nil) xo_l14 hlocks
      obtain ⟨t2, a1, b1⟩ := hcatch T' rfl X'
      exact ⟨t2, st.trans a1, b1⟩

/-! octet: the class's own method -/
theorem k_octetX {E : Nat × (Nat → Int32)} {d : Nat} {v : xV} {k : Int32} {Q : Int32 → xV → Prop} (h0 : ¬ k < nI 0) (h1 : k < gI v 0 12) (hb : vp_in k 6) (h : Q (gA v 79 k.toNatClampNeg) v) : KI E d 128 [.ref 0, .int k] v Q := by
  refine KI.of ok_128 (Nat.le_of_ble_eq_true rfl) ?_
  show RI E d 128 0 [(0, .ref 0), (1, .int k)] v Q
  unfold RI
  refine xr_blk (lv1 := [(0, .ref 0), (1, .int k)]) (st1 := [.int k]) (S1 := rt v) (pc1 := 1) [(.iload_n 1, .null, 0, 0)] [] (by decide +kernel) rfl trivial ?_
  refine xr_if_lt (tgt := 12) (off := 11) (by decide +kernel) (by decide) (fun hc => absurd hc h0) (fun _ => ?_)
  refine xr_blk (lv1 := [(0, .ref 0), (1, .int k)]) (st1 := [.int (gI v 0 12), .int k]) (S1 := rt v) (pc1 := 9) [(.iload_n 1, .null, 0, 0), (.aload_n 0, .null, 0, 0), (.getfield 98, .null, 11, 12)] [] (by decide +kernel) rfl trivial ?_
  refine xr_ic_lt (tgt := 22) (off := 13) (by decide +kernel) (by decide) (fun _ => ?_) (fun hc => absurd h1 hc)
  refine xr_blk (lv1 := [(0, .ref 0), (1, .int k)]) (st1 := [.int (gA v 79 k.toNatClampNeg)]) (S1 := rt v) (pc1 := 28) [(.aload_n 0, .null, 0, 0), (.getfield 94, .null, 11, 11), (.iload_n 1, .null, 0, 0), (.iaload, .null, 0, 0)] [(k, 6)] (by decide +kernel) rfl ⟨hb, trivial⟩ ?_
  exact xr_iret (by decide +kernel) rfl ⟨_, _, rfl, rfl, h⟩
def xo_XC : String → State → State → Prop := fun E st t => E = xo_N ∧ st.heap.size ≤ t.heap.size ∧ ∀ q : Nat, q < st.heap.size → t.heap[q]? = st.heap[q]?
def xo_rm (d : Nat) : Room := { frames := d, cells := 1, slots := 6, locals := 50 * d }
theorem xo_b12 : decode (x_mB 128) 12 = .ok (.new 193, 3) := by decide +kernel
theorem xo_b15 : decode (x_mB 128) 15 = .ok (.dup, 1) := by decide +kernel
theorem xo_b16 : decode (x_mB 128) 16 = .ok (.ldc 195, 2) := by decide +kernel
theorem xo_b18 : decode (x_mB 128) 18 = .ok (.invokespecial 197, 3) := by decide +kernel
theorem xo_b21 : decode (x_mB 128) 21 = .ok (.athrow, 1) := by decide +kernel
theorem xo_fl : x_fl (x_mo 128) 98 = some (98, 11, 12, 602) := by decide +kernel
theorem xo_cls {E : Nat × (Nat → Int32)} {D : va_G} {cs : ClassId × ClassId × ClassId} {q : xQ} {al : Nat → Nat} {sz d : Nat} {S : xS} {k : Int32} {l : Launch} (hl : l.stackTraces = false) (hK : x_K S 0 = 11) (hn : 0 < x_n S) (hk : k < nI 0 ∨ ¬ k < x_I S 0 12) (hd : 6 ≤ d) :
    vx_Met l (x_mY 128) (x_ws 128) (xo_rm d) (va_Pc ([Value.ref 0, .int k].map (x_c al)) (x_Pc E D cs q al sz S)) (fun _ _ _ _ => False) xo_XC 1 6 (fun _ => False) := by
  obtain ⟨k1, k2, k3, k4, k5, k6, k7, k8, k9⟩ := x_mk_spec ok_128
  refine vx_ofW (cc := x_mB 128) (maxL := x_mL 128) (ret := x_mR 128) k3 rfl ?_
  intro p e s mid args' below meth c s₁ B hml ht hv
  obtain ⟨rfl, hsz, hP, hKK, hD0, hE⟩ := hv
  have hts := atoms_spec (ws := x_ws 128) B.pre
  have hown : s.vm.findClass (x_mY 128).cls = some mid.cls := findClass_of_methodNamed B.named
  have hb := B.bytes
  have hlocks := B.notSynchronized
  rw [k8] at hown
  have hl0 := lv_entry ([Value.ref 0, .int k].map (x_c al)) (n := x_mL 128) (by rw [x_sl_len]; exact Nat.le_of_ble_eq_true rfl)
  rw [lg_entry_eq]
  rw [x_args_map] at hl0
  generalize (lg_sl ([Value.ref 0, .int k].map (x_c al)) ++ List.replicate (x_mL 128 - (lg_sl ([Value.ref 0, .int k].map (x_c al))).length) Slot.unset).toArray = ls at hl0 ⊢
  have tb : ∀ w ∈ x_tbl, w.before ([Value.ref 0, .int k].map (x_c al)).toArray s = true := fun w hw => hts w (List.mem_cons_of_mem _ hw)
  have hown2 : s.vm.findClass "ScrawlHouse" = some mid.cls := hown
  obtain ⟨-, -, -, -, e5, e6, e7, -, -⟩ := hE
  have thr : W p l e (headSpec (x_ws 128) (xo_rm d)).room s mid ([Value.ref 0, .int k].map (x_c al)).toArray below meth c s.heap [] 0 0 (vx_MQ below (fun _ _ _ _ => False) xo_XC ([Value.ref 0, .int k].map (x_c al)).toArray s 1 6 (fun _ => False)) (F0 mid 12 ls []) := by
    refine xo_throw (A := va_A (x_w cs al S) sz) B.exec hb hl (own := "ScrawlHouse") (ik := 193) (is := 195) (ic := 197) hown2 (tb _ (xo_m2 _ (by simp))) (tb _ (xo_m2 _ (by simp))) e7 (xo_words hown2 tb) xo_ot e5 e6 va_S.rf (hl0.1.trans hml.symm) xo_b12 xo_b15 xo_b16 xo_b18 xo_b21 (fun x hx => (ht x hx).elim) ?_ ?_ (Nat.le_refl _) (Nat.le_refl _) hlocks (fun t _ h1 h2 => ⟨rfl, h1, h2⟩) (fun z hz => absurd hz List.not_mem_nil) (Nat.le_refl _) (Nat.le_refl _)
    · show 5 < d
      omega
    · show 0 + 82 ≤ 50 * d
      omega
  refine lv_iload_n B.exec hb (show decode (x_mB 128) 0 = .ok (.iload_n 1, 1) by decide +kernel) rfl (x_lk_at hl0 (show x_lk (lv_args 0 [Value.ref 0, .int k]) 1 = some (.int k) from rfl)) ?_
  refine lv_if_lt (tgt := 12) B.exec hb (show decode (x_mB 128) 1 = .ok (.ifCond .lt 11, 3) by decide +kernel) (by decide) (fun _ => thr) (fun hnl => ?_)
  refine lv_iload_n B.exec hb (show decode (x_mB 128) 4 = .ok (.iload_n 1, 1) by decide +kernel) rfl (x_lk_at hl0 (show x_lk (lv_args 0 [Value.ref 0, .int k]) 1 = some (.int k) from rfl)) ?_
  refine lv_aload_n B.exec hb (show decode (x_mB 128) 5 = .ok (.aload_n 0, 1) by decide +kernel) rfl (x_lk_at hl0 (show x_lk (lv_args 0 [Value.ref 0, .int k]) 0 = some (.ref 0) from rfl)) ?_
  obtain ⟨f1, f2, f3, f4⟩ := x_fl_ok xo_fl (by decide)
  dsimp only at f1 f2 f3 f4
  obtain ⟨ty0, g1, g2, g3, g4, g5, g6⟩ := x_clss 11 f3
  have he : (x_w cs al S)[0]? = some (al 0, .inr (11, x_fs al S 0 11)) := by rw [x_w_get hn, x_cell_o hK f3]
  have hfs : (x_fs al S 0 11)[12]? = some (.int (x_I S 0 12)) := by
    rw [x_fs_get f4]
    rfl
  refine va_get B.exec hb (C := (x_C 11).1) (T := (x_C 11).2.1) (N := (x_C 11).2.2) tb g3 hown hKK hP 0 he g1 12 (by rw [g2]; exact f4) (tb _ f1) (fun _ h => h) hfs (show decode (x_mB 128) 6 = .ok (.getfield 98, 3) by decide +kernel) ?_
  refine lv_icmp_lt (tgt := 22) B.exec hb (show decode (x_mB 128) 9 = .ok (.if_icmp .lt 13, 3) by decide +kernel) (by decide) (fun hlt => ?_) (fun _ => thr)
  rcases hk with hk | hk
  · exact absurd hk hnl
  · exact absurd hlt hk

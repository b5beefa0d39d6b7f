theorem ok_0 : x_mOK 0 := ⟨x_tm2 (List.mem_of_getElem? (i := 134) rfl) rfl, 111, by decide +kernel⟩
theorem ok_3 : x_mOK 3 := ⟨x_tm1 (List.mem_of_getElem? (i := 200) rfl) rfl, 108, by decide +kernel⟩
theorem ok_12 : x_mOK 12 := ⟨x_tm2 (List.mem_of_getElem? (i := 215) rfl) rfl, 113, by decide +kernel⟩
theorem ok_24 : x_mOK 24 := ⟨x_tm1 (List.mem_of_getElem? (i := 55) rfl) rfl, 103, by decide +kernel⟩
theorem ok_32 : x_mOK 32 := ⟨x_tm1 (List.mem_of_getElem? (i := 173) rfl) rfl, 107, by decide +kernel⟩
theorem ok_40 : x_mOK 40 := ⟨x_tm1 (List.mem_of_getElem? (i := 132) rfl) rfl, 106, by decide +kernel⟩
theorem ok_51 : x_mOK 51 := ⟨x_tm2 (List.mem_of_getElem? (i := 79) rfl) rfl, 110, by decide +kernel⟩
theorem ok_71 : x_mOK 71 := ⟨x_tm2 (List.mem_of_getElem? (i := 23) rfl) rfl, 109, by decide +kernel⟩
theorem ok_76 : x_mOK 76 := ⟨x_tm1 (List.mem_of_getElem? (i := 37) rfl) rfl, 102, by decide +kernel⟩
theorem ok_79 : x_mOK 79 := ⟨x_tm1 (List.mem_of_getElem? (i := 93) rfl) rfl, 104, by decide +kernel⟩
theorem ok_89 : x_mOK 89 := ⟨x_tm2 (List.mem_of_getElem? (i := 168) rfl) rfl, 112, by decide +kernel⟩
theorem ok_112 : x_mOK 112 := ⟨x_tm1 (List.mem_of_getElem? (i := 29) rfl) rfl, 101, by decide +kernel⟩
theorem ok_145 : x_mOK 145 := ⟨x_tm6 (List.mem_of_getElem? (i := 31) rfl) rfl, 114, by decide +kernel⟩
def x_ctors : List Nat := [0, 3, 12, 24, 32, 40, 51, 71, 76, 79, 89, 112, 145]
theorem x_ctok : ∀ m ∈ x_ctors, x_mOK m := List.forall_mem_cons.mpr ⟨ok_0, List.forall_mem_cons.mpr ⟨ok_3, List.forall_mem_cons.mpr ⟨ok_12, List.forall_mem_cons.mpr ⟨ok_24, List.forall_mem_cons.mpr ⟨ok_32, List.forall_mem_cons.mpr ⟨ok_40, List.forall_mem_cons.mpr ⟨ok_51, List.forall_mem_cons.mpr ⟨ok_71, List.forall_mem_cons.mpr ⟨ok_76, List.forall_mem_cons.mpr ⟨ok_79, List.forall_mem_cons.mpr ⟨ok_89, List.forall_mem_cons.mpr ⟨ok_112, List.forall_mem_cons.mpr ⟨ok_145, fun _ h => absurd h List.not_mem_nil⟩⟩⟩⟩⟩⟩⟩⟩⟩⟩⟩⟩⟩
def x_kd (t : ArrayType) : Nat := if t = .int then 100 else if t = .boolean then 101 else if t = .long then 102 else 0
def x_ann (m : Nat) (ins : Instr) (st : List Value) : xe := match ins with
  | .iconst n => (ins, .int (Int32.ofInt n), 0, 0)
  | .bipush n => (ins, .int (Int8.ofInt n).toInt32, 0, 0)
  | .sipush n => (ins, .int (Int16.ofInt n).toInt32, 0, 0)
  | .lconst n => (ins, .long (Int64.ofNat (n : Nat)), 0, 0)
  | .ldc k => (ins, (match x_kc (x_mo m) k with | some e => e.2.1 | none => .null), 0, 0)
  | .ldc_w k => (ins, (match x_kc (x_mo m) k with | some e => e.2.1 | none => .null), 0, 0)
  | .iinc _ k => (ins, .int (Int32.ofInt k), 0, 0)
  | .getfield k => (match x_fl (x_mo m) k with | some e => (ins, .null, e.2.1, e.2.2.1) | none => (ins, .null, 0, 0))
  | .putfield k => (match x_fl (x_mo m) k with | some e => (ins, .null, e.2.1, e.2.2.1) | none => (ins, .null, 0, 0))
  | .new k => (match x_nw (x_mo m) k with | some e => (ins, .null, e.2.1, 0) | none => (ins, .null, 0, 0))
  | .newarray t => (ins, .null, x_kd t, (match st with | .int n :: _ => n.toNatClampNeg | _ => 0))
  | _ => (ins, .null, 0, 0)
def x_cmp (c : ClassFile.Cond) (x y : Int32) : Bool := match c with
  | .eq => decide (x = y)
  | .ne => decide (¬ x = y)
  | .lt => decide (x < y)
  | .ge => decide (y ≤ x)
  | .gt => decide (y < x)
  | .le => decide (x ≤ y)
def x_fillS (S : xS) (j : Nat) (x : Int32) : xS := x_pA S j (fun a => if a < x_N S j then x else x_A S j a)
def x_E0 : Nat × (Nat → Int32) := (0, fun _ => 0)
def x_bdb (bs : List (Int32 × Nat)) : Bool := bs.all (fun q => decide (¬ (q.1 < 0 ∨ q.2 ≤ q.1.toNatClampNeg)))
abbrev xG : Type := List (Nat × Value) × List Value × xS × Nat
def x_zok (ins : Instr) (st : List Value) : Bool := match ins with
  | .iastore => (match st with
    | _ :: _ :: .ref j :: _ => decide (j = 12)
    | _ => false)
  | .bastore => false
  | .lastore => false
  | _ => true
def x_go : Nat → Nat → Nat → Option Nat → Nat → List (Nat × Value) → List Value → xS → Option xG
  | 0, _, _, _, _, _, _, _ => none
  | k + 1, d, m, stop, pc, lv, st, S => if stop = some pc then some (lv, st, S, pc) else match decode (x_mB m) pc with
    | .error _ => none
    | .ok (ins, _) => match ins with
      | .return_ => if stop = none ∧ st = [] ∧ x_mR m = none ∧ decode (x_mB m) pc = .ok (.return_, 1) then some (lv, st, S, pc) else none
      | .goto off => if ((pc : Int) + off = ((((pc : Int) + off).toNat : Nat) : Int)) ∧ decode (x_mB m) pc = .ok (.goto off, 3) then x_go k d m stop ((pc : Int) + off).toNat lv st S else none
      | .if_icmp c off => (match st with
        | .int y :: .int x :: t => if ((pc : Int) + off = ((((pc : Int) + off).toNat : Nat) : Int)) ∧ decode (x_mB m) pc = .ok (.if_icmp c off, 3) then (if x_cmp c x y then x_go k d m stop ((pc : Int) + off).toNat lv t S else x_go k d m stop (pc + 3) lv t S) else none
        | _ => none)
      | .invokespecial idx => (match d, x_cl (x_mo m) idx with
        | d1 + 1, some (i0, kind, m1, ps) => if decode (x_mB m) pc = .ok (.invokespecial idx, 3) ∧ x_mo m < 20 then (if kind = 4 then (match st with
            | .ref _ :: t => if (t.map fun v => v.category).sum ≤ 8 then x_go k (d1 + 1) m stop (pc + 3) lv t S else none
            | _ => none)
          else if (kind = 2 ∨ kind = 3) ∧ m1 ∈ x_ctors then (match st.drop (x_mN m1) with
            | .ref b :: t => if (st.take (x_mN m1)).length = x_mN m1 ∧ (t.map fun v => v.category).sum ≤ 8 ∧ (lg_sl (.ref b :: (st.take (x_mN m1)).reverse)).length ≤ x_mL m1 then (match x_go k d1 m1 none 0 (lv_args 0 (.ref b :: (st.take (x_mN m1)).reverse)) [] S with
              | some (_, _, S1, _) => x_go k (d1 + 1) m stop (pc + 3) lv t S1
              | none => none) else none
            | _ => none)
          else none) else none
        | _, _ => none)
      | .invokestatic idx => (match d, x_cl (x_mo m) idx with
        | d1 + 1, some (i0, kind, m1, ps) => if decode (x_mB m) pc = .ok (.invokestatic idx, 3) ∧ x_mo m < 20 ∧ kind = 1 ∧ m1 = 230 then (match st with
            | .int x :: .ref j :: t => if x_K S j = 100 ∧ x_N S j < 2 ^ 31 ∧ (t.map fun v => v.category).sum ≤ 8 ∧ (j = 12 ∨ j = 23) then x_go k (d1 + 1) m stop (pc + 3) lv t (x_fillS S j x) else none
            | _ => none) else none
        | _, _ => none)
      | .iaload => none
      | .arraylength => none
      | _ => if x_chk m pc (x_ann m ins st) = true ∧ x_zok ins st = true then (match x_ex x_E0 (x_ann m ins st) lv st S with
        | some (bs, lv1, st1, S1) => if x_bdb bs = true then x_go k d m stop (pc + x_ln (x_ann m ins st).1) lv1 st1 S1 else none
        | none => none) else none
theorem x_ex_E {E E' : Nat × (Nat → Int32)} {i : xe} {lv : List (Nat × Value)} {st : List Value} {S : xS} (h1 : i.1 ≠ .iaload) (h2 : i.1 ≠ .arraylength) : x_ex E i lv st S = x_ex E' i lv st S := by
  obtain ⟨ins, v, a, b⟩ := i
  cases ins <;> first | rfl | exact absurd rfl h1 | exact absurd rfl h2
theorem x_bdb_ok : ∀ {bs : List (Int32 × Nat)}, x_bdb bs = true → x_bds bs
  | [], _ => trivial
  | q :: t, h => by
    unfold x_bdb at h
    rw [List.all_cons, Bool.and_eq_true] at h
    have h1 := of_decide_eq_true h.1
    exact ⟨h1, x_bdb_ok h.2⟩
theorem x_ann_1 {m : Nat} {ins : Instr} {st : List Value} : (x_ann m ins st).1 = ins := by
  unfold x_ann
  cases ins <;> first | rfl | (dsimp only; split <;> rfl)
theorem x_cmp_t {E : Nat × (Nat → Int32)} {d m pc tgt : Nat} {off : Int} {c : ClassFile.Cond} {lv : List (Nat × Value)} {st : List Value} {S S' : xS} {r : Option Value} {x y : Int32} (hdg : decode (x_mB m) pc = .ok (.if_icmp c off, 3)) (ht : (pc : Int) + off = (tgt : Int)) (hc : x_cmp c x y = true) (h : x_Rw E d m tgt lv st S r S') : x_Rw E d m pc lv (.int y :: .int x :: st) S r S' := by
  cases c
  all_goals (have hc := of_decide_eq_true hc)
  · exact xb_ic_eq_t hdg ht hc h
  · exact xb_ic_ne_t hdg ht hc h
  · exact xb_ic_lt_t hdg ht hc h
  · exact xb_ic_ge_t hdg ht hc h
  · exact xb_ic_gt_t hdg ht hc h
  · exact xb_ic_le_t hdg ht hc h
theorem x_cmp_f {E : Nat × (Nat → Int32)} {d m pc tgt : Nat} {off : Int} {c : ClassFile.Cond} {lv : List (Nat × Value)} {st : List Value} {S S' : xS} {r : Option Value} {x y : Int32} (hdg : decode (x_mB m) pc = .ok (.if_icmp c off, 3)) (ht : (pc : Int) + off = (tgt : Int)) (hc : ¬ x_cmp c x y = true) (h : x_Rw E d m (pc + 3) lv st S r S') : x_Rw E d m pc lv (.int y :: .int x :: st) S r S' := by
  cases c
  all_goals (have hc := of_decide_eq_false (Bool.eq_false_iff.mpr hc))
  · exact xb_ic_eq_f hdg ht hc h
  · exact xb_ic_ne_f hdg ht (Classical.not_not.mp hc) h
  · exact xb_ic_lt_f hdg ht hc h
  · exact xb_ic_ge_f hdg ht hc h
  · exact xb_ic_gt_f hdg ht hc h
  · exact xb_ic_le_f hdg ht hc h
def x_goP (E : Nat × (Nat → Int32)) (d m : Nat) (stop : Option Nat) (pc : Nat) (lv : List (Nat × Value)) (st : List Value) (S : xS) (G : xG) : Prop :=
  (stop = some G.2.2.2 → ∀ r S', x_Rw E d m G.2.2.2 G.1 G.2.1 G.2.2.1 r S' → x_Rw E d m pc lv st S r S') ∧ (stop = none → x_Rw E d m pc lv st S none G.2.2.1)
theorem x_goP.step {E : Nat × (Nat → Int32)} {d m pc pc1 : Nat} {stop : Option Nat} {lv lv1 : List (Nat × Value)} {st st1 : List Value} {S S1 : xS} {G : xG} (h : ∀ r S', x_Rw E d m pc1 lv1 st1 S1 r S' → x_Rw E d m pc lv st S r S') (k : x_goP E d m stop pc1 lv1 st1 S1 G) : x_goP E d m stop pc lv st S G := ⟨fun hs r S' hr => h _ _ (k.1 hs r S' hr), fun hs => h _ _ (k.2 hs)⟩
set_option maxHeartbeats 4000000 in
theorem x_go_ok {E : Nat × (Nat → Int32)} : ∀ (k d m : Nat) (stop : Option Nat) (pc : Nat) (lv : List (Nat × Value)) (st : List Value) (S : xS) (G : xG), x_go k d m stop pc lv st S = some G → (stop = none ∨ stop = some G.2.2.2) ∧ x_goP E d m stop pc lv st S G
  | 0, d, m, stop, pc, lv, st, S, G, h => by simp [x_go] at h
  | k + 1, d, m, stop, pc, lv, st, S, G, h => by
    unfold x_go at h
    split at h
    · rename_i hs
      cases (Option.some.inj h)
      exact ⟨Or.inr hs, fun _ r S' hr => hr, fun h0 => by rw [hs] at h0; cases h0⟩
    · split at h
      · cases h
      · rename_i ins ln hd
        split at h
        · split at h
          · rename_i hc
            cases (Option.some.inj h)
            obtain ⟨c1, c2, c3, c4⟩ := hc
            subst c2
            exact ⟨Or.inl c1, fun h0 => (by rw [c1] at h0; cases h0), fun _ => xi_ret0 c4 c3⟩
          · cases h
        · split at h
          · rename_i off hc
            obtain ⟨i1, i2⟩ := x_go_ok k _ _ _ _ _ _ _ _ h
            exact ⟨i1, i2.step (fun r S' hr => xi_goto hc.2 hc.1 hr)⟩
          · cases h
        · split at h
          · split at h
            · rename_i hc
              split at h
              · rename_i hq
                obtain ⟨i1, i2⟩ := x_go_ok k _ _ _ _ _ _ _ _ h
                exact ⟨i1, i2.step (fun r S' hr => x_cmp_t hc.2 hc.1 hq hr)⟩
              · rename_i hq
                obtain ⟨i1, i2⟩ := x_go_ok k _ _ _ _ _ _ _ _ h
                exact ⟨i1, i2.step (fun r S' hr => x_cmp_f hc.2 hc.1 hq hr)⟩
            · cases h
          · cases h
        · split at h
          · rename_i d1 i0 kind m1 ps hcl
            split at h
            · rename_i hdg
              split at h
              · rename_i hk4
                subst hk4
                split at h
                · split at h
                  · rename_i hst
                    obtain ⟨i1, i2⟩ := x_go_ok k _ _ _ _ _ _ _ _ h
                    exact ⟨i1, i2.step (fun r S' hr => xi_obj hdg.1 hcl hdg.2 hst hr)⟩
                  · cases h
                · cases h
              · split at h
                · rename_i hkk
                  split at h
                  · rename_i b t htk
                    split at h
                    · rename_i hst
                      split at h
                      · rename_i q1 q2 S1 q3 hgo
                        obtain ⟨j1, j2⟩ := x_go_ok k _ _ _ _ _ _ _ _ hgo
                        obtain ⟨i1, i2⟩ := x_go_ok k _ _ _ _ _ _ _ _ h
                        have hcall : x_Call E d1 m1 (.ref b :: (st.take (x_mN m1)).reverse) S none S1 := x_meth (x_ctok m1 hkk.2) hst.2.2 (j2.2 rfl)
                        have hsplit : st = (st.take (x_mN m1)).reverse.reverse ++ .ref b :: t := by
                          rw [List.reverse_reverse, ← htk, List.take_append_drop]
                        refine ⟨i1, i2.step (fun r S' hr => ?_)⟩
                        rw [hsplit]
                        rcases hkk.1 with rfl | rfl
                        · exact xi_callI hdg.1 hcl hdg.2 (by rw [List.length_reverse]; exact hst.1) hst.2.1 hcall hr
                        · exact xi_callIN hdg.1 hcl hdg.2 (by rw [List.length_reverse]; exact hst.1) hst.2.1 hcall hr
                      · cases h
                    · cases h
                  · cases h
                · cases h
            · cases h
          · cases h
        · split at h
          · rename_i d1 i0 kind m1 ps hcl
            split at h
            · rename_i hdg
              obtain ⟨g1, g2, rfl, rfl⟩ := hdg
              split at h
              · rename_i x j t
                split at h
                · rename_i hst
                  obtain ⟨i1, i2⟩ := x_go_ok k _ _ _ _ _ _ _ _ h
                  exact ⟨i1, i2.step (fun r S' hr => xi_callS (As := [.ref j, .int x]) (r1 := none) g1 hcl g2 rfl hst.2.2.1 (x_fillC hst.1 hst.2.1) hr)⟩
                · cases h
              · cases h
            · cases h
          · cases h
        · cases h
        · cases h
        · rename_i hn1 hn2 _ _ _ hia hal
          split at h
          · rename_i hc
            split at h
            · rename_i bs lv1 st1 S1 hx
              split at h
              · rename_i hb
                obtain ⟨i1, i2⟩ := x_go_ok k _ _ _ _ _ _ _ _ h
                refine ⟨i1, i2.step (fun r S' hr => ?_)⟩
                rw [x_ex_E (E' := E) (by rw [x_ann_1]; exact hia) (by rw [x_ann_1]; exact hal)] at hx
                exact x_ex_ok hc.1 hx (x_bdb_ok hb) hr
              · cases h
            · cases h
          · cases h
/-- no array but 12 and 23 is written -/
def x_Z (S : xS) : Prop := (∀ i, i = 12 ∨ i = 23 ∨ x_A S i = fun _ => 0) ∧ ∀ i, x_B S i = fun _ => 0
theorem x_Z_new {S : xS} (h : x_Z S) (a b : Nat) : x_Z (x_newA S a b) := by
  refine ⟨fun i => ?_, fun i => ?_⟩
  · by_cases e : i = x_n S
    · exact Or.inr (Or.inr (by rw [e]; exact xu1_s _ _ _))
    · have : x_A (x_newA S a b) i = x_A S i := xu1_n _ _ e
      rw [this]
      exact h.1 i
  · by_cases e : i = x_n S
    · rw [e]
      exact xu1_s _ _ _
    · have : x_B (x_newA S a b) i = x_B S i := xu1_n _ _ e
      rw [this]
      exact h.2 i
theorem x_Z_A {S : xS} (h : x_Z S) {j : Nat} (hj : j = 12 ∨ j = 23) (f : Nat → Int32) : x_Z (x_pA S j f) := by
  refine ⟨fun i => ?_, h.2⟩
  by_cases e : i = j
  · rcases hj with hj | hj
    · exact Or.inl (e.trans hj)
    · exact Or.inr (Or.inl (e.trans hj))
  · have : x_A (x_pA S j f) i = x_A S i := xu1_n _ _ e
    rw [this]
    exact h.1 i
theorem x_ex_Z {E : Nat × (Nat → Int32)} {i : xe} {lv : List (Nat × Value)} {st : List Value} {S : xS} {R : xR} (hx : x_ex E i lv st S = some R) (hk : x_zok i.1 st = true) (hz : x_Z S) : x_Z R.2.2.2 := by
  obtain ⟨ins, v, a, b⟩ := i
  cases ins with
  | iconst n =>
    cases (Option.some.inj hx)
    exact hz
  | bipush n =>
    cases (Option.some.inj hx)
    exact hz
  | sipush n =>
    cases (Option.some.inj hx)
    exact hz
  | lconst n =>
    cases (Option.some.inj hx)
    exact hz
  | ldc n =>
    cases (Option.some.inj hx)
    exact hz
  | ldc_w n =>
    cases (Option.some.inj hx)
    exact hz
  | ldc2_w n =>
    cases (Option.some.inj hx)
    exact hz
  | iload n =>
    obtain ⟨x, hk, rfl⟩ := x_dI_inv (show x_dI lv n st S = some R from hx)
    exact hz
  | iload_n n =>
    obtain ⟨x, hk, rfl⟩ := x_dI_inv (show x_dI lv n st S = some R from hx)
    exact hz
  | lload n =>
    obtain ⟨x, hk, rfl⟩ := x_dL_inv (show x_dL lv n st S = some R from hx)
    exact hz
  | lload_n n =>
    obtain ⟨x, hk, rfl⟩ := x_dL_inv (show x_dL lv n st S = some R from hx)
    exact hz
  | aload n =>
    obtain ⟨x, hk, rfl⟩ := x_dR_inv (show x_dR lv n st S = some R from hx)
    exact hz
  | aload_n n =>
    obtain ⟨x, hk, rfl⟩ := x_dR_inv (show x_dR lv n st S = some R from hx)
    exact hz
  | istore n =>
    obtain ⟨x, t, rfl, rfl⟩ := x_tI_inv (show x_tI lv n st S = some R from hx)
    exact hz
  | istore_n n =>
    obtain ⟨x, t, rfl, rfl⟩ := x_tI_inv (show x_tI lv n st S = some R from hx)
    exact hz
  | lstore n =>
    obtain ⟨x, t, rfl, rfl⟩ := x_tL_inv (show x_tL lv n st S = some R from hx)
    exact hz
  | lstore_n n =>
    obtain ⟨x, t, rfl, rfl⟩ := x_tL_inv (show x_tL lv n st S = some R from hx)
    exact hz
  | astore n =>
    obtain ⟨x, t, rfl, rfl⟩ := x_tR_inv (show x_tR lv n st S = some R from hx)
    exact hz
  | astore_n n =>
    obtain ⟨x, t, rfl, rfl⟩ := x_tR_inv (show x_tR lv n st S = some R from hx)
    exact hz
  | iinc n k =>
    obtain ⟨x, w, hk, he, rfl⟩ := x_inc_inv (show x_inc lv n v st S = some R from hx)
    exact hz
  | dup =>
    obtain ⟨w, t, rfl, hv, rfl⟩ := x_dup_inv (show x_dup lv st S = some R from hx)
    exact hz
  | pop =>
    obtain ⟨w, t, rfl, hv, rfl⟩ := x_pop_inv (show x_pop lv st S = some R from hx)
    exact hz
  | dup2 =>
    obtain ⟨w, u, t, rfl, hv, hw, rfl⟩ := x_dup2_inv (show x_dup2 lv st S = some R from hx)
    exact hz
  | iadd =>
    obtain ⟨y, x, t, rfl, rfl⟩ := x_b2_inv (show x_b2 _ lv st S = some R from hx)
    exact hz
  | isub =>
    obtain ⟨y, x, t, rfl, rfl⟩ := x_b2_inv (show x_b2 _ lv st S = some R from hx)
    exact hz
  | imul =>
    obtain ⟨y, x, t, rfl, rfl⟩ := x_b2_inv (show x_b2 _ lv st S = some R from hx)
    exact hz
  | iand =>
    obtain ⟨y, x, t, rfl, rfl⟩ := x_b2_inv (show x_b2 _ lv st S = some R from hx)
    exact hz
  | ior =>
    obtain ⟨y, x, t, rfl, rfl⟩ := x_b2_inv (show x_b2 _ lv st S = some R from hx)
    exact hz
  | ixor =>
    obtain ⟨y, x, t, rfl, rfl⟩ := x_b2_inv (show x_b2 _ lv st S = some R from hx)
    exact hz
  | ishl =>
    obtain ⟨y, x, t, rfl, rfl⟩ := x_b2_inv (show x_b2 _ lv st S = some R from hx)
    exact hz
  | ishr =>
    obtain ⟨y, x, t, rfl, rfl⟩ := x_b2_inv (show x_b2 _ lv st S = some R from hx)
    exact hz
  | iushr =>
    obtain ⟨y, x, t, rfl, rfl⟩ := x_b2_inv (show x_b2 _ lv st S = some R from hx)
    exact hz
  | ladd =>
    obtain ⟨y, x, t, rfl, rfl⟩ := x_l2_inv (show x_l2 _ lv st S = some R from hx)
    exact hz
  | lsub =>
    obtain ⟨y, x, t, rfl, rfl⟩ := x_l2_inv (show x_l2 _ lv st S = some R from hx)
    exact hz
  | lmul =>
    obtain ⟨y, x, t, rfl, rfl⟩ := x_l2_inv (show x_l2 _ lv st S = some R from hx)
    exact hz
  | land =>
    obtain ⟨y, x, t, rfl, rfl⟩ := x_l2_inv (show x_l2 _ lv st S = some R from hx)
    exact hz
  | lor =>
    obtain ⟨y, x, t, rfl, rfl⟩ := x_l2_inv (show x_l2 _ lv st S = some R from hx)
    exact hz
  | lushr =>
    obtain ⟨y, x, t, rfl, rfl⟩ := x_li_inv (show x_li _ lv st S = some R from hx)
    exact hz
  | lshl =>
    obtain ⟨y, x, t, rfl, rfl⟩ := x_li_inv (show x_li _ lv st S = some R from hx)
    exact hz
  | i2l =>
    obtain ⟨x, t, rfl, rfl⟩ := x_il_inv (show x_il lv st S = some R from hx)
    exact hz
  | lcmp =>
    obtain ⟨y, x, t, rfl, rfl⟩ := x_lc_inv (show x_lc lv st S = some R from hx)
    exact hz
  | getfield k =>
    obtain ⟨j, t, w, rfl, hK, hv, rfl⟩ := x_gf_inv (show x_gf a b lv st S = some R from hx)
    exact hz
  | putfield k =>
    rcases x_pf_inv (show x_pf a b lv st S = some R from hx) with ⟨x, j, t, rfl, hK, ht, rfl⟩ | ⟨x, j, t, rfl, hK, ht, rfl⟩ | ⟨x, j, t, rfl, hK, ht, rfl⟩ | ⟨x, j, t, rfl, hK, ht, rfl⟩ <;> exact hz
  | iaload =>
    obtain ⟨i, j, t, rfl, ⟨hK, rfl⟩ | ⟨rfl, rfl⟩⟩ := x_al_inv (show x_al E lv st S = some R from hx) <;> exact hz
  | baload =>
    obtain ⟨i, j, t, rfl, hK, rfl⟩ := x_zl_inv (show x_zl lv st S = some R from hx)
    exact hz
  | laload =>
    obtain ⟨i, j, t, rfl, hK, rfl⟩ := x_ll_inv (show x_ll lv st S = some R from hx)
    exact hz
  | iastore =>
    obtain ⟨x, i, j, t, rfl, hK, rfl⟩ := x_as_inv (show x_as lv st S = some R from hx)
    have hj : j = 12 := of_decide_eq_true hk
    exact x_Z_A hz (Or.inl hj) _
  | bastore =>
    exact absurd hk (by simp [x_zok])
  | lastore =>
    exact absurd hk (by simp [x_zok])
  | arraylength =>
    obtain ⟨j, t, rfl, ⟨hK, rfl⟩ | ⟨rfl, rfl⟩⟩ := x_len_inv (show x_len E lv st S = some R from hx) <;> exact hz
  | new k =>
    obtain ⟨hn, rfl⟩ := x_mkN_inv (show x_mkN a lv st S = some R from hx)
    exact hz
  | newarray ty =>
    obtain ⟨n, t, rfl, _, rfl⟩ := x_mkA_inv (show x_mkA a b lv st S = some R from hx)
    exact x_Z_new hz a b
  | _ => exact absurd hx (by simp [x_ex])
set_option maxHeartbeats 4000000 in
theorem x_go_Z : ∀ (k d m : Nat) (stop : Option Nat) (pc : Nat) (lv : List (Nat × Value)) (st : List Value) (S : xS) (G : xG), x_go k d m stop pc lv st S = some G → x_Z S → x_Z G.2.2.1
  | 0, d, m, stop, pc, lv, st, S, G, h, hz => by simp [x_go] at h
  | k + 1, d, m, stop, pc, lv, st, S, G, h, hz => by
    unfold x_go at h
    split at h
    · cases (Option.some.inj h)
      exact hz
    · split at h
      · cases h
      · split at h
        · split at h
          · cases (Option.some.inj h)
            exact hz
          · cases h
        · split at h
          · exact x_go_Z k _ _ _ _ _ _ _ _ h hz
          · cases h
        · split at h
          · split at h
            · split at h
              · exact x_go_Z k _ _ _ _ _ _ _ _ h hz
              · exact x_go_Z k _ _ _ _ _ _ _ _ h hz
            · cases h
          · cases h
        · split at h
          · split at h
            · split at h
              · split at h
                · split at h
                  · exact x_go_Z k _ _ _ _ _ _ _ _ h hz
                  · cases h
                · cases h
              · split at h
                · split at h
                  · split at h
                    · split at h
                      · rename_i hgo
                        exact x_go_Z k _ _ _ _ _ _ _ _ h (x_go_Z k _ _ _ _ _ _ _ _ hgo hz)
                      · cases h
                    · cases h
                  · cases h
                · cases h
            · cases h
          · cases h
        · split at h
          · split at h
            · split at h
              · split at h
                · rename_i hst
                  exact x_go_Z k _ _ _ _ _ _ _ _ h (x_Z_A hz hst.2.2.2 _)
                · cases h
              · cases h
            · cases h
          · cases h
        · cases h
        · cases h
        · split at h
          · rename_i hc
            split at h
            · rename_i hx
              split at h
              · exact x_go_Z k _ _ _ _ _ _ _ _ h (x_ex_Z hx (by rw [x_ann_1]; exact hc.2) hz)
              · cases h
            · cases h
          · cases h

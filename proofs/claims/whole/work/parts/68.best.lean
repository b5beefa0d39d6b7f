/-! the best reading kept -/
def rdl (G : Cx) : Nat → List (List Nat) → Nat → List Nat
  | 0, _, _ => []
  | n + 1, L, k => if k < cN G then (match UL G L k with | some (_, _, w) => w :: rdl G n (der (cs G w) L) (k + cl G w) | none => []) else []
theorem rdl_0 (G : Cx) (L : List (List Nat)) (k : Nat) : rdl G 0 L k = [] := rfl
theorem rdl_e {G : Cx} {n : Nat} {L : List (List Nat)} {k : Nat} (h : ¬ k < cN G) : rdl G n L k = [] := by
  cases n with
  | zero => rfl
  | succ n => exact if_neg h
theorem rdl_s {G : Cx} {n : Nat} {L : List (List Nat)} {k c m w : Nat} (h : k < cN G) (e : UL G L k = some (c, m, w)) : rdl G (n + 1) L k = w :: rdl G n (der (cs G w) L) (k + cl G w) := by
  show (if k < cN G then _ else _) = _
  rw [if_pos h, e]
theorem rdl_perm (G : Cx) (n : Nat) : ∀ {L L' : List (List Nat)} (k : Nat), L.Perm L' → rdl G n L k = rdl G n L' k := by
  induction n with
  | zero => exact fun _ _ => rfl
  | succ n ih =>
    intro L L' k h
    show (if k < cN G then _ else _) = (if k < cN G then _ else _)
    rw [UL_perm G h k]
    split
    · cases UL G L' k with
      | none => rfl
      | some x =>
        obtain ⟨a, b, w⟩ := x
        show w :: _ = w :: _
        rw [ih (k + cl G w) (der_perm h)]
    · rfl
/-- the words written from place 6 s on -/
def wpF (o : Nat → Int32) (s : Nat) (ws : List Nat) : Nat → Int32 := fun j => if 6 * s ≤ j ∧ j < 6 * s + ws.length then nI (ws[j - 6 * s]?.getD 0) else o j
theorem wpF_0 (o : Nat → Int32) (s : Nat) : wpF o s [] = o := by
  funext j
  unfold wpF
  rw [if_neg (by rw [List.length_nil]; omega)]
theorem wpF_s (o : Nat → Int32) (s : Nat) (ws : List Nat) (w : Nat) : upd (wpF o s ws) (6 * s + ws.length) (nI w) = wpF o s (ws ++ [w]) := by
  funext j
  rw [upd_i]
  unfold wpF
  rw [List.length_append, List.length_singleton]
  by_cases h : j = 6 * s + ws.length
  · subst h
    rw [if_pos rfl, if_pos (by omega), Nat.add_sub_cancel_left, List.getElem?_concat_length]
    rfl
  · rw [if_neg h]
    by_cases h2 : 6 * s ≤ j ∧ j < 6 * s + ws.length
    · rw [if_pos h2, if_pos (by omega), List.getElem?_append_left (by omega)]
    · rw [if_neg h2, if_neg (by omega)]
/-- the first word of a sort -/
def fstI (sf : Nat → Nat) (z : Nat) : List Nat → Int32
  | [] => -1
  | w :: t => if sf w = z then nI w else fstI sf z t
theorem fstI_a (sf : Nat → Nat) (z : Nat) (ws : List Nat) (w : Nat) (h : ∀ x, x ∈ ws → x < 80) : fstI sf z (ws ++ [w]) = if fstI sf z ws = -1 then (if sf w = z then nI w else -1) else fstI sf z ws := by
  induction ws with
  | nil =>
    show (if sf w = z then nI w else -1) = if (-1 : Int32) = -1 then _ else _
    rw [if_pos rfl]
  | cons x ws ih =>
    show (if sf x = z then nI x else fstI sf z (ws ++ [w])) = if (if sf x = z then nI x else fstI sf z ws) = -1 then _ else (if sf x = z then nI x else fstI sf z ws)
    by_cases e : sf x = z
    · rw [if_pos e, if_pos e, if_neg (m1_ne (by have := h x (List.mem_cons_self ..); omega))]
    · rw [if_neg e, if_neg e, ih (fun y hy => h y (List.mem_cons_of_mem _ hy))]
def fsF (o : Nat → Int32) (s : Nat) (sf : Nat → Nat) (ws : List Nat) : Nat → Int32 := fun j => if 3 * s ≤ j ∧ j < 3 * s + 3 then fstI sf (j - 3 * s) ws else o j
def fstU (o : Nat → Int32) (s z w : Nat) : Nat → Int32 := if z < 3 ∧ o (3 * s + z) = -1 then upd o (3 * s + z) (nI w) else o
theorem fsF_s (o : Nat → Int32) (s : Nat) (sf : Nat → Nat) (ws : List Nat) (w : Nat) (h : ∀ x, x ∈ ws → x < 80) : fstU (fsF o s sf ws) s (sf w) w = fsF o s sf (ws ++ [w]) := by
  have hv : ∀ z, z < 3 → fsF o s sf ws (3 * s + z) = fstI sf z ws := by
    intro z hz
    unfold fsF
    rw [if_pos (by omega), Nat.add_sub_cancel_left]
  funext j
  unfold fstU
  by_cases hj : 3 * s ≤ j ∧ j < 3 * s + 3
  · have hr : fsF o s sf (ws ++ [w]) j = fstI sf (j - 3 * s) (ws ++ [w]) := by
      unfold fsF
      rw [if_pos hj]
    have hl : fsF o s sf ws j = fstI sf (j - 3 * s) ws := by
      unfold fsF
      rw [if_pos hj]
    rw [hr, fstI_a sf _ ws w h]
    by_cases hz : sf w < 3
    · by_cases ez : fstI sf (sf w) ws = -1
      · rw [if_pos ⟨hz, by rw [hv _ hz]; exact ez⟩, upd_i]
        by_cases e : j = 3 * s + sf w
        · rw [if_pos e, show j - 3 * s = sf w by omega, if_pos ez, if_pos rfl]
        · rw [if_neg e, hl, if_neg (show ¬ sf w = j - 3 * s by omega)]
          split
          · rename_i e2
            exact e2
          · rfl
      · rw [if_neg (fun g => ez (by rw [← hv _ hz]; exact g.2)), hl]
        split
        · rename_i e2
          rw [if_neg, e2]
          intro e3
          rw [← e3] at e2
          exact ez e2
        · rfl
    · rw [if_neg (fun g => hz g.1), hl]
      split
      · rename_i e2
        rw [if_neg (by omega), e2]
      · rfl
  · have hr : fsF o s sf (ws ++ [w]) j = o j := by
      unfold fsF
      rw [if_neg hj]
    have hl : fsF o s sf ws j = o j := by
      unfold fsF
      rw [if_neg hj]
    rw [hr]
    split
    · rename_i g
      rw [upd_n _ _ (by omega), hl]
    · exact hl
theorem k_keepFirst {E : Nat × (Nat → Int32)} {d : Nat} {v : xV} {s w z : Nat} {Q : xV → Prop} (hs : s < 20) (hw : w < 80) (hz : gA v 8 w = nI z) (hz5 : z < 5) (k : Q (v_A v 46 (fstU (gA v 46) s z w))) : KV E (d + 1) 67 [.ref 49, .int (nI s), .int (nI w)] v Q := by
  refine KV.of ok_67 (Nat.le_of_ble_eq_true rfl) (w_X6_keepFirst_0 ?_)
  simp (disch := omega) only [nI_add, pk_mul, nI_clamp, nI_leI, nI_ltI, nI_eq, vp_t, true_and, forall_eq, hz]
  unfold fstU at k
  refine ⟨fun h => ?_, fun h => KI.of ok_74 (Nat.le_of_ble_eq_true rfl) (w_X7_firstOf_0 ?_)⟩
  · rw [if_neg (by omega), vAself] at k
    exact k
  · simp (disch := omega) only [nI_add, pk_mul, nI_clamp, nI_leI, nI_ltI, nI_eq, vp_t, true_and, Nat.mul_comm s 3]
    refine ⟨fun h2 => ?_, fun h2 => ?_⟩
    · rw [if_neg (fun g => h2 g.2), vAself] at k
      exact k
    · rw [if_pos ⟨by omega, h2⟩] at k
      exact k
def kb (u : xV) (c n A B : Nat → Int32) : xV := v_A (v_A (v_A (v_A u 42 c) 43 n) 45 A) 46 B
theorem kb_45 (u : xV) (c n A B A' : Nat → Int32) : v_A (kb u c n A B) 45 A' = kb u c n A' B := by unfold kb; rw [vA_c _ (i := 45) (j := 46) (by decide), vA_s]
theorem kb_46 (u : xV) (c n A B B' : Nat → Int32) : v_A (kb u c n A B) 46 B' = kb u c n A B' := by unfold kb; rw [vA_s]
theorem kb_g {u : xV} (hg : 57 ≤ gb u) (c n A B : Nat → Int32) {j : Nat} (hj : 57 ≤ j) : gA (kb u c n A B) j = gA u j := by
  unfold kb
  rw [gA_A, if_neg (by omega), gA_A, if_neg (by omega), gA_A, if_neg (by omega), gA_A, if_neg (by omega)]
theorem vS_ne {f : Nat → Vl} {n i : Nat} (hi : i < n) (h : ¬ f i = none) : ¬ vS f n = none := by
  induction n with
  | zero => omega
  | succ n ih =>
    intro e
    rw [vS_s] at e
    have key : vS f n = none ∧ f n = none := by
      cases e1 : vS f n with
      | none => rw [e1, n_vadd] at e; exact ⟨rfl, e⟩
      | some x =>
        cases e2 : f n with
        | none => rw [e1, e2, vadd_n] at e; cases e
        | some y =>
          obtain ⟨a1, a2, a3⟩ := x
          obtain ⟨b1, b2, b3⟩ := y
          rw [e1, e2, vadd_s] at e
          split at e
          · cases e
          · split at e <;> cases e
    by_cases hin : i = n
    · subst hin
      exact h key.2
    · exact ih (by omega) key.1
theorem k_keepBest {E : Nat × (Nat → Int32)} {d : Nat} {u : xV} {G : Cx} {st en f g h : Nat → Int32} {N Qn s Z c0 n0 p0 : Nat} {Lf : Nat → List (List Nat)} {Q : xV → Prop} (hs : s < 20) (hg : 57 ≤ gb u) (hK : gK u (gb u) = 100 ∧ gK u (gb u + 1) = 100 ∧ gK u (gb u + 2) = 100) (hN : gN u (gb u) = Z ∧ gN u (gb u + 1) = Z ∧ gN u (gb u + 2) = Z) (hZ : 25 * Qn ≤ Z) (hZ2 : Z < 2 ^ 31)
    (hf : gA u (gb u) = f) (hgg : gA u (gb u + 1) = g) (hh : gA u (gb u + 2) = h) (hst : gA u 23 = st) (hD : DFA st en Qn Lf) (hpl : gI u 49 15 = nI N) (hN2 : N ≤ 24) (hcN : cN G = N) (hG : Gok G) (hW : cW G ≤ 80) (hcs : ∀ w, w < cW G → gA u 8 w = nI (cs G w)) (hcl : ∀ w, w < cW G → gA u 7 w = nI (cl G w)) (hC : SCells G st Qn Lf 0 f g h) (hl6 : ∀ t, t ∈ Lf 0 → t.length ≤ 6) (h0 : cellD G st Lf f g h 0 0) (hU : UL G (Lf 0) 0 = some (c0, n0, p0))
    (kk : Q (v_A (kb u (upd (gA u 42) s (nI c0)) (upd (gA u 43) s (nI (min n0 1000))) (wpF (gA u 45) s (rdl G 6 (Lf 0) 0)) (fsF (gA u 46) s (cs G) (rdl G 6 (Lf 0) 0))) 44 (upd (gA u 44) s (nI (rdl G 6 (Lf 0) 0).length)))) (h46 : ∀ j, 3 * s ≤ j → j < 3 * s + 3 → gA u 46 j = -1) : KV E (d + 2) 66 [.ref 49, .int (nI s)] u Q := by
  obtain ⟨K1, K2, K3⟩ := hK
  obtain ⟨N1, N2, N3⟩ := hN
  obtain ⟨⟨hQ1, hQ2⟩, hD2⟩ := hD
  have loop : ∀ r i q k ws, i + r = 6 → ws.length = i → q < Qn → k ≤ N → (∀ t, t ∈ Lf q → t.length ≤ r) → ¬ f (25 * q + k) = -2 → ¬ UL G (Lf q) k = none → (∀ w, w ∈ ws → w < 80) → Q (v_A (kb u (upd (gA u 42) s (nI c0)) (upd (gA u 43) s (nI (min n0 1000))) (wpF (gA u 45) s (ws ++ rdl G r (Lf q) k)) (fsF (gA u 46) s (cs G) (ws ++ rdl G r (Lf q) k))) 44 (upd (gA u 44) s (nI (ws ++ rdl G r (Lf q) k).length))) → RV E (d + 2) 66 40 [(0, .ref 49), (1, .int (nI s)), (2, .int (nI q)), (3, .int (nI k)), (4, .int (nI i)), (5, .int (nI i))] (kb u (upd (gA u 42) s (nI c0)) (upd (gA u 43) s (nI (min n0 1000))) (wpF (gA u 45) s ws) (fsF (gA u 46) s (cs G) ws)) Q := by
    have ex : ∀ i (ws : List Nat), ws.length = i → Q (v_A (kb u (upd (gA u 42) s (nI c0)) (upd (gA u 43) s (nI (min n0 1000))) (wpF (gA u 45) s ws) (fsF (gA u 46) s (cs G) ws)) 44 (upd (gA u 44) s (nI ws.length))) → RV E (d + 2) 66 142 [(0, .ref 49), (1, .int (nI s)), (4, .int (nI i))] (kb u (upd (gA u 42) s (nI c0)) (upd (gA u 43) s (nI (min n0 1000))) (wpF (gA u 45) s ws) (fsF (gA u 46) s (cs G) ws)) Q := by
      intro i ws hl hq
      subst hl
      refine w_X6_keepBest_142 ?_
      simp (disch := omega) only [nI_add, pk_mul, nI_clamp, nI_leI, nI_ltI, nI_eq, vp_t, true_and, forall_eq]
      exact hq
    intro r
    induction r with
    | zero =>
      intro i q k ws hir hl hq hk ht hnd hU hws hQ
      refine w_X6_keepBest_40 ⟨fun _ => ex i ws hl ?_, fun h => absurd ?_ h⟩
      · rw [rdl_0, List.append_nil] at hQ
        exact hQ
      · exact nI_le (by omega) (by omega)
    | succ r ih =>
      intro i q k ws hir hl hq hk ht hnd hU hws hQ
      refine w_X6_keepBest_40 ⟨fun h => ?_, fun _ => ?_⟩
      · exfalso
        rw [nI_leI (by decide) (by omega)] at h
        omega
      rw [show gI (kb u (upd (gA u 42) s (nI c0)) (upd (gA u 43) s (nI (min n0 1000))) (wpF (gA u 45) s ws) (fsF (gA u 46) s (cs G) ws)) 49 15 = nI N from hpl, nI_leI (by omega) (by omega)]
      refine ⟨fun hle => ex i ws hl ?_, fun hlt => ⟨fun h => absurd h (nz_lt (by omega)), fun _ => ?_⟩⟩
      · rw [rdl_e (by omega), List.append_nil] at hQ
        exact hQ
      have hkN : k < cN G := by omega
      have hcd : cellD G st Lf f g h q k := (hC q k hq (Nat.zero_le _) (by omega)).resolve_left hnd
      match eU : UL G (Lf q) k with
      | none => exact absurd eU hU
      | some (c, n, p) =>
        have hcr := (hcd.2 hkN).1
        rw [eU] at hcr
        obtain ⟨r1, r2, r3, r4, r5⟩ := hcr
        obtain ⟨hp, cw, b, m', q', e1, e2, e3⟩ := UL_pick hkN eU
        obtain ⟨⟨hz5, hc1, hc10⟩, hcc⟩ := hG p hp
        have hfit := (hcc k cw e1).2
        have hder : der (cs G p) (Lf q) ≠ [] := by
          intro hde
          rw [hde] at e2
          cases e2
        rcases (hD2 q hq).2.2 (cs G p) hz5 with ⟨_, hde⟩ | ⟨q2, hq2, es, hpm, _⟩
        · exact absurd hde hder
        have hFV : ¬ FV G (cs G p) (cl G p - 1 + 1) k = none := by
          refine vS_ne hp ?_
          rw [if_pos ⟨rfl, by omega⟩, e1]
          intro z
          cases z
        have hnd2 := (hcd.2 hkN).2 (cs G p) (cl G p - 1) q2 hz5 (by omega) es (by omega) hFV
        rw [show k + (cl G p - 1 + 1) = k + cl G p by omega] at hnd2
        have hrd := rdl_s (n := r) hkN eU
        rw [← rdl_perm G r _ hpm] at hrd
        rw [hrd, List.append_cons] at hQ
        have eg3 : gA (kb u (upd (gA u 42) s (nI c0)) (upd (gA u 43) s (nI (min n0 1000))) (wpF (gA u 45) s ws) (fsF (gA u 46) s (cs G) ws)) (gb u + 2) = h := by
          rw [kb_g hg _ _ _ _ (by omega)]
          exact hh
        have ek3 : gK (kb u (upd (gA u 42) s (nI c0)) (upd (gA u 43) s (nI (min n0 1000))) (wpF (gA u 45) s ws) (fsF (gA u 46) s (cs G) ws)) (gb u + 2) = 100 := K3
        have en3 : gN (kb u (upd (gA u 42) s (nI c0)) (upd (gA u 43) s (nI (min n0 1000))) (wpF (gA u 45) s ws) (fsF (gA u 46) s (cs G) ws)) (gb u + 2) = Z := N3
        have eb : gb (kb u (upd (gA u 42) s (nI c0)) (upd (gA u 43) s (nI (min n0 1000))) (wpF (gA u 45) s ws) (fsF (gA u 46) s (cs G) ws)) = gb u := rfl
        rw [eb, ek3, en3, eg3]
        simp (disch := omega) only [pk_mul, nI_add, Nat.mul_comm q 25, nI_clamp, vp_t, true_and, forall_eq, r3, Nat.mul_comm s 6]
        refine ⟨fun h => absurd h (nz_lt (by omega)), fun _ => ?_⟩
        have e45 : upd (gA (kb u (upd (gA u 42) s (nI c0)) (upd (gA u 43) s (nI (min n0 1000))) (wpF (gA u 45) s ws) (fsF (gA u 46) s (cs G) ws)) 45) (6 * s + i) (nI p) = wpF (gA u 45) s (ws ++ [p]) := by
          rw [← hl]
          exact wpF_s _ _ _ _
        rw [e45, kb_45]
        refine k_keepFirst hs (by omega) (z := cs G p) (hcs p hp) hz5 ?_
        have e46 : fstU (gA (kb u (upd (gA u 42) s (nI c0)) (upd (gA u 43) s (nI (min n0 1000))) (wpF (gA u 45) s (ws ++ [p])) (fsF (gA u 46) s (cs G) ws)) 46) s (cs G p) p = fsF (gA u 46) s (cs G) (ws ++ [p]) := fsF_s _ _ _ _ _ hws
        rw [e46, kb_46]
        have e8 : gA (kb u (upd (gA u 42) s (nI c0)) (upd (gA u 43) s (nI (min n0 1000))) (wpF (gA u 45) s (ws ++ [p])) (fsF (gA u 46) s (cs G) (ws ++ [p]))) 8 p = nI (cs G p) := hcs p hp
        have e7 : gA (kb u (upd (gA u 42) s (nI c0)) (upd (gA u 43) s (nI (min n0 1000))) (wpF (gA u 45) s (ws ++ [p])) (fsF (gA u 46) s (cs G) (ws ++ [p]))) 7 p = nI (cl G p) := hcl p hp
        have e23 : gA (kb u (upd (gA u 42) s (nI c0)) (upd (gA u 43) s (nI (min n0 1000))) (wpF (gA u 45) s (ws ++ [p])) (fsF (gA u 46) s (cs G) (ws ++ [p]))) 23 = st := hst
        rw [e8]
        refine KI.of ok_34 (Nat.le_of_ble_eq_true rfl) (w_X4_step_0 ?_)
        rw [e7, e23]
        simp (disch := omega) only [pk_mul, nI_add, Nat.mul_comm q 5, nI_clamp, vp_t, true_and, forall_eq, es]
        refine ih (i + 1) q2 (k + cl G p) (ws ++ [p]) (by omega) (by rw [List.length_append, List.length_singleton, hl]) hq2 (by omega) ?_ hnd2 ?_ ?_ hQ
        · intro t htm
          have := ht _ (der_m.mp (hpm.mem_iff.mp htm))
          rw [List.length_cons] at this
          omega
        · rw [UL_perm G hpm, e2]
          intro z
          cases z
        · intro w hw
          rw [List.mem_append, List.mem_singleton] at hw
          rcases hw with hw | hw
          · exact hws w hw
          · omega
  refine KV.of ok_66 (Nat.le_of_ble_eq_true rfl) (w_X6_keepBest_0 ?_)
  have hE := h0.1
  rw [hU] at hE
  obtain ⟨u1, u2, u3⟩ := hE
  have u1 : f 0 = nI c0 := u1
  have u2 : g 0 = nI (min n0 1000) := u2
  have eg2 : gA (v_A u 42 (upd (gA u 42) s (nI c0))) (gb u + 1) = g := by
    rw [gA_A, if_neg (by omega)]
    exact hgg
  simp (disch := omega) only [K1, K2, N1, N2, hf, forall_eq, nI_clamp, vp_t, true_and, u1, eg2, u2]
  have := loop 6 0 0 0 [] rfl rfl (by omega) (by omega) hl6 h0.1.ne (by rw [hU]; intro z; cases z) (fun w hw => by cases hw) kk
  rw [wpF_0] at this
  have efs : fsF (gA u 46) s (cs G) [] = gA u 46 := by
    funext j
    unfold fsF
    split
    · rename_i hj
      exact (h46 j hj.1 hj.2).symm
    · rfl
  rw [efs] at this
  have ekb : kb u (upd (gA u 42) s (nI c0)) (upd (gA u 43) s (nI (min n0 1000))) (gA u 45) (gA u 46) = v_A (v_A u 42 (upd (gA u 42) s (nI c0))) 43 (upd (gA u 43) s (nI (min n0 1000))) := by
    unfold kb
    have q1 : gA u 45 = gA (v_A (v_A u 42 (upd (gA u 42) s (nI c0))) 43 (upd (gA u 43) s (nI (min n0 1000)))) 45 := rfl
    rw [q1, vAself]
    exact vAself (v_A (v_A u 42 (upd (gA u 42) s (nI c0))) 43 (upd (gA u 43) s (nI (min n0 1000)))) 46
  rw [ekb] at this
  exact this

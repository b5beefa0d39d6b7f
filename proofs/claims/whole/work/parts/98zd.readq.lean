/-! one pattern read, the reference -/
theorem k_readP {E : Nat × (Nat → Int32)} {d : Nat} {v w0 : xV} {B : Nat → Nat} {n i0 f0 : Nat} {X : Nat × Nat × Pats} {dn0 : Pats} {L0 : List (List Nat)} {Q : Int32 → xV → Prop} (hn : gI v 80 23 = nI n) (hn2 : n ≤ 240) (hB : ∀ k, k < n → gA v 81 k = nI (B k) ∧ B k < 256)
    (hF0 : PmF v w0) (hi0 : i0 ≤ n) (hT0 : Tk B n w0 i0) (hR0 : RpM w0 dn0 L0) (hW0 : Wf i0 dn0 [] false) (h270 : gI w0 80 27 = nI 0) (hf0 : 241 ≤ f0 + i0) (hX0 : X = prs B n f0 i0 dn0 [] false) (hne : ¬ gI w0 80 26 = nI 0)
    (kF : ∀ w' k pl dn, PmF v w' → gI w' 80 27 = nI k → gI w' 80 28 = nI pl → (1 ≤ k ∧ k ≤ 3) → pl ≤ 240 → X = (k, pl, dn) → Q (nI 0) w')
    (kN : ∀ w' i' dn' L' f', PmF v w' → i0 + 1 ≤ i' → i' ≤ n → gI w' 80 24 = nI i' → RpM w' dn' L' → Wf i' dn' [] false → gI w' 80 27 = nI 0 → 241 ≤ f' + i' → X = prs B n f' i' dn' [] false → Q (nI 1) w') : KI E (d + 3) 168 [.ref 80] w0 Q := by
  have gn : ∀ w', PmF v w' → gI w' 80 23 = nI n := fun w' h => (h.2.1 80 23 (by decide)).trans hn
  have gB' : ∀ w', PmF v w' → ∀ k, k < n → gA w' 81 k = nI (B k) ∧ B k < 256 := fun w' h => by rw [h.2.2.1 81 (by decide)]; exact hB
  have bd : ∀ (w : xV) (k pl k' : Nat) (dn : Pats), PmF v w → gI w 80 25 = nI pl → pl ≤ 240 → (if gI w 80 26 = nI 1 then nI 1 else nI k) = nI k' → (1 ≤ k' ∧ k' ≤ 3) → X = (k', pl, dn) → KI E (d + 2) 166 [.ref 80, .int (nI k)] w (fun y w' => vp_in y 2 ∧ Q y w') := by
    intro w k pl k' dn hF h25 hpl hk hk2 hx
    refine k_bad (kF _ k' pl dn ((hF.trans (PmF.vI w _ (by omega))).trans (PmF.vI _ _ (by omega))) hk h25 hk2 hpl hx)
  have n10 : ∀ a b : Nat, a < 5 → b < 5 → a ≠ b → ¬ nI a = nI b := fun a b ha hb hab => by rw [nI_inj (by omega) (by omega)]; exact hab
  have loop : ∀ N i w (dn : Pats) (L : List (List Nat)) (cu : List (Nat × Bool)) (ak : Bool) (mu f : Nat), n + 1 ≤ i + N → i ≤ n → i0 ≤ i → PmF v w → Tk B n w i → (ak = true → ¬ gI w 80 26 = nI 3) → (cu = [] → gI w 80 26 = nI 2) → RpM w dn L → ItM w cu → MuM cu mu → Wf i dn cu ak → gI w 80 27 = nI 0 → 241 ≤ f + i → X = prs B n f i dn cu ak → dn.length < 8 → RI E (d + 3) 168 33 [(0, .ref 80), (1, .int (nI cu.length)), (2, .int (nI mu))] w Q := by
    intro N
    induction N with
    | zero => intro i w dn L cu ak mu f h1 h2; omega
    | succ N ih =>
      intro i w dn L cu ak mu f hN hi hi0 hF hT hak hcu hR hit hmu hW h27 hf hX hd8
      have hc6 := hW.2.1.2.1
      have hmu1 := hmu.1
      have h64 : 2 ^ cu.length ≤ 64 := Nat.pow_le_pow_right (n := 2) (by decide) hc6
      rcases hT with ⟨pl, t1, t2, t3, t4⟩ | ⟨t1, t2, t4⟩ | ⟨p, t1, t2, t3, t5, t4⟩ | ⟨p, t1, t2, t3, t5, t4⟩ | ⟨p, e, t1, t2, t3, t5, t6, t7, t4⟩
      · refine w_X12_readPattern_33 ⟨fun z => absurd (t1.symm.trans z) (n10 _ _ (by decide) (by decide) (by decide)), fun _ => k_sortZ (by rw [t1]; exact n10 _ _ (by decide) (by decide) (by decide)) ⟨fun z => absurd rfl z, fun _ => ?_⟩⟩
        exact bd w 1 pl 1 dn hF t2 t3 (by rw [if_pos t1]) (by decide) (hX.trans (t4 f dn cu ak hf))
      · have hc : cu ≠ [] := fun q => absurd (t1.symm.trans (hcu q)) (n10 _ _ (by decide) (by decide) (by decide))
        refine w_X12_readPattern_33 ⟨fun z => absurd (t1.symm.trans z) (n10 _ _ (by decide) (by decide) (by decide)), fun _ => k_sortZ (by rw [t1]; exact n10 _ _ (by decide) (by decide) (by decide)) ⟨fun z => absurd rfl z, fun _ => ?_⟩⟩
        refine bd w 1 n 1 dn hF t2 hn2 (by rw [t1, if_neg (n10 _ _ (by decide) (by decide) (by decide))]) (by decide) (hX.trans ?_)
        rw [t4 f dn cu ak hf, if_neg hc]
      · have hk : ¬ ak = true := fun q => hak q t1
        refine w_X12_readPattern_33 ⟨fun z => absurd (t1.symm.trans z) (n10 _ _ (by decide) (by decide) (by decide)), fun _ => k_sortZ (by rw [t1]; exact n10 _ _ (by decide) (by decide) (by decide)) ⟨fun z => absurd rfl z, fun _ => ?_⟩⟩
        refine bd w 1 p 1 dn hF t2 (by omega) (by rw [t1, if_neg (n10 _ _ (by decide) (by decide) (by decide))]) (by decide) (hX.trans ?_)
        obtain ⟨f', _, h2⟩ := t4 f hf
        rw [h2, if_neg hk]
      · have hc : cu ≠ [] := fun q => absurd (t1.symm.trans (hcu q)) (n10 _ _ (by decide) (by decide) (by decide))
        obtain ⟨f', h1, h2⟩ := t4 f hf
        refine w_X12_readPattern_33 ⟨fun _ => ⟨fun z => ?_, fun z => ?_⟩, fun z => absurd t1 z⟩
        · rw [nI_inj (by omega) (by decide)] at z
          have hall : ¬ cu.all (fun x => x.2) = true := fun q => z (hmu.no.mpr q)
          refine k_rowsP hF hR hit hmu ((hW.le t5.2.2).stop hc hall) t5.1 z (fun w' L' g1 g2 g3 g4 => ?_)
          refine kN w' (p + 1) (dn ++ [cu]) L' f' g1 (by omega) (by omega) (g2.trans t3) g4 ((hW.le t5.2.2).stop hc hall) (g3.trans h27) h1 ?_
          rw [hX, h2, if_neg hc, if_neg hall]
        · rw [nI_inj (by omega) (by decide)] at z
          refine bd w 3 p 3 dn hF t2 (by omega) (by rw [t1, if_neg (n10 _ _ (by decide) (by decide) (by decide))]) (by decide) ?_
          rw [hX, h2, if_neg hc, if_pos (hmu.no.mp z)]
      · obtain ⟨f', h1, h2⟩ := t4 f hf
        refine w_X12_readPattern_33 ⟨fun z => absurd (t1.symm.trans z) (n10 _ _ (by decide) (by decide) (by decide)), fun _ => k_sortH t1 t6 t7 (fun s hs es => ⟨fun _ => ⟨fun q6 => ?_, fun q6 => ?_⟩, fun z => absurd z (m1_ne (by omega))⟩) (fun es => ⟨fun z => absurd rfl z, fun _ => ?_⟩)⟩
        · rw [nI_inj (by omega) (by decide)] at q6
          have hlt : cu.length < 6 := by omega
          have hlen := srt_len es
          rw [wd_len] at hlen
          have hmany : ¬ (6 ≤ cu.length ∨ 8 ≤ dn.length) := by omega
          have hWi : Wf e dn (cu ++ [(s, false)]) true := (hW.le t5.2.1).item (by omega) hs hmany
          have hX2 : X = prs B n f' e dn (cu ++ [(s, false)]) true := by
            rw [hX, h2, es]
            exact if_neg hmany
          have hv : vp_in (nI cu.length) 6 := vp_in_nI hlt (by decide)
          refine k_sortH t1 t6 t7 (fun s' hs' es' => ⟨hv, ?_⟩) (fun es' => by rw [es] at es'; exact nomatch es')
          rw [es] at es'
          obtain rfl : s = s' := Option.some.inj es'
          rw [nI_clamp (by omega)]
          have hF1 := hF.trans (PmF.vA w (upd (gA w 98) cu.length (nI s)) (Or.inl rfl))
          have it1 : ∀ o, ItM (v_A w 98 (upd (gA w 98) cu.length (nI s))) (cu ++ [(s, o)]) := by
            intro o k s' o' ek
            show upd (gA w 98) cu.length (nI s) k = _
            rw [snoc_at2] at ek
            rw [upd_i]
            by_cases q : k = cu.length
            · rw [if_pos q] at ek ⊢
              cases ek
              rfl
            · rw [if_neg q] at ek ⊢
              exact hit k s' o' ek
          have R1 : RpM (v_A w 98 (upd (gA w 98) cu.length (nI s))) dn L := hR
          have t31 : gI (v_A w 98 (upd (gA w 98) cu.length (nI s))) 80 24 = nI e := t3
          have h271 : gI (v_A w 98 (upd (gA w 98) cu.length (nI s))) 80 27 = nI 0 := h27
          generalize v_A w 98 (upd (gA w 98) cu.length (nI s)) = w1 at *
          refine k_goT (gn w1 hF1) hn2 (gB' w1 hF1) t31 t5.2.2.2 (fun w8 hG hT8 => ?_)
          have hF8 := hF1.trans hG.pm
          have it8 : ∀ o, ItM w8 (cu ++ [(s, o)]) := fun o => by
            unfold ItM
            rw [hG.a]
            exact it1 o
          have h278 := (hG.2 80 27 (by decide)).trans h271
          have e1 : ∀ o : Bool, (cu ++ [(s, o)]).length = cu.length + 1 := fun o => by rw [List.length_append, List.length_singleton]
          have ne1 : ∀ o : Bool, cu ++ [(s, o)] = [] → ∀ P : Prop, P := fun o q P => absurd (congrArg List.length q) (by rw [e1]; exact Nat.succ_ne_zero _)
          have R8 := R1.go hG
          rw [upd_s, upd_s]
          refine ⟨fun k3 => ⟨hv, hv, fun z => absurd rfl z, fun _ y12 hy => ?_⟩, fun k3 => ⟨hv, hv, fun _ => ?_, fun z => absurd z nI_01⟩⟩
          · subst hy
            rw [n_s1 (by omega), n_or, nI_add]
            have go := ih e (v_A w8 99 (upd (gA w8 99) cu.length (nI 0))) dn L (cu ++ [(s, false)]) true (mu ||| 2 ^ cu.length) f' (by omega) t5.2.2.2 (by omega) (hF8.trans (PmF.vA w8 _ (Or.inr rfl))) hT8 (fun _ => k3) (fun q => ne1 _ q _) R8 (it8 false) (hmu.item s) hWi h278 h1 hX2 hd8
            rw [e1] at go
            exact go
          · rcases hT8 with ⟨pl, u1, u2, u3, u4⟩ | ⟨u1, u2, u4⟩ | ⟨p', u1, u2, u3, u5, u4⟩ | ⟨p', u1, u2, u3, u5, u4⟩ | ⟨p', e', u1, u2, u3, u5, u6, u7, u4⟩
            · exact absurd (u1.symm.trans k3) (n10 _ _ (by decide) (by decide) (by decide))
            · exact absurd (u1.symm.trans k3) (n10 _ _ (by decide) (by decide) (by decide))
            · obtain ⟨f'', g1, g2⟩ := u4 f' h1
              have hF9 := hF8.trans (PmF.vA w8 (upd (gA w8 99) cu.length (nI 1)) (Or.inr rfl))
              refine k_goT (w := v_A w8 99 (upd (gA w8 99) cu.length (nI 1))) (gn _ hF9) hn2 (gB' _ hF9) u3 (by omega) (fun w11 hG2 hT11 => ?_)
              have hW2 := (hWi.le u5.2.2).ask
              rw [setO_snoc] at hW2
              rw [nI_add]
              have go := ih (p' + 1) w11 dn L (cu ++ [(s, true)]) false mu f'' (by omega) (by omega) (by omega) (hF9.trans hG2.pm) hT11 (fun q => absurd q (by decide)) (fun q => ne1 _ q _) (RpM.go (v := v_A w8 99 (upd (gA w8 99) cu.length (nI 1))) R8 hG2) ?_ (hmu.ask s) hW2 ((hG2.2 80 27 (by decide)).trans h278) g1 ?_ hd8
              · rw [e1] at go
                exact go
              · unfold ItM
                rw [hG2.a]
                exact it8 true
              · rw [hX2, g2, if_pos rfl, setO_snoc]
            · exact absurd (u1.symm.trans k3) (n10 _ _ (by decide) (by decide) (by decide))
            · exact absurd (u1.symm.trans k3) (n10 _ _ (by decide) (by decide) (by decide))
        · rw [nI_inj (by omega) (by decide)] at q6
          refine bd w 2 p 2 dn hF t2 (by omega) (by rw [t1, if_neg (n10 _ _ (by decide) (by decide) (by decide))]) (by decide) ?_
          rw [hX, h2, es]
          exact if_pos (Or.inl (by omega))
        · refine bd w 1 p 1 dn hF t2 (by omega) (by rw [t1, if_neg (n10 _ _ (by decide) (by decide) (by decide))]) (by decide) ?_
          rw [hX, h2, es]
  refine KI.of ok_168 (Nat.le_of_ble_eq_true rfl) ?_
  have hd := hW0.2.1.1
  rcases id hT0 with ⟨pl, t1, t2, t3, t4⟩ | ⟨t1, t2, t4⟩ | ⟨p, t1, t2, t3, t5, t4⟩ | ⟨p, t1, t2, t3, t5, t4⟩ | ⟨p, e, t1, t2, t3, t5, t6, t7, t4⟩
  · refine w_X12_readPattern_0 (k_sortZ (by rw [t1]; exact n10 _ _ (by decide) (by decide) (by decide)) ⟨fun z => absurd rfl z, fun _ => ?_⟩)
    exact bd w0 1 pl 1 dn0 hF0 t2 t3 (by rw [if_pos t1]) (by decide) (hX0.trans (t4 f0 dn0 [] false hf0))
  · exact absurd t1 hne
  · refine w_X12_readPattern_0 (k_sortZ (by rw [t1]; exact n10 _ _ (by decide) (by decide) (by decide)) ⟨fun z => absurd rfl z, fun _ => ?_⟩)
    obtain ⟨f', _, h2⟩ := t4 f0 hf0
    refine bd w0 1 p 1 dn0 hF0 t2 (by omega) (by rw [t1, if_neg (n10 _ _ (by decide) (by decide) (by decide))]) (by decide) (hX0.trans ?_)
    rw [h2, if_neg (by decide)]
  · refine w_X12_readPattern_0 (k_sortZ (by rw [t1]; exact n10 _ _ (by decide) (by decide) (by decide)) ⟨fun z => absurd rfl z, fun _ => ?_⟩)
    obtain ⟨f', _, h2⟩ := t4 f0 hf0
    refine bd w0 1 p 1 dn0 hF0 t2 (by omega) (by rw [t1, if_neg (n10 _ _ (by decide) (by decide) (by decide))]) (by decide) (hX0.trans ?_)
    rw [h2, if_pos rfl]
  · obtain ⟨f', _, h2⟩ := t4 f0 hf0
    refine w_X12_readPattern_0 (k_sortH t1 t6 t7 (fun s hs es => ⟨fun _ => ?_, fun z => absurd z (m1_ne (by omega))⟩) (fun es => ⟨fun z => absurd rfl z, fun _ => ?_⟩))
    · rw [hR0.1, nI_inj (by omega) (by decide)]
      refine ⟨fun z => ?_, fun z => ?_⟩
      · exact loop (n + 1) i0 w0 dn0 L0 [] false 0 f0 (by omega) hi0 (Nat.le_refl _) hF0 hT0 (fun q => absurd q (by decide)) (fun _ => t1) hR0 (fun k s o e => by rw [List.getElem?_nil] at e; exact nomatch e) ⟨by decide, fun k => by rw [Nat.zero_testBit, List.getElem?_nil]; exact ⟨fun q => absurd q (by decide), fun ⟨s, q⟩ => (nomatch q)⟩⟩ hW0 h270 hf0 hX0 (by omega)
      · refine bd w0 2 p 2 dn0 hF0 t2 (by omega) (by rw [t1, if_neg (n10 _ _ (by decide) (by decide) (by decide))]) (by decide) (hX0.trans ?_)
        rw [h2, es]
        exact if_pos (Or.inr (by omega))
    · refine bd w0 1 p 1 dn0 hF0 t2 (by omega) (by rw [t1, if_neg (n10 _ _ (by decide) (by decide) (by decide))]) (by decide) (hX0.trans ?_)
      rw [h2, es]

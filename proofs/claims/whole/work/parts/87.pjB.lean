/-! scrawl, photo, drawing over J -/
theorem wsum_congr {lc lc' : Nat → Nat → Option Nat} {lt : Nat → Nat} {k n : Nat} (h : ∀ i, i < n → ∀ l, lc (k + i) l = lc' (k + i) l) : wsum lc lt k n = wsum lc' lt k n := by
  induction n with
  | zero => rfl
  | succ n ih =>
    show (match wsum lc lt k n, lc (k + n) (lt n) with | some a, some b => some (a + b) | _, _ => none) = (match wsum lc' lt k n, lc' (k + n) (lt n) with | some a, some b => some (a + b) | _, _ => none)
    rw [ih (fun i hi => h i (by omega)), h n (by omega)]
theorem Gx_congr {v v' : xV} {lc lc' : Nat → Nat → Option Nat} {N : Nat} (h1 : gI v' 3 7 = gI v 3 7) (h6 : gA v' 6 = gA v 6) (h7 : gA v' 7 = gA v 7) (h8 : gA v' 8 = gA v 8) (h : ∀ k, k < N → ∀ l, lc' k l = lc k l) : Gx v' lc' N = Gx v lc N := by
  unfold Gx
  rw [h1, h6, h7, h8]
  have e : (fun w k => wco lc' (fun i => (gA v 6 (10 * w + i)).toNatClampNeg) (gA v 7 w).toNatClampNeg k N) = (fun w k => wco lc (fun i => (gA v 6 (10 * w + i)).toNatClampNeg) (gA v 7 w).toNatClampNeg k N) := by
    funext w k
    unfold wco
    split
    · exact wsum_congr (fun i hi l => h _ (by omega) l)
    · rfl
  rw [e]
theorem fbk_congr {fm fm' : Nat → Nat → Nat} {lt : Nat → Nat} {l n : Nat} (h : ∀ k, k < n → fm' k l = fm k l) : fbk fm' lt l n = fbk fm lt l n := by
  induction n with
  | zero => rfl
  | succ n ih =>
    show (if lt n = l then (match fbk fm' lt l n with | none => some (fm' n l) | some b => some (b &&& fm' n l)) else fbk fm' lt l n) = (if lt n = l then (match fbk fm lt l n with | none => some (fm n l) | some b => some (b &&& fm n l)) else fbk fm lt l n)
    rw [ih (fun k hk => h k (by omega)), h n (by omega)]
/-- evidence that is there stays as it is -/
theorem Cached.ph {v v' : xV} {L : List (List Nat)} {s N W : Nat} {p : Int32} {dr : Nat → Int32} (h : Cached v L s N p dr) (hW : WordX v W) (hN : N ≤ 24) (h1 : gI v' 3 7 = gI v 3 7) (h4 : gA v' 4 = gA v 4) (h5 : gA v' 5 = gA v 5) (h6 : gA v' 6 = gA v 6) (h7 : gA v' 7 = gA v 7) (h8 : gA v' 8 = gA v 8) (h9 : gA v' 9 = gA v 9) (hp : p ≠ -1 → ∀ k, k < 24 → gA v' 32 (24 * p.toNatClampNeg + k) = gA v 32 (24 * p.toNatClampNeg + k) ∧ gA v' 33 (24 * p.toNatClampNeg + k) = gA v 33 (24 * p.toNatClampNeg + k)) (hd : ∀ q, q < 4 → ∀ k, k < 24 → dlet (gA v' 37) (dr q) k = dlet (gA v 37) (dr q) k) (hE : SameE v v' s) : Cached v' L s N p dr := by
  have lcE : ∀ k, k < N → ∀ l, LCx v' p dr k l = LCx v p dr k l := by
    intro k hk l
    unfold LCx LC
    rw [h9]
    have e0 : (if p = -1 then some 0 else FC (gA v' 5) (gA v' 4) (gA v' 32) (gA v' 33) p.toNatClampNeg k l) = (if p = -1 then some 0 else FC (gA v 5) (gA v 4) (gA v 32) (gA v 33) p.toNatClampNeg k l) := by
      split
      · rfl
      · rename_i hne
        obtain ⟨a, b⟩ := hp hne k (by omega)
        unfold FC
        rw [h5, h4, a, b]
    rw [e0]
    exact lcst_congr (fun q hq => hd q hq k (by omega))
  have eG : Gx v' (LCx v' p dr) N = Gx v (LCx v p dr) N := Gx_congr h1 h6 h7 h8 lcE
  have e1 : RDv v' L N p dr = RDv v L N p dr := by
    unfold RDv
    rw [eG]
  have e2 : RDw v' L N p dr = RDw v L N p dr := by
    unfold RDw
    rw [eG]
  have hlen : (RDw v L N p dr).length ≤ 6 := rdl_len _ _ _ _
  have hok : Gok (Gx v (LCx v p dr) N) := by
    intro w hw
    rw [Gx_W hW] at hw
    obtain ⟨n, hn, en⟩ := hW.2.2.1 w hw
    obtain ⟨z, hz, ez⟩ := hW.2.2.2.2 w
    have q1 : cl (Gx v (LCx v p dr) N) w = n := by
      show (gA v 7 w).toNatClampNeg = n
      rw [en, nI_clamp (by omega)]
    have q2 : cs (Gx v (LCx v p dr) N) w = z := by
      show (gA v 8 w).toNatClampNeg = z
      rw [ez, nI_clamp (by omega)]
    refine ⟨by omega, fun k x hx => ?_⟩
    have := Gx_le hW (fun k l x hx => LC_le hx) hw hx
    exact ⟨this.1, this.2.2⟩
  have hfit : (lts (fun w => (gA v 7 w).toNatClampNeg) (ltX v) (RDw v L N p dr)).length ≤ 24 := by
    have := rdl_fit hok (ltX v) 6 L 0 (Nat.zero_le _)
    have : (lts (fun w => (gA v 7 w).toNatClampNeg) (ltX v) (RDw v L N p dr)).length + 0 ≤ N := this
    omega
  have eL : ltX v' = ltX v := by
    funext a b
    unfold ltX
    rw [h6]
  have eU : ∀ l, UsedX v' p (RDw v L N p dr) l = UsedX v p (RDw v L N p dr) l := by
    intro l
    unfold UsedX
    split
    · rfl
    · rename_i hne
      rw [eL, h7]
      congr 2
      refine fbk_congr (fun k hk => ?_)
      obtain ⟨a, b⟩ := hp hne k (by omega)
      unfold fmX
      rw [h4, h5, a, b]
  obtain ⟨a1, a2, a3, a4, a5, a6, a7, a8, a9, a10⟩ := hE
  obtain ⟨b1, b2, b3, b4, b5, b6, b7⟩ := h
  unfold Cached
  rw [e1, e2, h8]
  refine ⟨a4.trans b1, a5.trans b2, a6.trans b3, fun i w e => ?_, fun j hj => (a8 j hj).trans (b5 j hj), fun l hl => ?_, ?_⟩
  · have hi : i < (RDw v L N p dr).length := by
      rcases Nat.lt_or_ge i (RDw v L N p dr).length with z | z
      · exact z
      · rw [List.getElem?_eq_none z] at e
        cases e
    exact (a7 i (by omega)).trans (b4 i w e)
  · rw [eU]
    exact (a9 l hl).trans (b6 l hl)
  · rw [a10, b7, cnt_congr (fun l _ => (eU l).symm)]
theorem isO.up {N : Nat} {x : Int32} (h : isO N x) : isO (N + 1) x := by
  rcases h with h | ⟨n, h1, h2⟩
  · exact Or.inl h
  · exact Or.inr ⟨n, by omega, h2⟩
theorem pj_scrawl {E : Nat × (Nat → Int32)} {d : Nat} {c : Nat} {v : xV} {x y z : Int32} (hJ : J c v) : P2 E (d + 1) 123 [.ref 0, .int x, .int y, .int z] 171 [.ref 80, .int x, .int y, .int z] v (J (c + 1)) := by
  obtain ⟨hI, hH, hK, hO, hR, hC, hM, hD⟩ := id hJ
  obtain ⟨⟨W, hW, w1, w2⟩, ⟨e1, e2⟩, hf, hg⟩ := hI.A
  obtain ⟨-, ⟨f1, f2, f3, f4⟩, b1, b2, b3, b4⟩ := hI.S
  obtain ⟨s1, hS⟩ := hJ.num.1
  have s2 := hJ.numM.1
  obtain ⟨S, hSe⟩ : ∃ S, S = nS v := ⟨_, rfl⟩
  rw [← hSe] at s1 hS s2
  have nSz : ∀ z : xV, gI z 25 12 = nI (S + 1) → nS z = S + 1 := by
    intro z hz
    unfold nS
    rw [hz, nI_clamp (by omega)]
  have hnA : nA v = W := by
    show (gI v 11 7).toNatClampNeg = W
    rw [w1, nI_clamp (by omega)]
  obtain ⟨t, ht, t1, t2⟩ := hI.D
  have hg' : ∀ i, ∃ n, n ≤ 4 ∧ gA v 92 i = nI n := by rw [← e2]; exact hg
  have le_rfl' : ∀ a : Int32, a ≤ a := fun a => by rw [Int32.le_iff_toInt_le]; exact Int.le_refl _
  refine k_scrawlX w1 hW hg s1 hS (fun h => k_scrawlM (W := W) (S := S) w2 hW hg' s2 hS (fun _ => ⟨rfl, hJ.up⟩) (fun q => ?_)) (fun h => k_scrawlM (W := W) (S := S) w2 hW hg' s2 hS (fun q => ?_) (fun _ => ⟨rfl, ⟨hI.1, hI.2.1, hI.2.2.1, hI.2.2.2.1, hI.2.2.2.2.1, hI.2.2.2.2.2.1, ⟨⟨S + 1, h.2.1, rfl, rfl⟩, ⟨?_, ?_, ?_, ?_⟩, ?_, ?_, ?_, ?_⟩, hI.2.2.2.2.2.2.2⟩, hH, ⟨hK.1, hK.2.1, fun i hi => ?_, hK.2.2.2⟩, ⟨fun i hi => ?_, fun i j hij hj => ?_, fun i hi => ?_, hO.2.2.2⟩, hR, ⟨hC.1, fun s hs => ?_, hC.2.2.1, fun s N hs hN hN' hv => ?_⟩, hM.bump rfl rfl, hD.up⟩))
  · rw [← e2] at q
    exact absurd q h
  · have q : ¬ sGood (gA v 92) W S x y z := q
    rw [← e2] at q
    exact absurd h q
  · show upd (gA v 26) S x = upd (gA v 100) S x
    rw [f1]
  · show upd (gA v 27) S y = upd (gA v 101) S y
    rw [f2]
  · show upd (gA v 28) S z = upd (gA v 102) S z
    rw [f3]
  · show upd (gA v 29) S (gI v 0 13) = upd (gA v 103) S (gI v 80 5)
    rw [f4, t1, t2]
  · obtain ⟨w, l, m, q1, rfl, q3, q4⟩ := h.1
    exact l_upd b1 S (by omega)
  · obtain ⟨w, l, m, q1, q2, q3, rfl⟩ := h.1
    exact l_upd b2 S (by omega)
  · obtain ⟨n, _, hn, rfl⟩ := i_btw (by decide) (by decide) h.2.2.1 h.2.2.2
    exact n_upd b3 S hn
  · show ∀ i, ∃ n, n ≤ 999 ∧ upd (gA v 29) S (gI v 0 13) i = nI n
    rw [t1]
    exact n_upd b4 S ht
  · obtain ⟨k1, k2, k3, k4⟩ := hK.2.2.1 i hi
    have hn : ∀ g, isN (nS v) g → gA v 29 g.toNatClampNeg ≤ gA v 66 i → upd (gA v 29) S (gI v 0 13) g.toNatClampNeg ≤ gA v 66 i := by
      rintro g ⟨m, hm, rfl⟩
      rw [nI_clamp (by omega), upd_n _ _ (by omega)]
      exact id
    have two : ∀ {x a b : Int32} {N W : Nat} {g So : Nat → Int32}, fAb g So W (nS v) N x a b → (x = nI 1 ∨ x = nI 2 → isN (nS v) a) ∧ (x = nI 2 → isN (nS v) b) := by
      intro x a b N W g So h
      refine ⟨fun e1 => ?_, fun e1 => ?_⟩
      · rcases e1 with rfl | rfl
        · rcases h with ⟨g, _⟩ | ⟨_, g⟩ | ⟨g, _⟩ | ⟨g, _⟩ | ⟨g, _⟩
          · exact absurd g (by decide)
          · exact g
          · exact absurd g (by decide)
          · exact absurd g (by decide)
          · exact absurd g (by decide)
        · rcases h with ⟨g, _⟩ | ⟨g, _⟩ | ⟨_, g, _⟩ | ⟨g, _⟩ | ⟨g, _⟩
          · exact absurd g (by decide)
          · exact absurd g (by decide)
          · exact g
          · exact absurd g (by decide)
          · exact absurd g (by decide)
      · subst e1
        rcases h with ⟨g, _⟩ | ⟨g, _⟩ | ⟨_, _, g, _⟩ | ⟨g, _⟩ | ⟨g, _⟩
        · exact absurd g (by decide)
        · exact absurd g (by decide)
        · exact g
        · exact absurd g (by decide)
        · exact absurd g (by decide)
    refine ⟨k1.mono (fun _ _ z => z) (fun a z => ?_) (fun _ _ z => z), k2, fun e => hn _ ((two k1).1 e) (k3 e), fun e => hn _ ((two k1).2 e) (k4 e)⟩
    rw [nSz _ rfl]
    rw [← hSe] at z
    exact z.up
  · rw [nSz _ rfl] at hi
    show isLay (gA v 14) (nA v) (upd (gA v 26) S x i) (upd (gA v 27) S y i) ∧ nI 1 ≤ upd (gA v 28) S z i
    by_cases e : i = S
    · rw [e, upd_s, upd_s, upd_s, hnA]
      exact ⟨h.1, h.2.2.1⟩
    · rw [upd_n _ _ e, upd_n _ _ e, upd_n _ _ e]
      exact hO.1 i (by omega)
  · rw [nSz _ rfl] at hj
    show upd (gA v 29) S (gI v 0 13) i ≤ upd (gA v 29) S (gI v 0 13) j
    by_cases e : j = S
    · rw [e, upd_s]
      by_cases e2 : i = S
      · rw [e2, upd_s]
        exact le_rfl' _
      · rw [upd_n _ _ e2]
        exact hO.2.2.1 i (by omega)
    · rw [upd_n _ _ e, upd_n _ _ (by omega)]
      exact hO.2.1 i j hij (by omega)
  · rw [nSz _ rfl] at hi
    show upd (gA v 29) S (gI v 0 13) i ≤ gI v 0 13
    by_cases e : i = S
    · rw [e, upd_s]
      exact le_rfl' _
    · rw [upd_n _ _ e]
      exact hO.2.2.1 i (by omega)
  · rw [nSz _ rfl] at hs
    exact hC.2.1 s (by omega)
  · rw [nSz _ rfl] at hs
    have hv : gA v 39 s = nI 1 := hv
    by_cases e : s = S
    · rw [hC.2.1 s (by omega)] at hv
      exact absurd hv.symm nI_01
    · have hN : upd (gA v 28) S z s = nI N := hN
      rw [upd_n _ _ e] at hN
      exact hC.2.2.2 s N (by omega) hN hN' hv
theorem pj_photo {E : Nat × (Nat → Int32)} {d : Nat} {c : Nat} {v : xV} {x : Int32} (hJ : J c v) : P2 E (d + 2) 124 [.ref 0, .int x] 174 [.ref 80, .int x] v (J (c + 1)) := by
  obtain ⟨hI, hH, hK, hO, hR, hC, hM, hD⟩ := id hJ
  obtain ⟨s, hs, s1, s2⟩ := hI.T.s
  have e4 := hI.T.e
  obtain ⟨⟨S, hS, S1, S2⟩, ⟨f1, f2, f3, f4⟩, b1, b2, b3, b4⟩ := hI.S
  obtain ⟨-, ⟨g1, g2, g3, g4⟩, c1, c2, c3, c4⟩ := hI.P
  obtain ⟨H1, hH2⟩ := hJ.num.2.1
  have H2 := hJ.numM.2.1
  obtain ⟨H, hHe⟩ : ∃ H, H = nP v := ⟨_, rfl⟩
  rw [← hHe] at H1 hH2 H2
  obtain ⟨t, ht, t1, t2⟩ := hI.D
  have b3' : ∀ i, ∃ n, n ≤ 24 ∧ gA v 102 i = nI n := by rw [← f3]; exact b3
  refine k_photoX s1 hs S1 hS b3 H1 hH2 (fun h => k_photoM (s := s) (S := S) (Ph := H) s2 hs S2 hS b3' H2 hH2 (fun _ => ⟨rfl, J.up ⟨⟨⟨e4, ⟨0, by omega, rfl, rfl⟩, hI.T.b⟩, hI.2⟩, hJ.2⟩⟩) (fun q => ?_)) (fun h n hn => k_photoM (s := s) (S := S) (Ph := H) s2 hs S2 hS b3' H2 hH2 (fun q => ?_) (fun _ n' hn' => ?_))
  · have q : pGood (gA v 81) (gA v 102) S H s x := q
    rw [← e4, ← f3] at q
    exact absurd q h
  · have q : ¬ pGood (gA v 81) (gA v 102) S H s x := q
    rw [← e4, ← f3] at q
    exact absurd h q
  · obtain rfl : n' = n := by omega
    obtain ⟨w, m, q1, rfl, q3, q4⟩ := h
    have nPz : ∀ z : xV, gI z 25 13 = nI (H + 1) → nP z = H + 1 := by
      intro z hz
      unfold nP
      rw [hz, nI_clamp (by omega)]
    refine ⟨rfl, ⟨⟨e4, ⟨0, by omega, rfl, rfl⟩, hI.T.b⟩, hI.2.1, hI.2.2.1, hI.2.2.2.1, hI.2.2.2.2.1, hI.2.2.2.2.2.1, hI.2.2.2.2.2.2.1, ⟨⟨H + 1, q1.2.2.1, rfl, rfl⟩, ⟨?_, ?_, ?_, ?_⟩, l_upd c1 H (by omega), ?_, l_putf (g := fun i => gA v 2 (2 * i)) (b := 24 * H) (n := n') c3 (fun i => hI.T.b (2 * i)), l_putf (g := fun i => gA v 2 (2 * i + 1)) (b := 24 * H) (n := n') c4 (fun i => hI.T.b (2 * i + 1))⟩, hI.2.2.2.2.2.2.2.2⟩, hH, hK, hO, hR, ⟨hC.1, hC.2.1, fun s' hv => ?_, fun s' N hs' hN hN' hv => ?_⟩, hM.bump rfl rfl, hD.up⟩
    · show upd (gA v 30) H (nI w) = upd (gA v 104) H (nI w)
      rw [g1]
    · show upd (gA v 31) H (gI v 0 13) = upd (gA v 105) H (gI v 80 5)
      rw [g2, t1, t2]
    · show putf (gA v 32) (fun i => gA v 2 (2 * i)) (24 * H) n' = putf (gA v 106) (fun i => gA v 81 (2 * i)) (24 * H) n'
      rw [g3, e4]
    · show putf (gA v 33) (fun i => gA v 2 (2 * i + 1)) (24 * H) n' = putf (gA v 107) (fun i => gA v 81 (2 * i + 1)) (24 * H) n'
      rw [g4, e4]
    · show ∀ i, ∃ n, n ≤ 999 ∧ upd (gA v 31) H (gI v 0 13) i = nI n
      rw [t1]
      exact n_upd c2 H ht
    · rw [nPz _ rfl]
      have := hC.2.2.1 s' hv
      rw [← hHe] at this
      exact ⟨this.1.up, this.2⟩
    · have hv : gA v 39 s' = nI 1 := hv
      have hev := (hC.2.2.1 s' hv).1
      rw [← hHe] at hev
      refine Cached.ph (hC.2.2.2 s' N hs' hN hN' hv) hJ.wl hN'.2 rfl rfl rfl rfl rfl rfl rfl (fun hne k hk => ?_) (fun _ _ _ _ => rfl) (SameE.refl v s')
      rcases hev with e | ⟨i, hi, e⟩
      · exact absurd e hne
      · have e : gA v 40 s' = nI i := e
        have ec : (gA v 40 s').toNatClampNeg = i := by rw [e, nI_clamp (by omega)]
        show putf (gA v 32) (fun i => gA v 2 (2 * i)) (24 * H) n' (24 * (gA v 40 s').toNatClampNeg + k) = gA v 32 (24 * (gA v 40 s').toNatClampNeg + k) ∧ putf (gA v 33) (fun i => gA v 2 (2 * i + 1)) (24 * H) n' (24 * (gA v 40 s').toNatClampNeg + k) = gA v 33 (24 * (gA v 40 s').toNatClampNeg + k)
        rw [ec]
        unfold putf
        rw [if_neg (by omega), if_neg (by omega)]
        exact ⟨rfl, rfl⟩
theorem pj_drawing {E : Nat × (Nat → Int32)} {d : Nat} {c : Nat} {v : xV} {x y : Int32} (hJ : J c v) : P2 E (d + 2) 125 [.ref 0, .int x, .int y] 175 [.ref 80, .int x, .int y] v (J (c + 1)) := by
  obtain ⟨hI, hH, hK, hO, hR, hC, hM, hD⟩ := id hJ
  obtain ⟨s, hs, s1, s2⟩ := hI.T.s
  have e4 := hI.T.e
  obtain ⟨⟨S, hS, S1, S2⟩, ⟨f1, f2, f3, f4⟩, b1, b2, b3, b4⟩ := hI.S
  obtain ⟨-, ⟨g1, g2, g3, g4⟩, c1, c2, c3, c4⟩ := hI.G
  obtain ⟨H1, hH2⟩ := hJ.num.2.2.1
  have H2 := hJ.numM.2.2.1
  obtain ⟨H, hHe⟩ : ∃ H, H = nD v := ⟨_, rfl⟩
  rw [← hHe] at H1 hH2 H2
  obtain ⟨t, ht, t1, t2⟩ := hI.D
  have b3' : ∀ i, ∃ n, n ≤ 24 ∧ gA v 102 i = nI n := by rw [← f3]; exact b3
  refine k_drawX s1 hs S1 hS b3 H1 hH2 (fun h => k_drawM (s := s) (S := S) (Dr := H) s2 hs S2 hS b3' H2 hH2 (fun _ => ⟨rfl, J.up ⟨⟨⟨e4, ⟨0, by omega, rfl, rfl⟩, hI.T.b⟩, hI.2⟩, hJ.2⟩⟩) (fun q => ?_)) (fun h => k_drawM (s := s) (S := S) (Dr := H) s2 hs S2 hS b3' H2 hH2 (fun q => ?_) (fun _ => ?_))
  · have q : dGood (gA v 81) (gA v 102) S H s x y := q
    rw [← e4, ← f3] at q
    exact absurd q h
  · have q : ¬ dGood (gA v 81) (gA v 102) S H s x y := q
    rw [← e4, ← f3] at q
    exact absurd h q
  · obtain ⟨w, m, q1, rfl, q5, q3, q4⟩ := h
    obtain ⟨k, _, hk, rfl⟩ := i_btw' (by decide) (by decide) q5.1 q5.2
    have nDz : ∀ z : xV, gI z 25 14 = nI (H + 1) → nD z = H + 1 := by
      intro z hz
      unfold nD
      rw [hz, nI_clamp (by omega)]
    refine ⟨rfl, ⟨⟨e4, ⟨0, by omega, rfl, rfl⟩, hI.T.b⟩, hI.2.1, hI.2.2.1, hI.2.2.2.1, hI.2.2.2.2.1, hI.2.2.2.2.2.1, hI.2.2.2.2.2.2.1, hI.2.2.2.2.2.2.2.1, ⟨H + 1, q1.2.2.1, rfl, rfl⟩, ⟨?_, ?_, ?_, ?_⟩, l_upd c1 H (by omega), l_upd c2 H hk, ?_, l_drw (tp := gA v 2) (b := 24 * H) (s := s) c4 (fun i hi => q4 i (by omega))⟩, hH, hK, hO, hR, ⟨hC.1, hC.2.1, fun s' hv => ?_, fun s' N hs' hN hN' hv => ?_⟩, hM.bump rfl rfl, hD.up⟩
    · show upd (gA v 34) H (nI w) = upd (gA v 108) H (nI w)
      rw [g1]
    · show upd (gA v 35) H (nI k) = upd (gA v 109) H (nI k)
      rw [g2]
    · show upd (gA v 36) H (gI v 0 13) = upd (gA v 110) H (gI v 80 5)
      rw [g3, t1, t2]
    · show putf (gA v 37) (fun i => drw (gA v 2 i)) (24 * H) s = putf (gA v 111) (fun i => drw (gA v 81 i)) (24 * H) s
      rw [g4, e4]
    · show ∀ i, ∃ n, n ≤ 999 ∧ upd (gA v 36) H (gI v 0 13) i = nI n
      rw [t1]
      exact n_upd c3 H ht
    · rw [nDz _ rfl]
      have := hC.2.2.1 s' hv
      rw [← hHe] at this
      exact ⟨this.1, fun q hq => (this.2 q hq).up⟩
    · have hv : gA v 39 s' = nI 1 := hv
      have hev := (hC.2.2.1 s' hv).2
      rw [← hHe] at hev
      refine Cached.ph (hC.2.2.2 s' N hs' hN hN' hv) hJ.wl hN'.2 rfl rfl rfl rfl rfl rfl rfl (fun _ _ _ => ⟨rfl, rfl⟩) (fun q hq k hk => ?_) (SameE.refl v s')
      rcases hev q hq with e | ⟨i, hi, e⟩
      · show dlet _ (gA v 41 (4 * s' + q)) k = dlet _ (gA v 41 (4 * s' + q)) k
        unfold dlet
        rw [if_pos e, if_pos e]
      · show dlet _ (gA v 41 (4 * s' + q)) k = dlet _ (gA v 41 (4 * s' + q)) k
        unfold dlet
        rw [e, if_neg (m1_ne (by omega)), if_neg (m1_ne (by omega)), nI_clamp (by omega)]
        show putf (gA v 37) (fun i => drw (gA v 2 i)) (24 * H) s (24 * i + k) = _
        unfold putf
        rw [if_neg (by omega)]

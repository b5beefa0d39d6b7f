/-! patterns read: the reference's tokens -/
def GoF (v w : xV) : Prop := w.2.2 = v.2.2 ∧ ∀ a b, ¬ (a = 80 ∧ 24 ≤ b ∧ b ≤ 26) → gI w a b = gI v a b
theorem GoF.refl (v : xV) : GoF v v := ⟨rfl, fun _ _ _ => rfl⟩
theorem GoF.trans {u v w : xV} (h : GoF u v) (h' : GoF v w) : GoF u w := ⟨h'.1.trans h.1, fun a b hn => (h'.2 a b hn).trans (h.2 a b hn)⟩
theorem GoF.vI (v : xV) {k : Nat} (x : Int32) (hk : 24 ≤ k ∧ k ≤ 26) : GoF v (v_I v 80 k x) := by
  refine ⟨rfl, fun a b h => ?_⟩
  rw [gI_I]
  by_cases e : a = 80
  · rw [if_pos e, if_neg (fun q => h ⟨e, by omega⟩)]
  · rw [if_neg e]
theorem GoF.vL (v : xV) (k : Nat) (x : Int64) : GoF v (v_L v 80 k x) := ⟨rfl, fun a b h => rfl⟩
theorem GoF.a {v w : xV} (h : GoF v w) : gA w = gA v := congrArg Prod.fst h.1
def cdN (l : List Nat) : Nat := l.foldl (fun a c => 27 * a + (c - 96)) 0
theorem cdN_s (l : List Nat) (c : Nat) : cdN (l ++ [c]) = 27 * cdN l + (c - 96) := by
  unfold cdN
  rw [List.foldl_append]
  rfl
def cdW (l : List Nat) : Int64 := if l.length ≤ 7 then Int64.ofNat (cdN l) else -1
theorem b_long : ∀ b, b < 256 → (nI b).toInt64 = Int64.ofNat b := by decide +kernel
theorem wd_s (B : Nat → Nat) {p j : Nat} (h : p ≤ j) : wd B p (j + 1) = wd B p j ++ [B j] := by
  unfold wd
  rw [show j + 1 - p = (j - p) + 1 by omega, List.range_succ, List.map_append]
  show _ ++ [B (p + (j - p))] = _
  rw [show p + (j - p) = j by omega]
theorem cd_step {l : List Nat} {c : Nat} (hl : l.length < 7) (hc : 97 ≤ c ∧ c < 256) : ((27 : Int64) * cdW l + (nI c).toInt64) - (96 : Int64) = cdW (l ++ [c]) := by
  unfold cdW
  rw [if_pos (by omega), if_pos (by rw [List.length_append, List.length_singleton]; omega), cdN_s, b_long c hc.2]
  obtain ⟨k, rfl⟩ : ∃ k, c = k + 96 := ⟨c - 96, by omega⟩
  rw [show k + 96 - 96 = k by omega, Int64.ofNat_add, Int64.ofNat_add, Int64.ofNat_mul, ← Int64.add_assoc]
  exact Int64.add_sub_cancel _ _
theorem prs_tok {B : Nat → Nat} {n i : Nat} (hi : i < n) (h2 : ¬ (200 ≤ i ∧ 200 < n)) (f : Nat) (dn : Pats) (cu : List (Nat × Bool)) (ak : Bool) : prs B n (f + 1) i dn cu ak = (if isL (B i) = true then
      (match srt (wd B i (rEnd B n i)) with
        | none => (1, i, dn)
        | some s => if 6 ≤ cu.length ∨ 8 ≤ dn.length then (2, i, dn) else prs B n f (rEnd B n i) dn (cu ++ [(s, false)]) true)
    else if B i = 63 then (if ak = true then prs B n f (i + 1) dn (setO cu) false else (1, i, dn))
    else if B i = 59 then (if cu = [] then (1, i, dn) else if cu.all (fun x => x.2) = true then (3, i, dn) else prs B n f (i + 1) (dn ++ [cu]) [] false)
    else if B i = 32 ∨ B i = 10 then prs B n f (i + 1) dn cu ak
    else (1, i, dn)) := by
  show (if 200 ≤ i ∧ 200 < n then _ else if n ≤ i then _ else _) = _
  rw [if_neg h2, if_neg (by omega)]
  rfl
theorem prs_far {B : Nat → Nat} {n i : Nat} (h : 200 ≤ i ∧ 200 < n) (f : Nat) (dn : Pats) (cu : List (Nat × Bool)) (ak : Bool) : prs B n f i dn cu ak = (1, 200, dn) := by
  cases f with
  | zero => rfl
  | succ f => exact if_pos h
theorem prs_end {B : Nat → Nat} {n i : Nat} (hi : n ≤ i) (h2 : ¬ (200 ≤ i ∧ 200 < n)) (f : Nat) (dn : Pats) (cu : List (Nat × Bool)) (ak : Bool) : prs B n (f + 1) i dn cu ak = (if cu = [] then (0, 0, dn) else (1, n, dn)) := by
  show (if 200 ≤ i ∧ 200 < n then _ else if n ≤ i then _ else _) = _
  rw [if_neg h2, if_pos hi]
def Peq (B : Nat → Nat) (n i j : Nat) : Prop := ∀ f, 241 ≤ f + i → ∃ f', 241 ≤ f' + j ∧ ∀ dn cu ak, prs B n f i dn cu ak = prs B n f' j dn cu ak
theorem Peq.refl (B : Nat → Nat) (n i : Nat) : Peq B n i i := fun f hf => ⟨f, hf, fun _ _ _ => rfl⟩
theorem Peq.blank {B : Nat → Nat} {n i j : Nat} (h : Peq B n i j) (hj : j < n) (hn : n ≤ 240) (hb : B j = 32 ∨ B j = 10) : Peq B n i (j + 1) := by
  intro f hf
  obtain ⟨f', h1, h2⟩ := h f hf
  by_cases q : 200 ≤ j ∧ 200 < n
  · refine ⟨241, by omega, fun dn cu ak => ?_⟩
    rw [h2, prs_far q, prs_far (by omega)]
  · obtain ⟨g, rfl⟩ : ∃ g, f' = g + 1 := ⟨f' - 1, by omega⟩
    refine ⟨g, by omega, fun dn cu ak => ?_⟩
    have e1 : ¬ isL (B j) = true := by
      unfold isL
      rw [decide_eq_true_iff]
      omega
    rw [h2, prs_tok hj q, if_neg e1, if_neg (by omega), if_neg (by omega), if_pos hb]
theorem sml_L {c : Nat} (h : c < 256) : sml (nI c) ↔ isL c = true := by
  unfold sml isL
  rw [nI_leI (by decide) (by omega), nI_leI (by omega) (by decide), decide_eq_true_iff]
theorem k_goM {E : Nat × (Nat → Int32)} {d : Nat} {w : xV} {B : Nat → Nat} {n i : Nat} {Q : xV → Prop} (hn : gI w 80 23 = nI n) (hn2 : n ≤ 240) (hB : ∀ k, k < n → gA w 81 k = nI (B k) ∧ B k < 256) (hi : gI w 80 24 = nI i) (hi2 : i ≤ n)
    (kW : ∀ w' pl, GoF w w' → gI w' 80 26 = nI 1 → gI w' 80 25 = nI pl → pl ≤ 240 → (∀ f dn cu ak, 241 ≤ f + i → prs B n f i dn cu ak = (1, pl, dn)) → Q w')
    (k0 : ∀ w', GoF w w' → gI w' 80 26 = nI 0 → gI w' 80 25 = nI n → (∀ f dn cu ak, 241 ≤ f + i → prs B n f i dn cu ak = if cu = [] then (0, 0, dn) else (1, n, dn)) → Q w')
    (k3 : ∀ w' p, GoF w w' → gI w' 80 26 = nI 3 → gI w' 80 25 = nI p → gI w' 80 24 = nI (p + 1) → p < 200 ∧ p < n ∧ i ≤ p → (∀ f, 241 ≤ f + i → ∃ f', 241 ≤ f' + (p + 1) ∧ ∀ dn cu ak, prs B n f i dn cu ak = if ak = true then prs B n f' (p + 1) dn (setO cu) false else (1, p, dn)) → Q w')
    (k4 : ∀ w' p, GoF w w' → gI w' 80 26 = nI 4 → gI w' 80 25 = nI p → gI w' 80 24 = nI (p + 1) → p < 200 ∧ p < n ∧ i ≤ p → (∀ f, 241 ≤ f + i → ∃ f', 241 ≤ f' + (p + 1) ∧ ∀ dn cu ak, prs B n f i dn cu ak = if cu = [] then (1, p, dn) else if cu.all (fun x => x.2) = true then (3, p, dn) else prs B n f' (p + 1) (dn ++ [cu]) [] false) → Q w')
    (k2 : ∀ w' p e, GoF w w' → gI w' 80 26 = nI 2 → gI w' 80 25 = nI p → gI w' 80 24 = nI e → p < 200 ∧ i ≤ p ∧ p + 1 ≤ e ∧ e ≤ n → gL w' 80 32 = cdW (wd B p e) → (∀ k, p ≤ k → k < e → isL (B k) = true) → (∀ f, 241 ≤ f + i → ∃ f', 241 ≤ f' + e ∧ ∀ dn cu ak, prs B n f i dn cu ak = match srt (wd B p e) with
        | none => (1, p, dn)
        | some s => if 6 ≤ cu.length ∨ 8 ≤ dn.length then (2, p, dn) else prs B n f' e dn (cu ++ [(s, false)]) true) → Q w') : KV E (d + 1) 163 [.ref 80] w Q := by
  have gn : ∀ w', GoF w w' → gI w' 80 23 = nI n := fun w' h => (h.2 80 23 (by decide)).trans hn
  have gB' : ∀ w', GoF w w' → ∀ k, k < n → gA w' 81 k = nI (B k) ∧ B k < 256 := fun w' h => by rw [h.a]; exact hB
  have at52 : ∀ p w', GoF w w' → gI w' 80 24 = nI p → i ≤ p ∧ p ≤ n → ¬ (p < n ∧ (B p = 32 ∨ B p = 10)) → Peq B n i p → RV E (d + 1) 163 52 [(0, .ref 80)] w' Q := by
    intro p w' hF ht hp hnb hq
    have at93 : ¬ (200 ≤ p ∧ 200 < n) → RV E (d + 1) 163 93 [(0, .ref 80)] (v_I w' 80 25 (nI p)) Q := by
      intro hnf
      have hF1 : GoF w (v_I w' 80 25 (nI p)) := hF.trans (GoF.vI w' _ (by omega))
      refine w_X12_go_93 ?_
      show (((gI w' 80 24) < (gI w' 80 23) → _) ∧ (¬ (gI w' 80 24) < (gI w' 80 23) → _))
      rw [gn w' hF, ht, nI_ltI (by omega) (by omega)]
      refine ⟨fun hlt => ⟨by show vp_in (gI w' 80 24) 240; rw [ht]; exact vp_in_nI (by omega) (by decide), fun y2 hy2 => ?_⟩, fun hge => ?_⟩
      · have hBp := gB' w' hF p hlt
        have ey : y2 = nI (B p) := by
          rw [hy2]
          show gA w' 81 (gI w' 80 24).toNatClampNeg = _
          rw [ht, nI_clamp (by omega)]
          exact hBp.1
        subst ey
        refine k_isLetM (fun hs => ⟨fun _ => ?_, fun z => absurd z nI_01⟩) (fun hs => ⟨fun z => absurd rfl z, fun _ => ?_⟩)
        · have hl : isL (B p) = true := (sml_L hBp.2).mp hs
          have fin : ∀ u, GoF w u → gI u 80 25 = nI p → gI u 80 24 = nI (rEnd B n p) → gL u 80 32 = cdW (wd B p (rEnd B n p)) → (∀ k, p ≤ k → k < rEnd B n p → isL (B k) = true) → RV E (d + 1) 163 254 [(0, .ref 80)] u Q := by
            intro u hu h25 h24 hL hall
            obtain ⟨g1, g2⟩ := rEnd_gt (B := B) ⟨hlt, hl⟩
            refine w_X12_go_254 (k2 _ p (rEnd B n p) (hu.trans (GoF.vI u _ (by omega))) rfl h25 h24 ⟨by omega, by omega, g1, g2⟩ hL hall (fun f hf => ?_))
            obtain ⟨f', h1, h2⟩ := hq f hf
            obtain ⟨g, rfl⟩ : ∃ g, f' = g + 1 := ⟨f' - 1, by omega⟩
            refine ⟨g, by omega, fun dn cu ak => ?_⟩
            rw [h2, prs_tok hlt hnf, if_pos hl]
          refine lp_up (n := n) (P := fun j => ∀ u, GoF w u → gI u 80 25 = nI p → gI u 80 24 = nI j → gL u 80 32 = cdW (wd B p j) → rEnd B n j = rEnd B n p → p ≤ j → (∀ k, p ≤ k → k < j → isL (B k) = true) → RV E (d + 1) 163 168 [(0, .ref 80)] u Q) (fun u hu h25 h24 hL he hpj hall => w_X12_go_168 ?_) (fun j hj ih u hu h25 h24 hL he hpj hall => w_X12_go_168 ?_) hp.2 _ (hF1.trans (GoF.vL _ 32 _)) rfl ht ?_ rfl (Nat.le_refl _) (fun k h1 h2 => by omega)
          · rw [gn u hu, h24]
            refine ⟨fun _ => ?_, fun z => absurd (nI_le (Nat.le_refl _) (by omega)) z⟩
            have e : rEnd B n n = n := rEnd_no (by omega)
            rw [e] at he
            exact fin u hu h25 (by rw [← he]; exact h24) (by rw [← he]; exact hL) (by rw [← he]; exact hall)
          · have hBj := gB' u hu j hj
            rw [gn u hu, h24, nI_leI (by omega) (by omega), nI_clamp (by omega), hBj.1]
            refine ⟨fun z => by omega, fun _ => ⟨vp_in_nI (by omega) (by decide), k_isLetM (fun hs => ⟨fun z => absurd z nI_01, fun _ => ?_⟩) (fun hs => ⟨fun _ => ?_, fun z => absurd rfl z⟩)⟩⟩
            · have hl2 : isL (B j) = true := (sml_L hBj.2).mp hs
              have hl3 : 97 ≤ B j ∧ B j ≤ 122 := of_decide_eq_true hl2
              have hall2 : ∀ k, p ≤ k → k < j + 1 → isL (B k) = true := by
                intro k h1 h2
                by_cases e : k = j
                · rw [e]
                  exact hl2
                · exact hall k h1 (by omega)
              have he2 : rEnd B n (j + 1) = rEnd B n p := by
                rw [← he]
                exact (rEnd_yes ⟨hj, hl2⟩).symm
              rw [h24, h25, nI_sub (by omega), nI_leI (by decide) (by omega), nI_add]
              refine ⟨fun z => ih _ ((hu.trans (GoF.vL u 32 _)).trans (GoF.vI _ _ (by omega))) h25 rfl ?_ he2 (by omega) hall2, fun z => ⟨vp_in_nI (by omega) (by decide), ih _ ((hu.trans (GoF.vL u 32 _)).trans (GoF.vI _ _ (by omega))) h25 rfl ?_ he2 (by omega) hall2⟩⟩
              · show (-1 : Int64) = _
                rw [wd_s B hpj]
                unfold cdW
                rw [if_neg (by rw [List.length_append, List.length_singleton, wd_len]; omega)]
              · show (((27 : Int64) * gL u 80 32) + (gA u 81 (nI j).toNatClampNeg).toInt64) - (96 : Int64) = _
                rw [nI_clamp (by omega), hBj.1, hL, wd_s B hpj]
                exact cd_step (by rw [wd_len]; omega) (by omega)
            · have e : rEnd B n j = j := rEnd_no (by rw [← sml_L hBj.2]; exact fun q => hs q.2)
              rw [e] at he
              exact fin u hu h25 (by rw [← he]; exact h24) (by rw [← he]; exact hL) (by rw [← he]; exact hall)
          · show (0 : Int64) = _
            unfold wd
            rw [Nat.sub_self]
            rfl
        · have hl : ¬ isL (B p) = true := fun q => hs ((sml_L hBp.2).mpr q)
          have ht1 : gI (v_I w' 80 25 (nI p)) 80 24 + nI 1 = nI (p + 1) := by
            show gI w' 80 24 + nI 1 = _
            rw [ht, nI_add]
          have hF2 : ∀ x y, GoF w (v_I (v_I (v_I w' 80 25 (nI p)) 80 26 x) 80 24 y) := fun x y => (hF1.trans (GoF.vI _ _ (by omega))).trans (GoF.vI _ _ (by omega))
          rw [nI_inj (by omega) (by decide), nI_inj (by omega) (by decide)]
          refine ⟨fun q1 => ⟨fun q2 => ?_, fun q2 => ?_⟩, fun q1 => ?_⟩
          · refine kW _ p (hF2 _ _) rfl rfl (by omega) (fun f dn cu ak hf => ?_)
            obtain ⟨f', h1, h2⟩ := hq f hf
            obtain ⟨g, rfl⟩ : ∃ g, f' = g + 1 := ⟨f' - 1, by omega⟩
            rw [h2, prs_tok hlt hnf, if_neg hl, if_neg q1, if_neg q2, if_neg (fun q => hnb ⟨hlt, q⟩)]
          · refine k4 _ p (hF2 _ _) rfl rfl ht1 (by omega) (fun f hf => ?_)
            obtain ⟨f', h1, h2⟩ := hq f hf
            obtain ⟨g, rfl⟩ : ∃ g, f' = g + 1 := ⟨f' - 1, by omega⟩
            refine ⟨g, by omega, fun dn cu ak => ?_⟩
            rw [h2, prs_tok hlt hnf, if_neg hl, if_neg q1, if_pos q2]
          · refine k3 _ p (hF2 _ _) rfl rfl ht1 (by omega) (fun f hf => ?_)
            obtain ⟨f', h1, h2⟩ := hq f hf
            obtain ⟨g, rfl⟩ : ∃ g, f' = g + 1 := ⟨f' - 1, by omega⟩
            refine ⟨g, by omega, fun dn cu ak => ?_⟩
            rw [h2, prs_tok hlt hnf, if_neg hl, if_pos q1]
      · have ep : p = n := by omega
        refine k0 _ (hF1.trans (GoF.vI _ _ (by omega))) rfl ?_ (fun f dn cu ak hf => ?_)
        · show nI p = _
          rw [ep]
        · obtain ⟨f', h1, h2⟩ := hq f hf
          obtain ⟨g, rfl⟩ : ∃ g, f' = g + 1 := ⟨f' - 1, by omega⟩
          rw [h2, prs_end (by omega) hnf]
    refine w_X12_go_52 ?_
    rw [gn w' hF, nI_leI (by omega) (by decide), ht, nI_ltI (by omega) (by decide)]
    refine ⟨fun h => at93 (by omega), fun h => ⟨fun h2 => at93 (by omega), fun h2 => ?_⟩⟩
    · refine kW _ 200 (((hF.trans (GoF.vI w' _ (by omega))).trans (GoF.vI _ _ (by omega))).trans (GoF.vI _ _ (by omega))) rfl rfl (by decide) (fun f dn cu ak hf => ?_)
      obtain ⟨f', h1, h3⟩ := hq f hf
      rw [h3, prs_far (by omega)]
  refine KV.of ok_163 (Nat.le_of_ble_eq_true rfl) ?_
  refine lp_up (n := n) (P := fun p => ∀ w', GoF w w' → gI w' 80 24 = nI p → i ≤ p → Peq B n i p → RV E (d + 1) 163 0 [(0, .ref 80)] w' Q) (fun w' hF ht hp hq => w_X12_go_0 ?_) (fun p hlt ih w' hF ht hp hq => w_X12_go_0 ?_) hi2 w (GoF.refl w) hi (Nat.le_refl _) (Peq.refl B n i)
  · rw [gn w' hF, ht]
    exact ⟨fun _ => at52 n w' hF ht ⟨hp, Nat.le_refl _⟩ (by omega) hq, fun z => absurd (nI_le (Nat.le_refl _) (by omega)) z⟩
  · have hBp := gB' w' hF p hlt
    have hv : vp_in (nI p) 240 := vp_in_nI (by omega) (by decide)
    have bl : (B p = 32 ∨ B p = 10) → RV E (d + 1) 163 39 [(0, .ref 80)] w' Q := by
      intro hb
      refine w_X12_go_39 (ih _ (hF.trans (GoF.vI w' _ (by omega))) ?_ (by omega) (hq.blank hlt hn2 hb))
      show gI w' 80 24 + nI 1 = _
      rw [ht, nI_add]
    rw [gn w' hF, ht, nI_leI (by omega) (by omega), nI_clamp (by omega), hBp.1, nI_inj (by omega) (by decide), nI_inj (by omega) (by decide)]
    exact ⟨fun z => by omega, fun _ => ⟨hv, fun q => bl (Or.inl q), fun q => ⟨hv, fun q2 => at52 p w' hF ht ⟨hp, by omega⟩ (by omega) hq, fun q2 => bl (Or.inr q2)⟩⟩⟩

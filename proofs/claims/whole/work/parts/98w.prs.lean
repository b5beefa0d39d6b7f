/-! patterns read: what the text says -/
def isL (c : Nat) : Bool := decide (97 ≤ c ∧ c ≤ 122)
def runE (B : Nat → Nat) (n : Nat) : Nat → Nat → Nat
  | 0, i => i
  | f + 1, i => if i < n ∧ isL (B i) = true then runE B n f (i + 1) else i
def rEnd (B : Nat → Nat) (n i : Nat) : Nat := runE B n (n - i) i
theorem rEnd_no {B : Nat → Nat} {n i : Nat} (h : ¬ (i < n ∧ isL (B i) = true)) : rEnd B n i = i := by
  unfold rEnd
  cases n - i with
  | zero => rfl
  | succ f => exact if_neg h
theorem rEnd_yes {B : Nat → Nat} {n i : Nat} (h : i < n ∧ isL (B i) = true) : rEnd B n i = rEnd B n (i + 1) := by
  unfold rEnd
  rw [show n - i = n - (i + 1) + 1 by omega]
  exact if_pos h
theorem runE_le (B : Nat → Nat) (n : Nat) : ∀ f i, i ≤ runE B n f i ∧ runE B n f i ≤ max i n
  | 0, i => ⟨Nat.le_refl _, Nat.le_max_left _ _⟩
  | f + 1, i => by
    show i ≤ (if i < n ∧ isL (B i) = true then runE B n f (i + 1) else i) ∧ (if i < n ∧ isL (B i) = true then runE B n f (i + 1) else i) ≤ max i n
    by_cases h : i < n ∧ isL (B i) = true
    · rw [if_pos h]
      have := runE_le B n f (i + 1)
      omega
    · rw [if_neg h]
      exact ⟨Nat.le_refl _, Nat.le_max_left _ _⟩
theorem rEnd_gt {B : Nat → Nat} {n i : Nat} (h : i < n ∧ isL (B i) = true) : i + 1 ≤ rEnd B n i ∧ rEnd B n i ≤ n := by
  rw [rEnd_yes h]
  have := runE_le B n (n - (i + 1)) (i + 1)
  unfold rEnd
  omega
def wd (B : Nat → Nat) (i j : Nat) : List Nat := (List.range (j - i)).map (fun k => B (i + k))
def srtN : List (List Nat) := [[110, 97, 109, 101], [116, 114, 97, 100, 101], [111, 102, 102, 105, 99, 101], [116, 104, 105, 110, 103], [111, 116, 104, 101, 114]]
def srt (w : List Nat) : Option Nat := srtN.findIdx? (fun x => decide (x = w))
def setO (l : List (Nat × Bool)) : List (Nat × Bool) := match l.reverse with
  | [] => []
  | (s, _) :: r => r.reverse ++ [(s, true)]
theorem setO_snoc (l : List (Nat × Bool)) (s : Nat) (o : Bool) : setO (l ++ [(s, o)]) = l ++ [(s, true)] := by
  unfold setO
  rw [List.reverse_append, List.reverse_singleton, List.singleton_append]
  show l.reverse.reverse ++ [(s, true)] = _
  rw [List.reverse_reverse]
abbrev Pats : Type := List (List (Nat × Bool))
def prs (B : Nat → Nat) (n : Nat) : Nat → Nat → Pats → List (Nat × Bool) → Bool → Nat × Nat × Pats
  | 0, _, dn, _, _ => (1, 200, dn)
  | f + 1, i, dn, cu, ak =>
    if 200 ≤ i ∧ 200 < n then (1, 200, dn)
    else if n ≤ i then (if cu = [] then (0, 0, dn) else (1, n, dn))
    else if isL (B i) = true then
      (match srt (wd B i (rEnd B n i)) with
        | none => (1, i, dn)
        | some s => if 6 ≤ cu.length ∨ 8 ≤ dn.length then (2, i, dn) else prs B n f (rEnd B n i) dn (cu ++ [(s, false)]) true)
    else if B i = 63 then (if ak = true then prs B n f (i + 1) dn (setO cu) false else (1, i, dn))
    else if B i = 59 then (if cu = [] then (1, i, dn) else if cu.all (fun x => x.2) = true then (3, i, dn) else prs B n f (i + 1) (dn ++ [cu]) [] false)
    else if B i = 32 ∨ B i = 10 then prs B n f (i + 1) dn cu ak
    else (1, i, dn)
/-! the class: sorts of words -/
theorem chN : ∀ s, s < 5 → ∀ w, srtN[s]? = some w → x_lens.getD s 0 = w.length ∧ ∀ k c, k < w.length → w[k]? = some c → x_ch s k = nI c ∧ c < 256 := by
  have : ∀ s, s < 5 → ∀ k, k < 6 → x_lens.getD s 0 = (srtN.getD s []).length ∧ (k < (srtN.getD s []).length → x_ch s k = nI ((srtN.getD s []).getD k 0) ∧ (srtN.getD s []).getD k 0 < 256) := by decide +kernel
  intro s hs w hw
  have e : srtN.getD s [] = w := by rw [List.getD_eq_getElem?_getD, hw]; rfl
  have h0 := this s hs 0 (by decide)
  rw [e] at h0
  have hlen : w.length ≤ 6 := by
    have : ∀ s, s < 5 → (srtN.getD s []).length ≤ 6 := by decide
    have := this s hs
    rw [e] at this
    exact this
  refine ⟨h0.1, fun k c hk hc => ?_⟩
  have h1 := (this s hs k (by omega)).2
  rw [e] at h1
  have := h1 hk
  rw [List.getD_eq_getElem?_getD, hc] at this
  exact this
theorem wd_len (B : Nat → Nat) (i j : Nat) : (wd B i j).length = j - i := by
  unfold wd
  rw [List.length_map, List.length_range]
theorem wd_at (B : Nat → Nat) {i j k : Nat} (h : k < j - i) : (wd B i j)[k]? = some (B (i + k)) := by
  unfold wd
  rw [List.getElem?_map, List.getElem?_range h]
  rfl
theorem wd_eq {B : Nat → Nat} {i j : Nat} {w : List Nat} (hl : w.length = j - i) : w = wd B i j ↔ ∀ k, k < w.length → w[k]? = some (B (i + k)) := by
  constructor
  · intro h k hk
    rw [h]
    exact wd_at B (by omega)
  · intro h
    apply List.ext_getElem?
    intro k
    by_cases hk : k < w.length
    · rw [h k hk, wd_at B (by omega)]
    · rw [List.getElem?_eq_none (by omega), List.getElem?_eq_none (by rw [wd_len]; omega)]
theorem k_spells {E : Nat × (Nat → Int32)} {d : Nat} {v : xV} {B : Nat → Nat} {n i j s : Nat} {w : List Nat} {Q : Int32 → xV → Prop} (hn : gI v 1 1 = nI n) (hn2 : n ≤ 240) (hB : ∀ k, k < n → gA v 2 k = nI (B k) ∧ B k < 256) (hs : s < 5) (hw : srtN[s]? = some w) (hij : i ≤ j) (hj : j ≤ n) (k1 : w = wd B i j → Q (nI 1) v) (k0 : ¬ w = wd B i j → Q (nI 0) v) : KI E (d + 4) 49 [.ref 17, .ref (x_ext0 + (s + 1)), .int (nI i), .int (nI j)] v Q := by
  obtain ⟨hl, hc⟩ := chN s hs w hw
  have hl6 : w.length ≤ 6 := by
    have : ∀ s, s < 5 → (srtN.getD s []).length ≤ 6 := by decide
    have := this s hs
    rw [List.getD_eq_getElem?_getD, hw] at this
    exact this
  refine KI.of ok_49 (Nat.le_of_ble_eq_true rfl) (w_X5_spells_0 hs ?_)
  rw [hl, nI_sub hij, nI_inj (by omega) (by omega)]
  refine ⟨fun e => ?_, fun e => k0 (fun q => e (by rw [q, wd_len]))⟩
  refine lp_up (n := w.length) (P := fun k => (∀ k', k' < k → w[k']? = some (B (i + k'))) → RI E (d + 4) 49 15 [(0, .ref 17), (1, .ref (x_ext0 + (s + 1))), (2, .int (nI i)), (4, .int (nI k))] v Q) (fun h => w_X5_spells_15 hs ?_) (fun k hk ih h => w_X5_spells_15 hs ?_) (Nat.zero_le _) (fun k' hk' => absurd hk' (Nat.not_lt_zero _))
  · rw [hl]
    exact ⟨fun _ => k1 ((wd_eq e).mpr h), fun z => absurd (nI_le (Nat.le_refl _) (by omega)) z⟩
  · have ek : w[k]? = some w[k] := List.getElem?_eq_getElem hk
    have hck := hc k w[k] hk ek
    have hb := hB (i + k) (by omega)
    rw [hl, nI_leI (by omega) (by omega), nI_clamp (by omega), nI_add, nI_add, hck.1]
    refine ⟨fun z => by omega, fun _ => ⟨vp_in_nI hk (by omega), k_at hn hn2 (by omega) ?_⟩⟩
    rw [hb.1, nI_inj (by omega) (by omega)]
    refine ⟨fun z => ih (fun k' hk' => ?_), fun z => k0 (fun q => ?_)⟩
    · by_cases e2 : k' = k
      · rw [e2, ek, z]
      · exact h k' (by omega)
    · have := (wd_eq e).mp q k hk
      rw [ek] at this
      exact z (Option.some.inj this)
theorem k_sortOf {E : Nat × (Nat → Int32)} {d : Nat} {v : xV} {B : Nat → Nat} {n i j : Nat} {Q : Int32 → xV → Prop} (hn : gI v 1 1 = nI n) (hn2 : n ≤ 240) (hB : ∀ k, k < n → gA v 2 k = nI (B k) ∧ B k < 256) (hij : i ≤ j) (hj : j ≤ n) (k1 : ∀ s, s < 5 → srt (wd B i j) = some s → Q (nI s) v) (k0 : srt (wd B i j) = none → Q (-1) v) : KI E (d + 5) 48 [.ref 17, .int (nI i), .int (nI j)] v Q := by
  have cases5 : ∀ s, s < 5 → ∃ w, srtN[s]? = some w := by
    intro s hs
    exact ⟨_, List.getElem?_eq_getElem (by exact hs)⟩
  refine KI.of ok_48 (Nat.le_of_ble_eq_true rfl) (w_X5_sortOf_0 ?_)
  refine lp_up (n := 5) (P := fun s => (∀ s' w, s' < s → srtN[s']? = some w → ¬ w = wd B i j) → RI E (d + 5) 48 2 [(0, .ref 17), (1, .int (nI i)), (2, .int (nI j)), (3, .int (nI s))] v Q) (fun h => w_X5_sortOf_2 ⟨fun _ => k0 ?_, fun z => absurd (by decide) z⟩) (fun s hs ih h => w_X5_sortOf_2 ⟨fun z => ?_, fun _ => ?_⟩) (Nat.zero_le _) (fun s' w hs' => absurd hs' (Nat.not_lt_zero _))
  · unfold srt
    rw [List.findIdx?_eq_none_iff]
    intro w hw
    obtain ⟨s, hs, e⟩ := List.mem_iff_getElem.mp hw
    exact decide_eq_false (h s w (by exact hs) (by rw [List.getElem?_eq_getElem hs, e]))
  · exfalso
    rw [nI_leI (by omega) (by omega)] at z
    omega
  · obtain ⟨w, hw⟩ := cases5 s hs
    have go : KI E (d + 4) 49 [.ref 17, .ref (x_ext0 + (s + 1)), .int (nI i), .int (nI j)] v (fun y4 v3 => ((y4 = nI 0 → RI E (d + 5) 48 2 [(0, .ref 17), (1, .int (nI i)), (2, .int (nI j)), (3, .int (nI s + nI 1))] v3 Q) ∧ (¬ y4 = nI 0 → Q (nI s) v3))) := by
      refine k_spells hn hn2 hB hs hw hij hj (fun q => ⟨fun z => absurd z nI_01, fun _ => k1 s hs ?_⟩) (fun q => ⟨fun _ => ?_, fun z => absurd rfl z⟩)
      · unfold srt
        rw [List.findIdx?_eq_some_iff_getElem]
        refine ⟨by exact hs, ?_, fun s' hs' => ?_⟩
        · rw [List.getElem?_eq_getElem (by exact hs)] at hw
          cases hw
          exact decide_eq_true q
        · rw [Bool.not_eq_true, decide_eq_false_iff_not]
          have h5 : s' < 5 := Nat.lt_trans hs' hs
          exact h s' _ hs' (List.getElem?_eq_getElem (show s' < srtN.length from h5))
      · rw [nI_add]
        refine ih (fun s' w' hs' hw' => ?_)
        by_cases e : s' = s
        · subst e
          rw [hw] at hw'
          cases hw'
          exact q
        · exact h s' w' (by omega) hw'
    refine KA.of ok_50 (Nat.le_of_ble_eq_true rfl) (w_X5_sortName_0 ?_)
    rw [nI_toInt (by omega), nI_inj (by omega) (by decide), nI_inj (by omega) (by decide), nI_inj (by omega) (by decide), nI_inj (by omega) (by decide)]
    refine ⟨fun z => ?_, fun z => ?_, fun z => ?_, fun z => ?_, fun z => ?_⟩
    · have : s = 4 := by omega
      subst this
      exact go
    · subst z
      exact go
    · subst z
      exact go
    · subst z
      exact go
    · subst z
      exact go

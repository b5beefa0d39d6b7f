/-! the law's loop -/
theorem KO.mono {E : Nat × (Nat → Int32)} {d pc : Nat} {args : List Value} {v : xV} {Q Q' : Int32 → xV → Prop} (h : KO E d pc args v Q) (f : ∀ y w, Q y w → Q' y w) : KO E d pc args v Q' := fun lv Q2 hk => h lv Q2 (fun y w hq => hk y w (f y w hq))
theorem l_end {N i : Nat} (hN : N ≤ 3072) (hi : i ≤ 4000) : (Int32.ofNat N - nI 6 < nI i) ↔ N < i + 6 := by
  have e6 : (nI 6).toInt = 6 := nI_toInt (by decide)
  have eN : (Int32.ofNat N).toInt = N := nI_toInt (n := N) (by omega)
  rw [Int32.lt_iff_toInt_lt, Int32.toInt_sub, eN, e6, nI_toInt (by omega)]
  have : ((N : Int) - 6).bmod (2 ^ 32) = (N : Int) - 6 := by
    rw [Int.bmod_eq_of_le] <;> omega
  rw [this]
  omega
def lQ (y : Int32) (w : xV) : Prop := y = nI 1 ∧ ∃ c, c ≤ 512 ∧ J c w
abbrev lV (x : Int32) : List (Nat × Value) := [(0, .ref 1000000), (1, .ref 0), (2, .ref 80), (3, .ref 139), (4, .int x)]
theorem law_loop {E : Nat × (Nat → Int32)} (hN : E.1 ≤ 3072) : ∀ (n c : Nat) (v : xV), 513 ≤ c + n → 6 * c ≤ E.1 → J c v → RI E 40 239 23 (lV (nI (6 * c))) v lQ := by
  intro n
  induction n with
  | zero => intro c v h1 h2; omega
  | succ n ih =>
    intro c v hn hc hJ
    have hc30 : c < 2 ^ 30 := by omega
    refine w_L_law_23 (d := 39) ?_
    rw [l_end hN (by omega)]
    refine ⟨fun _ => ⟨rfl, c, by omega, hJ⟩, fun hlt => ?_⟩
    have hv : ∀ j, j ≤ 5 → vp_in (nI (6 * c) + nI j) E.1 := fun j hj => by
      rw [nI_add]
      exact vp_in_nI (by omega) (by omega)
    have nx : ∀ w, J (c + 1) w → RI E 40 239 23 (lV (nI (6 * c) + nI 6)) w lQ := fun w hw => by
      rw [nI_add]
      exact ih (c + 1) w (by omega) (by omega) hw
    have v1 := hv 1 (by decide)
    have v2 := hv 2 (by decide)
    have v3 := hv 3 (by decide)
    have v4 := hv 4 (by decide)
    have v5 := hv 5 (by decide)
    refine ⟨vp_in_nI (by omega) (by omega), fun _ => nx v hJ.up, fun _ => ?_, fun _ => ?_, fun _ => ?_, fun _ => ?_, fun _ => ?_, fun _ => ?_, fun _ => ?_, fun _ => ?_, fun _ => ?_, fun _ => ?_, fun _ => ?_, fun _ => ?_, fun _ => ?_, fun _ => ?_, fun _ => ?_, fun _ => ?_, fun _ => ?_, fun _ => ?_, fun _ => ?_, fun _ => ?_, fun _ => ?_, fun _ => ?_, fun _ => ?_, fun _ => ?_, fun _ => ?_, fun _ => ?_, fun _ => ?_, fun _ => ?_⟩
    · exact ⟨v1, v2, v3, v4, v5, KI.mono (pj_feed hJ) (fun y1 w1 h1 => ⟨v1, v2, v3, v4, v5, KI.mono h1 (fun y2 w2 h2 => ⟨fun _ => nx w2 h2.2.up, fun ne => absurd h2.1 ne⟩)⟩)⟩
    · exact ⟨v1, KI.mono (pj_end hJ) (fun y1 w1 h1 => ⟨v1, KI.mono h1 (fun y2 w2 h2 => ⟨fun _ => nx w2 h2.2.up, fun ne => absurd h2.1 ne⟩)⟩)⟩
    · exact ⟨v1, KI.mono (pj_next hJ) (fun y1 w1 h1 => ⟨v1, KI.mono h1 (fun y2 w2 h2 => ⟨fun _ => nx w2 h2.2.up, fun ne => absurd h2.1 ne⟩)⟩)⟩
    · exact ⟨v1, v2, KI.mono (pj_form hJ) (fun y1 w1 h1 => ⟨v1, v2, KI.mono h1 (fun y2 w2 h2 => ⟨fun _ => nx w2 h2.2, fun ne => absurd h2.1 ne⟩)⟩)⟩
    · exact ⟨v1, KI.mono (pj_word hJ) (fun y1 w1 h1 => ⟨v1, KI.mono h1 (fun y2 w2 h2 => ⟨fun _ => nx w2 h2.2, fun ne => absurd h2.1 ne⟩)⟩)⟩
    · exact ⟨v1, v2, v3, KI.mono (pj_street hJ) (fun y1 w1 h1 => ⟨v1, v2, v3, KI.mono h1 (fun y2 w2 h2 => ⟨fun _ => nx w2 h2.2.up, fun ne => absurd h2.1 ne⟩)⟩)⟩
    · exact ⟨v1, v2, KI.mono (pj_wall hJ) (fun y1 w1 h1 => ⟨v1, v2, KI.mono h1 (fun y2 w2 h2 => ⟨fun _ => nx w2 h2.2.up, fun ne => absurd h2.1 ne⟩)⟩)⟩
    · exact ⟨v1, v2, v3, KI.mono (pj_habit hJ) (fun y1 w1 h1 => ⟨v1, v2, v3, KI.mono h1 (fun y2 w2 h2 => ⟨fun _ => nx w2 h2.2, fun ne => absurd h2.1 ne⟩)⟩)⟩
    · exact KI.mono (pj_patterns hJ) (fun y1 w1 h1 => KI.mono h1 (fun y2 w2 h2 => ⟨fun _ => nx w2 h2.2, fun ne => absurd h2.1 ne⟩))
    · exact KI.mono (pj_fault hJ) (fun y1 w1 h1 => KI.mono h1 (fun y2 w2 h2 => ⟨fun _ => nx w2 h2.2.up, fun ne => absurd h2.1 ne⟩))
    · exact ⟨v1, v2, v3, KI.mono (pj_scrawl hJ) (fun y1 w1 h1 => ⟨v1, v2, v3, KI.mono h1 (fun y2 w2 h2 => ⟨fun _ => nx w2 h2.2, fun ne => absurd h2.1 ne⟩)⟩)⟩
    · exact ⟨v1, KI.mono (pj_photo hJ) (fun y1 w1 h1 => ⟨v1, KI.mono h1 (fun y2 w2 h2 => ⟨fun _ => nx w2 h2.2, fun ne => absurd h2.1 ne⟩)⟩)⟩
    · exact ⟨v1, v2, KI.mono (pj_drawing hJ) (fun y1 w1 h1 => ⟨v1, v2, KI.mono h1 (fun y2 w2 h2 => ⟨fun _ => nx w2 h2.2, fun ne => absurd h2.1 ne⟩)⟩)⟩
    · exact ⟨v1, v2, v3, v4, KI.mono (p_cost hJ) (fun y1 w1 h1 => ⟨v1, v2, v3, v4, KI.mono h1 (fun y2 w2 h2 => ⟨fun _ => nx w2 h2.2.up, fun ne => absurd h2.1 ne⟩)⟩)⟩
    · exact ⟨v1, v2, KI.mono (p_read hJ hc30) (fun y1 w1 h1 => ⟨v1, v2, KI.mono h1 (fun y2 w2 h2 => ⟨fun _ => nx w2 h2.2.up, fun ne => absurd h2.1 ne⟩)⟩)⟩
    · exact ⟨v1, KO.mono (pj_octet (d := 38) hJ (by decide)) (fun y1 w1 h1 => ⟨v1, KI.mono h1 (fun y2 w2 h2 => KI.mono h2 (fun y3 w3 h3 => ⟨fun _ => ⟨fun _ => nx w3 h3.2.2, fun e => ⟨fun _ => nx w3 h3.2.2, fun ne => absurd (h3.2.1 e) ne⟩⟩, fun ne => absurd h3.1 ne⟩))⟩)⟩
    · exact ⟨v1, v2, v3, KI.mono (p_reading hJ hc30) (fun y1 w1 h1 => ⟨v1, v2, v3, KI.mono h1 (fun y2 w2 h2 => ⟨fun _ => nx w2 h2.2.up, fun ne => absurd h2.1 ne⟩)⟩)⟩
    · exact ⟨v1, v2, v3, KI.mono (p_used hJ hc30) (fun y1 w1 h1 => ⟨v1, v2, v3, KI.mono h1 (fun y2 w2 h2 => ⟨fun _ => nx w2 h2.2.up, fun ne => absurd h2.1 ne⟩)⟩)⟩
    · exact ⟨v1, v2, v3, KI.mono (p_agree hJ hc30) (fun y1 w1 h1 => ⟨v1, v2, v3, KI.mono h1 (fun y2 w2 h2 => ⟨fun _ => nx w2 h2.2.up, fun ne => absurd h2.1 ne⟩)⟩)⟩
    · exact ⟨v1, v2, KI.mono (p_hand hJ hc30) (fun y1 w1 h1 => ⟨v1, v2, KI.mono h1 (fun y2 w2 h2 => ⟨fun _ => nx w2 h2.2.up, fun ne => absurd h2.1 ne⟩)⟩)⟩
    · exact ⟨v1, v2, v3, v4, v5, KI.mono (pj_fact hJ) (fun y1 w1 h1 => ⟨v1, v2, v3, v4, v5, KI.mono h1 (fun y2 w2 h2 => ⟨fun _ => nx w2 h2.2.up, fun ne => absurd h2.1 ne⟩)⟩)⟩
    · refine ⟨v1, v2, v3, fun z => KI.mono (p_span (d := 26) hJ hc30) (fun y1 w1 h1 => ⟨v1, v2, v3, fun _ => KI.mono h1 (fun y2 w2 h2 => ⟨fun _ => nx w2 h2.2.up, fun ne => absurd h2.1 ne⟩), fun nz => absurd z nz⟩), fun z => KI.mono (p_span (d := 26) hJ hc30) (fun y1 w1 h1 => ⟨v1, v2, v3, fun zz => absurd zz z, fun _ => KI.mono h1 (fun y2 w2 h2 => ⟨fun _ => nx w2 h2.2.up, fun ne => absurd h2.1 ne⟩)⟩)⟩
    · refine ⟨v1, v2, v3, v4, fun z => KI.mono (p_laid (d := 26) hJ hc30) (fun y1 w1 h1 => ⟨v1, v2, v3, v4, fun _ => KI.mono h1 (fun y2 w2 h2 => ⟨fun _ => nx w2 h2.2.up, fun ne => absurd h2.1 ne⟩), fun nz => absurd z nz⟩), fun z => KI.mono (p_laid (d := 26) hJ hc30) (fun y1 w1 h1 => ⟨v1, v2, v3, v4, fun zz => absurd zz z, fun _ => KI.mono h1 (fun y2 w2 h2 => ⟨fun _ => nx w2 h2.2.up, fun ne => absurd h2.1 ne⟩)⟩)⟩
    · exact ⟨v1, KI.mono (p_spoilt hJ hc30) (fun y1 w1 h1 => ⟨v1, KI.mono h1 (fun y2 w2 h2 => ⟨fun _ => nx w2 h2.2.up, fun ne => absurd h2.1 ne⟩)⟩)⟩
    · exact ⟨v1, v2, KI.mono (p_persons hJ hc30) (fun y1 w1 h1 => ⟨v1, v2, KI.mono h1 (fun y2 w2 h2 => ⟨fun _ => nx w2 h2.2.up, fun ne => absurd h2.1 ne⟩)⟩)⟩
    · exact ⟨v1, v2, KI.mono (p_person hJ hc30) (fun y1 w1 h1 => ⟨v1, v2, KI.mono h1 (fun y2 w2 h2 => ⟨fun _ => nx w2 h2.2.up, fun ne => absurd h2.1 ne⟩)⟩)⟩
    · exact ⟨v1, v2, v3, KI.mono (p_walk hJ hc30) (fun y1 w1 h1 => ⟨v1, v2, v3, KI.mono h1 (fun y2 w2 h2 => ⟨fun _ => nx w2 h2.2.up, fun ne => absurd h2.1 ne⟩)⟩)⟩
    · exact ⟨v1, KI.mono (pj_count hJ) (fun y1 w1 h1 => ⟨v1, KI.mono h1 (fun y2 w2 h2 => ⟨fun _ => nx w2 h2.2.up, fun ne => absurd h2.1 ne⟩)⟩)⟩

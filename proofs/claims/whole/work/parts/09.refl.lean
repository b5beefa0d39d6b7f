theorem xb_if_eq_t {E : Nat × (Nat → Int32)} {d m pc tgt : Nat} {off : Int} {lv : List (Nat × Value)} {st : List Value} {S S' : xS} {r : Option Value} {x : Int32} (hdg : decode (x_mB m) pc = .ok (.ifCond .eq off, 3)) (ht : (pc : Int) + off = (tgt : Int)) (hc : x = 0) (h : x_Rw E d m tgt lv st S r S') : x_Rw E d m pc lv (.int x :: st) S r S' :=
  x_step h (fun w1 w2 => ⟨w1, xw1 w2⟩) (fun l p e R s mid args below meth c A D cs q al H locs ls cells slots Q C X hl k => lv_if_eq C.2.1 C.2.2.1 hdg ht (fun _ => k ls hl) (fun h0 => absurd hc (by first | exact h0 | exact fun z => z h0 | (intro z; exact z h0))))
theorem xb_if_eq_f {E : Nat × (Nat → Int32)} {d m pc tgt : Nat} {off : Int} {lv : List (Nat × Value)} {st : List Value} {S S' : xS} {r : Option Value} {x : Int32} (hdg : decode (x_mB m) pc = .ok (.ifCond .eq off, 3)) (ht : (pc : Int) + off = (tgt : Int)) (hc : ¬ x = 0) (h : x_Rw E d m (pc + 3) lv st S r S') : x_Rw E d m pc lv (.int x :: st) S r S' :=
  x_step h (fun w1 w2 => ⟨w1, xw1 w2⟩) (fun l p e R s mid args below meth c A D cs q al H locs ls cells slots Q C X hl k => lv_if_eq C.2.1 C.2.2.1 hdg ht (fun h0 => absurd h0 (by first | exact hc | exact fun z => z hc | (intro z; exact z hc))) (fun _ => k ls hl))
theorem xb_ic_eq_t {E : Nat × (Nat → Int32)} {d m pc tgt : Nat} {off : Int} {lv : List (Nat × Value)} {st : List Value} {S S' : xS} {r : Option Value} {x y : Int32} (hdg : decode (x_mB m) pc = .ok (.if_icmp .eq off, 3)) (ht : (pc : Int) + off = (tgt : Int)) (hc : x = y) (h : x_Rw E d m tgt lv st S r S') : x_Rw E d m pc lv (.int y :: .int x :: st) S r S' :=
  x_step h (fun w1 w2 => ⟨w1, xw2 w2⟩) (fun l p e R s mid args below meth c A D cs q al H locs ls cells slots Q C X hl k => lv_icmp_eq C.2.1 C.2.2.1 hdg ht (fun _ => k ls hl) (fun h0 => absurd hc (by first | exact h0 | exact fun z => z h0 | (intro z; exact z h0))))
theorem xb_ic_eq_f {E : Nat × (Nat → Int32)} {d m pc tgt : Nat} {off : Int} {lv : List (Nat × Value)} {st : List Value} {S S' : xS} {r : Option Value} {x y : Int32} (hdg : decode (x_mB m) pc = .ok (.if_icmp .eq off, 3)) (ht : (pc : Int) + off = (tgt : Int)) (hc : ¬ x = y) (h : x_Rw E d m (pc + 3) lv st S r S') : x_Rw E d m pc lv (.int y :: .int x :: st) S r S' :=
  x_step h (fun w1 w2 => ⟨w1, xw2 w2⟩) (fun l p e R s mid args below meth c A D cs q al H locs ls cells slots Q C X hl k => lv_icmp_eq C.2.1 C.2.2.1 hdg ht (fun h0 => absurd h0 (by first | exact hc | exact fun z => z hc | (intro z; exact z hc))) (fun _ => k ls hl))
theorem xb_if_ne_t {E : Nat × (Nat → Int32)} {d m pc tgt : Nat} {off : Int} {lv : List (Nat × Value)} {st : List Value} {S S' : xS} {r : Option Value} {x : Int32} (hdg : decode (x_mB m) pc = .ok (.ifCond .ne off, 3)) (ht : (pc : Int) + off = (tgt : Int)) (hc : ¬ x = 0) (h : x_Rw E d m tgt lv st S r S') : x_Rw E d m pc lv (.int x :: st) S r S' :=
  x_step h (fun w1 w2 => ⟨w1, xw1 w2⟩) (fun l p e R s mid args below meth c A D cs q al H locs ls cells slots Q C X hl k => lv_if_ne C.2.1 C.2.2.1 hdg ht (fun _ => k ls hl) (fun h0 => absurd hc (by first | exact h0 | exact fun z => z h0 | (intro z; exact z h0))))
theorem xb_if_ne_f {E : Nat × (Nat → Int32)} {d m pc tgt : Nat} {off : Int} {lv : List (Nat × Value)} {st : List Value} {S S' : xS} {r : Option Value} {x : Int32} (hdg : decode (x_mB m) pc = .ok (.ifCond .ne off, 3)) (ht : (pc : Int) + off = (tgt : Int)) (hc : x = 0) (h : x_Rw E d m (pc + 3) lv st S r S') : x_Rw E d m pc lv (.int x :: st) S r S' :=
  x_step h (fun w1 w2 => ⟨w1, xw1 w2⟩) (fun l p e R s mid args below meth c A D cs q al H locs ls cells slots Q C X hl k => lv_if_ne C.2.1 C.2.2.1 hdg ht (fun h0 => absurd h0 (by first | exact hc | exact fun z => z hc | (intro z; exact z hc))) (fun _ => k ls hl))
theorem xb_ic_ne_t {E : Nat × (Nat → Int32)} {d m pc tgt : Nat} {off : Int} {lv : List (Nat × Value)} {st : List Value} {S S' : xS} {r : Option Value} {x y : Int32} (hdg : decode (x_mB m) pc = .ok (.if_icmp .ne off, 3)) (ht : (pc : Int) + off = (tgt : Int)) (hc : ¬ x = y) (h : x_Rw E d m tgt lv st S r S') : x_Rw E d m pc lv (.int y :: .int x :: st) S r S' :=
  x_step h (fun w1 w2 => ⟨w1, xw2 w2⟩) (fun l p e R s mid args below meth c A D cs q al H locs ls cells slots Q C X hl k => lv_icmp_ne C.2.1 C.2.2.1 hdg ht (fun _ => k ls hl) (fun h0 => absurd hc (by first | exact h0 | exact fun z => z h0 | (intro z; exact z h0))))
theorem xb_ic_ne_f {E : Nat × (Nat → Int32)} {d m pc tgt : Nat} {off : Int} {lv : List (Nat × Value)} {st : List Value} {S S' : xS} {r : Option Value} {x y : Int32} (hdg : decode (x_mB m) pc = .ok (.if_icmp .ne off, 3)) (ht : (pc : Int) + off = (tgt : Int)) (hc : x = y) (h : x_Rw E d m (pc + 3) lv st S r S') : x_Rw E d m pc lv (.int y :: .int x :: st) S r S' :=
  x_step h (fun w1 w2 => ⟨w1, xw2 w2⟩) (fun l p e R s mid args below meth c A D cs q al H locs ls cells slots Q C X hl k => lv_icmp_ne C.2.1 C.2.2.1 hdg ht (fun h0 => absurd h0 (by first | exact hc | exact fun z => z hc | (intro z; exact z hc))) (fun _ => k ls hl))
theorem xb_if_lt_t {E : Nat × (Nat → Int32)} {d m pc tgt : Nat} {off : Int} {lv : List (Nat × Value)} {st : List Value} {S S' : xS} {r : Option Value} {x : Int32} (hdg : decode (x_mB m) pc = .ok (.ifCond .lt off, 3)) (ht : (pc : Int) + off = (tgt : Int)) (hc : x < 0) (h : x_Rw E d m tgt lv st S r S') : x_Rw E d m pc lv (.int x :: st) S r S' :=
  x_step h (fun w1 w2 => ⟨w1, xw1 w2⟩) (fun l p e R s mid args below meth c A D cs q al H locs ls cells slots Q C X hl k => lv_if_lt C.2.1 C.2.2.1 hdg ht (fun _ => k ls hl) (fun h0 => absurd hc (by first | exact h0 | exact fun z => z h0 | (intro z; exact z h0))))
theorem xb_if_lt_f {E : Nat × (Nat → Int32)} {d m pc tgt : Nat} {off : Int} {lv : List (Nat × Value)} {st : List Value} {S S' : xS} {r : Option Value} {x : Int32} (hdg : decode (x_mB m) pc = .ok (.ifCond .lt off, 3)) (ht : (pc : Int) + off = (tgt : Int)) (hc : ¬ x < 0) (h : x_Rw E d m (pc + 3) lv st S r S') : x_Rw E d m pc lv (.int x :: st) S r S' :=
  x_step h (fun w1 w2 => ⟨w1, xw1 w2⟩) (fun l p e R s mid args below meth c A D cs q al H locs ls cells slots Q C X hl k => lv_if_lt C.2.1 C.2.2.1 hdg ht (fun h0 => absurd h0 (by first | exact hc | exact fun z => z hc | (intro z; exact z hc))) (fun _ => k ls hl))
theorem xb_ic_lt_t {E : Nat × (Nat → Int32)} {d m pc tgt : Nat} {off : Int} {lv : List (Nat × Value)} {st : List Value} {S S' : xS} {r : Option Value} {x y : Int32} (hdg : decode (x_mB m) pc = .ok (.if_icmp .lt off, 3)) (ht : (pc : Int) + off = (tgt : Int)) (hc : x < y) (h : x_Rw E d m tgt lv st S r S') : x_Rw E d m pc lv (.int y :: .int x :: st) S r S' :=
  x_step h (fun w1 w2 => ⟨w1, xw2 w2⟩) (fun l p e R s mid args below meth c A D cs q al H locs ls cells slots Q C X hl k => lv_icmp_lt C.2.1 C.2.2.1 hdg ht (fun _ => k ls hl) (fun h0 => absurd hc (by first | exact h0 | exact fun z => z h0 | (intro z; exact z h0))))
theorem xb_ic_lt_f {E : Nat × (Nat → Int32)} {d m pc tgt : Nat} {off : Int} {lv : List (Nat × Value)} {st : List Value} {S S' : xS} {r : Option Value} {x y : Int32} (hdg : decode (x_mB m) pc = .ok (.if_icmp .lt off, 3)) (ht : (pc : Int) + off = (tgt : Int)) (hc : ¬ x < y) (h : x_Rw E d m (pc + 3) lv st S r S') : x_Rw E d m pc lv (.int y :: .int x :: st) S r S' :=
  x_step h (fun w1 w2 => ⟨w1, xw2 w2⟩) (fun l p e R s mid args below meth c A D cs q al H locs ls cells slots Q C X hl k => lv_icmp_lt C.2.1 C.2.2.1 hdg ht (fun h0 => absurd h0 (by first | exact hc | exact fun z => z hc | (intro z; exact z hc))) (fun _ => k ls hl))
theorem xb_if_ge_t {E : Nat × (Nat → Int32)} {d m pc tgt : Nat} {off : Int} {lv : List (Nat × Value)} {st : List Value} {S S' : xS} {r : Option Value} {x : Int32} (hdg : decode (x_mB m) pc = .ok (.ifCond .ge off, 3)) (ht : (pc : Int) + off = (tgt : Int)) (hc : 0 ≤ x) (h : x_Rw E d m tgt lv st S r S') : x_Rw E d m pc lv (.int x :: st) S r S' :=
  x_step h (fun w1 w2 => ⟨w1, xw1 w2⟩) (fun l p e R s mid args below meth c A D cs q al H locs ls cells slots Q C X hl k => lv_if_ge C.2.1 C.2.2.1 hdg ht (fun _ => k ls hl) (fun h0 => absurd hc (by first | exact h0 | exact fun z => z h0 | (intro z; exact z h0))))
theorem xb_if_ge_f {E : Nat × (Nat → Int32)} {d m pc tgt : Nat} {off : Int} {lv : List (Nat × Value)} {st : List Value} {S S' : xS} {r : Option Value} {x : Int32} (hdg : decode (x_mB m) pc = .ok (.ifCond .ge off, 3)) (ht : (pc : Int) + off = (tgt : Int)) (hc : ¬ 0 ≤ x) (h : x_Rw E d m (pc + 3) lv st S r S') : x_Rw E d m pc lv (.int x :: st) S r S' :=
  x_step h (fun w1 w2 => ⟨w1, xw1 w2⟩) (fun l p e R s mid args below meth c A D cs q al H locs ls cells slots Q C X hl k => lv_if_ge C.2.1 C.2.2.1 hdg ht (fun h0 => absurd h0 (by first | exact hc | exact fun z => z hc | (intro z; exact z hc))) (fun _ => k ls hl))
theorem xb_ic_ge_t {E : Nat × (Nat → Int32)} {d m pc tgt : Nat} {off : Int} {lv : List (Nat × Value)} {st : List Value} {S S' : xS} {r : Option Value} {x y : Int32} (hdg : decode (x_mB m) pc = .ok (.if_icmp .ge off, 3)) (ht : (pc : Int) + off = (tgt : Int)) (hc : y ≤ x) (h : x_Rw E d m tgt lv st S r S') : x_Rw E d m pc lv (.int y :: .int x :: st) S r S' :=
  x_step h (fun w1 w2 => ⟨w1, xw2 w2⟩) (fun l p e R s mid args below meth c A D cs q al H locs ls cells slots Q C X hl k => lv_icmp_ge C.2.1 C.2.2.1 hdg ht (fun _ => k ls hl) (fun h0 => absurd hc (by first | exact h0 | exact fun z => z h0 | (intro z; exact z h0))))
theorem xb_ic_ge_f {E : Nat × (Nat → Int32)} {d m pc tgt : Nat} {off : Int} {lv : List (Nat × Value)} {st : List Value} {S S' : xS} {r : Option Value} {x y : Int32} (hdg : decode (x_mB m) pc = .ok (.if_icmp .ge off, 3)) (ht : (pc : Int) + off = (tgt : Int)) (hc : ¬ y ≤ x) (h : x_Rw E d m (pc + 3) lv st S r S') : x_Rw E d m pc lv (.int y :: .int x :: st) S r S' :=
  x_step h (fun w1 w2 => ⟨w1, xw2 w2⟩) (fun l p e R s mid args below meth c A D cs q al H locs ls cells slots Q C X hl k => lv_icmp_ge C.2.1 C.2.2.1 hdg ht (fun h0 => absurd h0 (by first | exact hc | exact fun z => z hc | (intro z; exact z hc))) (fun _ => k ls hl))
theorem xb_if_gt_t {E : Nat × (Nat → Int32)} {d m pc tgt : Nat} {off : Int} {lv : List (Nat × Value)} {st : List Value} {S S' : xS} {r : Option Value} {x : Int32} (hdg : decode (x_mB m) pc = .ok (.ifCond .gt off, 3)) (ht : (pc : Int) + off = (tgt : Int)) (hc : 0 < x) (h : x_Rw E d m tgt lv st S r S') : x_Rw E d m pc lv (.int x :: st) S r S' :=
  x_step h (fun w1 w2 => ⟨w1, xw1 w2⟩) (fun l p e R s mid args below meth c A D cs q al H locs ls cells slots Q C X hl k => lv_if_gt C.2.1 C.2.2.1 hdg ht (fun _ => k ls hl) (fun h0 => absurd hc (by first | exact h0 | exact fun z => z h0 | (intro z; exact z h0))))
theorem xb_if_gt_f {E : Nat × (Nat → Int32)} {d m pc tgt : Nat} {off : Int} {lv : List (Nat × Value)} {st : List Value} {S S' : xS} {r : Option Value} {x : Int32} (hdg : decode (x_mB m) pc = .ok (.ifCond .gt off, 3)) (ht : (pc : Int) + off = (tgt : Int)) (hc : ¬ 0 < x) (h : x_Rw E d m (pc + 3) lv st S r S') : x_Rw E d m pc lv (.int x :: st) S r S' :=
  x_step h (fun w1 w2 => ⟨w1, xw1 w2⟩) (fun l p e R s mid args below meth c A D cs q al H locs ls cells slots Q C X hl k => lv_if_gt C.2.1 C.2.2.1 hdg ht (fun h0 => absurd h0 (by first | exact hc | exact fun z => z hc | (intro z; exact z hc))) (fun _ => k ls hl))
theorem xb_ic_gt_t {E : Nat × (Nat → Int32)} {d m pc tgt : Nat} {off : Int} {lv : List (Nat × Value)} {st : List Value} {S S' : xS} {r : Option Value} {x y : Int32} (hdg : decode (x_mB m) pc = .ok (.if_icmp .gt off, 3)) (ht : (pc : Int) + off = (tgt : Int)) (hc : y < x) (h : x_Rw E d m tgt lv st S r S') : x_Rw E d m pc lv (.int y :: .int x :: st) S r S' :=
  x_step h (fun w1 w2 => ⟨w1, xw2 w2⟩) (fun l p e R s mid args below meth c A D cs q al H locs ls cells slots Q C X hl k => lv_icmp_gt C.2.1 C.2.2.1 hdg ht (fun _ => k ls hl) (fun h0 => absurd hc (by first | exact h0 | exact fun z => z h0 | (intro z; exact z h0))))
theorem xb_ic_gt_f {E : Nat × (Nat → Int32)} {d m pc tgt : Nat} {off : Int} {lv : List (Nat × Value)} {st : List Value} {S S' : xS} {r : Option Value} {x y : Int32} (hdg : decode (x_mB m) pc = .ok (.if_icmp .gt off, 3)) (ht : (pc : Int) + off = (tgt : Int)) (hc : ¬ y < x) (h : x_Rw E d m (pc + 3) lv st S r S') : x_Rw E d m pc lv (.int y :: .int x :: st) S r S' :=
  x_step h (fun w1 w2 => ⟨w1, xw2 w2⟩) (fun l p e R s mid args below meth c A D cs q al H locs ls cells slots Q C X hl k => lv_icmp_gt C.2.1 C.2.2.1 hdg ht (fun h0 => absurd h0 (by first | exact hc | exact fun z => z hc | (intro z; exact z hc))) (fun _ => k ls hl))
theorem xb_if_le_t {E : Nat × (Nat → Int32)} {d m pc tgt : Nat} {off : Int} {lv : List (Nat × Value)} {st : List Value} {S S' : xS} {r : Option Value} {x : Int32} (hdg : decode (x_mB m) pc = .ok (.ifCond .le off, 3)) (ht : (pc : Int) + off = (tgt : Int)) (hc : x ≤ 0) (h : x_Rw E d m tgt lv st S r S') : x_Rw E d m pc lv (.int x :: st) S r S' :=
  x_step h (fun w1 w2 => ⟨w1, xw1 w2⟩) (fun l p e R s mid args below meth c A D cs q al H locs ls cells slots Q C X hl k => lv_if_le C.2.1 C.2.2.1 hdg ht (fun _ => k ls hl) (fun h0 => absurd hc (by first | exact h0 | exact fun z => z h0 | (intro z; exact z h0))))
theorem xb_if_le_f {E : Nat × (Nat → Int32)} {d m pc tgt : Nat} {off : Int} {lv : List (Nat × Value)} {st : List Value} {S S' : xS} {r : Option Value} {x : Int32} (hdg : decode (x_mB m) pc = .ok (.ifCond .le off, 3)) (ht : (pc : Int) + off = (tgt : Int)) (hc : ¬ x ≤ 0) (h : x_Rw E d m (pc + 3) lv st S r S') : x_Rw E d m pc lv (.int x :: st) S r S' :=
  x_step h (fun w1 w2 => ⟨w1, xw1 w2⟩) (fun l p e R s mid args below meth c A D cs q al H locs ls cells slots Q C X hl k => lv_if_le C.2.1 C.2.2.1 hdg ht (fun h0 => absurd h0 (by first | exact hc | exact fun z => z hc | (intro z; exact z hc))) (fun _ => k ls hl))
theorem xb_ic_le_t {E : Nat × (Nat → Int32)} {d m pc tgt : Nat} {off : Int} {lv : List (Nat × Value)} {st : List Value} {S S' : xS} {r : Option Value} {x y : Int32} (hdg : decode (x_mB m) pc = .ok (.if_icmp .le off, 3)) (ht : (pc : Int) + off = (tgt : Int)) (hc : x ≤ y) (h : x_Rw E d m tgt lv st S r S') : x_Rw E d m pc lv (.int y :: .int x :: st) S r S' :=
  x_step h (fun w1 w2 => ⟨w1, xw2 w2⟩) (fun l p e R s mid args below meth c A D cs q al H locs ls cells slots Q C X hl k => lv_icmp_le C.2.1 C.2.2.1 hdg ht (fun _ => k ls hl) (fun h0 => absurd hc (by first | exact h0 | exact fun z => z h0 | (intro z; exact z h0))))
theorem xb_ic_le_f {E : Nat × (Nat → Int32)} {d m pc tgt : Nat} {off : Int} {lv : List (Nat × Value)} {st : List Value} {S S' : xS} {r : Option Value} {x y : Int32} (hdg : decode (x_mB m) pc = .ok (.if_icmp .le off, 3)) (ht : (pc : Int) + off = (tgt : Int)) (hc : ¬ x ≤ y) (h : x_Rw E d m (pc + 3) lv st S r S') : x_Rw E d m pc lv (.int y :: .int x :: st) S r S' :=
  x_step h (fun w1 w2 => ⟨w1, xw2 w2⟩) (fun l p e R s mid args below meth c A D cs q al H locs ls cells slots Q C X hl k => lv_icmp_le C.2.1 C.2.2.1 hdg ht (fun h0 => absurd h0 (by first | exact hc | exact fun z => z hc | (intro z; exact z hc))) (fun _ => k ls hl))
/-- from here the method comes to its return with Q of answer and state -/
def x_R (E : Nat × (Nat → Int32)) (d m pc : Nat) (lv : List (Nat × Value)) (st : List Value) (S : xS) (Q : Option Value → xS → Prop) : Prop := ∃ r S', x_Rw E d m pc lv st S r S' ∧ Q r S'
theorem x_R.step {E : Nat × (Nat → Int32)} {d m pc pc1 : Nat} {lv lv1 : List (Nat × Value)} {st st1 : List Value} {S S1 : xS} {Q : Option Value → xS → Prop} (h : ∀ r S', x_Rw E d m pc1 lv1 st1 S1 r S' → x_Rw E d m pc lv st S r S') (k : x_R E d m pc1 lv1 st1 S1 Q) : x_R E d m pc lv st S Q := by
  obtain ⟨r, S', h1, h2⟩ := k
  exact ⟨r, S', h _ _ h1, h2⟩
theorem x_R.sub {E : Nat × (Nat → Int32)} {d m pc : Nat} {lv lv1 : List (Nat × Value)} {st : List Value} {S : xS} {Q : Option Value → xS → Prop} (ks : List Nat) (hk : lv_pick lv ks = lv1) (k : x_R E d m pc lv1 st S Q) : x_R E d m pc lv st S Q := x_R.step (fun _ _ h => x_sub ks hk h) k
theorem x_R.mono {E : Nat × (Nat → Int32)} {d m pc : Nat} {lv : List (Nat × Value)} {st : List Value} {S : xS} {Q Q' : Option Value → xS → Prop} (k : x_R E d m pc lv st S Q) (h : ∀ r S', Q r S' → Q' r S') : x_R E d m pc lv st S Q' := by
  obtain ⟨r, S', h1, h2⟩ := k
  exact ⟨r, S', h1, h _ _ h2⟩
theorem xr_goto {E : Nat × (Nat → Int32)} {d m pc tgt : Nat} {off : Int} {lv : List (Nat × Value)} {st : List Value} {S : xS} {Q : Option Value → xS → Prop} (hdg : decode (x_mB m) pc = .ok (.goto off, 3)) (ht : (pc : Int) + off = (tgt : Int)) (k : x_R E d m tgt lv st S Q) : x_R E d m pc lv st S Q := x_R.step (fun _ _ h => xi_goto hdg ht h) k
theorem xr_ret0 {E : Nat × (Nat → Int32)} {d m pc : Nat} {lv : List (Nat × Value)} {S : xS} {Q : Option Value → xS → Prop} (hdg : decode (x_mB m) pc = .ok (.return_, 1)) (hr : x_mR m = none) (k : Q none S) : x_R E d m pc lv [] S Q := ⟨none, S, xi_ret0 hdg hr, k⟩
theorem xr_iret {E : Nat × (Nat → Int32)} {d m pc : Nat} {lv : List (Nat × Value)} {x : Int32} {S : xS} {Q : Option Value → xS → Prop} (hdg : decode (x_mB m) pc = .ok (.ireturn, 1)) (hr : x_mR m = some .int) (k : Q (some (.int x)) S) : x_R E d m pc lv [.int x] S Q := ⟨_, S, xi_iret hdg ⟨_, hr, rfl⟩, k⟩
theorem xr_nret {E : Nat × (Nat → Int32)} {d m pc : Nat} {lv : List (Nat × Value)} {x : Int32} {ty : FieldType} {S : xS} {Q : Option Value → xS → Prop} (hdg : decode (x_mB m) pc = .ok (.ireturn, 1)) (hr : x_mR m = some ty) (hn : narrow ty (.int x) = .int x) (k : Q (some (.int x)) S) : x_R E d m pc lv [.int x] S Q := ⟨_, S, xi_iret hdg ⟨_, hr, hn⟩, k⟩
theorem xr_aret {E : Nat × (Nat → Int32)} {d m pc x : Nat} {lv : List (Nat × Value)} {n : String} {S : xS} {Q : Option Value → xS → Prop} (hdg : decode (x_mB m) pc = .ok (.areturn, 1)) (hr : x_mR m = some (.object n)) (k : Q (some (.ref x)) S) : x_R E d m pc lv [.ref x] S Q := ⟨_, S, xi_aret hdg hr, k⟩
theorem xr_zret {E : Nat × (Nat → Int32)} {d m pc : Nat} {lv : List (Nat × Value)} {x : Int32} {S : xS} {Q : Option Value → xS → Prop} (hdg : decode (x_mB m) pc = .ok (.ireturn, 1)) (hr : x_mR m = some .boolean) (hx : vp_in x 2) (k : Q (some (.int x)) S) : x_R E d m pc lv [.int x] S Q := ⟨_, S, xi_iret hdg ⟨_, hr, (x_nar hx).1⟩, k⟩
theorem xr_lret {E : Nat × (Nat → Int32)} {d m pc : Nat} {lv : List (Nat × Value)} {x : Int64} {S : xS} {Q : Option Value → xS → Prop} (hdg : decode (x_mB m) pc = .ok (.lreturn, 1)) (hr : x_mR m = some .long) (k : Q (some (.long x)) S) : x_R E d m pc lv [.long x] S Q := ⟨_, S, xi_lret hdg hr, k⟩
theorem x_in2_0 : vp_in 0 2 := by unfold vp_in; decide
theorem x_in2_1 : vp_in 1 2 := by unfold vp_in; decide
/-- a contract with a condition on what comes -/
def x_K1 (E : Nat × (Nat → Int32)) (d m : Nat) (args : List Value) (S : xS) (Q : Option Value → xS → Prop) : Prop := ∃ r S', x_Call E d m args S r S' ∧ Q r S'
theorem x_K1.of {E : Nat × (Nat → Int32)} {d m : Nat} {args : List Value} {S : xS} {Q : Option Value → xS → Prop} (hok : x_mOK m) (hlen : (lg_sl args).length ≤ x_mL m) (h : x_R E d m 0 (lv_args 0 args) [] S Q) : x_K1 E d m args S Q := by
  obtain ⟨r, S', h1, h2⟩ := h
  exact ⟨r, S', x_meth hok hlen h1, h2⟩
theorem x_K1.mono {E : Nat × (Nat → Int32)} {d m : Nat} {args : List Value} {S : xS} {Q Q' : Option Value → xS → Prop} (k : x_K1 E d m args S Q) (h : ∀ r S', Q r S' → Q' r S') : x_K1 E d m args S Q' := by
  obtain ⟨r, S', h1, h2⟩ := k
  exact ⟨r, S', h1, h _ _ h2⟩
theorem xr_callV {E : Nat × (Nat → Int32)} {d m pc idx i0 m1 bb : Nat} {ps : List Nat} {lv : List (Nat × Value)} {As rest st : List Value} {S : xS} {Q : Option Value → xS → Prop} (hdg : decode (x_mB m) pc = .ok (.invokevirtual idx, 3)) (hf : x_cl (x_mo m) idx = some (i0, 0, m1, ps)) (ho : x_mo m < 20) (hn : As.length = x_mN m1) (hK : x_K S bb = x_mo m1) (hK2 : x_mo m1 < 13) (hst : (rest.map fun v => v.category).sum ≤ 8) (hs : As.reverse ++ .ref bb :: rest = st)
    (k : x_K1 E d m1 (.ref bb :: As) S (fun r S1 => x_R E (d + 1) m (pc + 3) lv (r.toList ++ rest) S1 Q)) : x_R E (d + 1) m pc lv st S Q := by
  subst hs
  obtain ⟨r1, S1, h1, r, S', h2, h3⟩ := k
  exact ⟨r, S', xi_callV hdg hf ho hn hK hK2 hst h1 h2, h3⟩
theorem xr_callS {E : Nat × (Nat → Int32)} {d m pc idx i0 m1 : Nat} {ps : List Nat} {lv : List (Nat × Value)} {As rest st : List Value} {S : xS} {Q : Option Value → xS → Prop} (hdg : decode (x_mB m) pc = .ok (.invokestatic idx, 3)) (hf : x_cl (x_mo m) idx = some (i0, 1, m1, ps)) (ho : x_mo m < 20) (hn : As.length = x_mN m1) (hst : (rest.map fun v => v.category).sum ≤ 8) (hs : As.reverse ++ rest = st)
    (k : x_K1 E d m1 As S (fun r S1 => x_R E (d + 1) m (pc + 3) lv (r.toList ++ rest) S1 Q)) : x_R E (d + 1) m pc lv st S Q := by
  subst hs
  obtain ⟨r1, S1, h1, r, S', h2, h3⟩ := k
  exact ⟨r, S', xi_callS hdg hf ho hn hst h1 h2, h3⟩
theorem xr_callSN {E : Nat × (Nat → Int32)} {d m pc idx i0 m1 : Nat} {ps : List Nat} {lv : List (Nat × Value)} {As rest st : List Value} {S : xS} {Q : Option Value → xS → Prop} (hdg : decode (x_mB m) pc = .ok (.invokestatic idx, 3)) (hf : x_cl (x_mo m) idx = some (i0, 5, m1, ps)) (ho : x_mo m < 20) (hn : As.length = x_mN m1) (hst : (rest.map fun v => v.category).sum ≤ 8) (hs : As.reverse ++ rest = st)
    (k : x_K1 E d m1 As S (fun r S1 => x_R E (d + 1) m (pc + 3) lv (r.toList ++ rest) S1 Q)) : x_R E (d + 1) m pc lv st S Q := by
  subst hs
  obtain ⟨r1, S1, h1, r, S', h2, h3⟩ := k
  exact ⟨r, S', xi_callSN hdg hf ho hn hst h1 h2, h3⟩
theorem xr_callI {E : Nat × (Nat → Int32)} {d m pc idx i0 m1 bb : Nat} {ps : List Nat} {lv : List (Nat × Value)} {As rest st : List Value} {S : xS} {Q : Option Value → xS → Prop} (hdg : decode (x_mB m) pc = .ok (.invokespecial idx, 3)) (hf : x_cl (x_mo m) idx = some (i0, 2, m1, ps)) (ho : x_mo m < 20) (hn : As.length = x_mN m1) (hst : (rest.map fun v => v.category).sum ≤ 8) (hs : As.reverse ++ .ref bb :: rest = st)
    (k : x_K1 E d m1 (.ref bb :: As) S (fun r S1 => r = none ∧ x_R E (d + 1) m (pc + 3) lv rest S1 Q)) : x_R E (d + 1) m pc lv st S Q := by
  subst hs
  obtain ⟨r1, S1, h1, rfl, r, S', h2, h3⟩ := k
  exact ⟨r, S', xi_callI hdg hf ho hn hst h1 h2, h3⟩
theorem xr_callIN {E : Nat × (Nat → Int32)} {d m pc idx i0 m1 bb : Nat} {ps : List Nat} {lv : List (Nat × Value)} {As rest st : List Value} {S : xS} {Q : Option Value → xS → Prop} (hdg : decode (x_mB m) pc = .ok (.invokespecial idx, 3)) (hf : x_cl (x_mo m) idx = some (i0, 3, m1, ps)) (ho : x_mo m < 20) (hn : As.length = x_mN m1) (hst : (rest.map fun v => v.category).sum ≤ 8) (hs : As.reverse ++ .ref bb :: rest = st)
    (k : x_K1 E d m1 (.ref bb :: As) S (fun r S1 => r = none ∧ x_R E (d + 1) m (pc + 3) lv rest S1 Q)) : x_R E (d + 1) m pc lv st S Q := by
  subst hs
  obtain ⟨r1, S1, h1, rfl, r, S', h2, h3⟩ := k
  exact ⟨r, S', xi_callIN hdg hf ho hn hst h1 h2, h3⟩
theorem xr_obj {E : Nat × (Nat → Int32)} {d m pc idx i0 bb m1 : Nat} {ps : List Nat} {lv : List (Nat × Value)} {rest : List Value} {S : xS} {Q : Option Value → xS → Prop} (hdg : decode (x_mB m) pc = .ok (.invokespecial idx, 3)) (hf : x_cl (x_mo m) idx = some (i0, 4, m1, ps)) (ho : x_mo m < 20) (hst : (rest.map fun v => v.category).sum ≤ 8) (k : x_R E (d + 1) m (pc + 3) lv rest S Q) : x_R E (d + 1) m pc lv (.ref bb :: rest) S Q := x_R.step (fun _ _ h => xi_obj hdg hf ho hst h) k
theorem xr_if_eq {E : Nat × (Nat → Int32)} {d m pc tgt : Nat} {off : Int} {lv : List (Nat × Value)} {st : List Value} {S : xS} {Q : Option Value → xS → Prop} {x : Int32} (hdg : decode (x_mB m) pc = .ok (.ifCond .eq off, 3)) (ht : (pc : Int) + off = (tgt : Int)) (kt : x = 0 → x_R E d m tgt lv st S Q) (kf : ¬ x = 0 → x_R E d m (pc + 3) lv st S Q) : x_R E d m pc lv (.int x :: st) S Q := by
  by_cases hc : x = 0
  · exact x_R.step (fun _ _ h => xb_if_eq_t hdg ht hc h) (kt hc)
  · exact x_R.step (fun _ _ h => xb_if_eq_f hdg ht hc h) (kf hc)
theorem xr_ic_eq {E : Nat × (Nat → Int32)} {d m pc tgt : Nat} {off : Int} {lv : List (Nat × Value)} {st : List Value} {S : xS} {Q : Option Value → xS → Prop} {x y : Int32} (hdg : decode (x_mB m) pc = .ok (.if_icmp .eq off, 3)) (ht : (pc : Int) + off = (tgt : Int)) (kt : x = y → x_R E d m tgt lv st S Q) (kf : ¬ x = y → x_R E d m (pc + 3) lv st S Q) : x_R E d m pc lv (.int y :: .int x :: st) S Q := by
  by_cases hc : x = y
  · exact x_R.step (fun _ _ h => xb_ic_eq_t hdg ht hc h) (kt hc)
  · exact x_R.step (fun _ _ h => xb_ic_eq_f hdg ht hc h) (kf hc)
theorem xr_if_ne {E : Nat × (Nat → Int32)} {d m pc tgt : Nat} {off : Int} {lv : List (Nat × Value)} {st : List Value} {S : xS} {Q : Option Value → xS → Prop} {x : Int32} (hdg : decode (x_mB m) pc = .ok (.ifCond .ne off, 3)) (ht : (pc : Int) + off = (tgt : Int)) (kt : ¬ x = 0 → x_R E d m tgt lv st S Q) (kf : x = 0 → x_R E d m (pc + 3) lv st S Q) : x_R E d m pc lv (.int x :: st) S Q := by
  by_cases hc : x = 0
  · exact x_R.step (fun _ _ h => xb_if_ne_f hdg ht hc h) (kf hc)
  · exact x_R.step (fun _ _ h => xb_if_ne_t hdg ht hc h) (kt hc)
theorem xr_ic_ne {E : Nat × (Nat → Int32)} {d m pc tgt : Nat} {off : Int} {lv : List (Nat × Value)} {st : List Value} {S : xS} {Q : Option Value → xS → Prop} {x y : Int32} (hdg : decode (x_mB m) pc = .ok (.if_icmp .ne off, 3)) (ht : (pc : Int) + off = (tgt : Int)) (kt : ¬ x = y → x_R E d m tgt lv st S Q) (kf : x = y → x_R E d m (pc + 3) lv st S Q) : x_R E d m pc lv (.int y :: .int x :: st) S Q := by
  by_cases hc : x = y
  · exact x_R.step (fun _ _ h => xb_ic_ne_f hdg ht hc h) (kf hc)
  · exact x_R.step (fun _ _ h => xb_ic_ne_t hdg ht hc h) (kt hc)
theorem xr_if_lt {E : Nat × (Nat → Int32)} {d m pc tgt : Nat} {off : Int} {lv : List (Nat × Value)} {st : List Value} {S : xS} {Q : Option Value → xS → Prop} {x : Int32} (hdg : decode (x_mB m) pc = .ok (.ifCond .lt off, 3)) (ht : (pc : Int) + off = (tgt : Int)) (kt : x < 0 → x_R E d m tgt lv st S Q) (kf : ¬ x < 0 → x_R E d m (pc + 3) lv st S Q) : x_R E d m pc lv (.int x :: st) S Q := by
  by_cases hc : x < 0
  · exact x_R.step (fun _ _ h => xb_if_lt_t hdg ht hc h) (kt hc)
  · exact x_R.step (fun _ _ h => xb_if_lt_f hdg ht hc h) (kf hc)
theorem xr_ic_lt {E : Nat × (Nat → Int32)} {d m pc tgt : Nat} {off : Int} {lv : List (Nat × Value)} {st : List Value} {S : xS} {Q : Option Value → xS → Prop} {x y : Int32} (hdg : decode (x_mB m) pc = .ok (.if_icmp .lt off, 3)) (ht : (pc : Int) + off = (tgt : Int)) (kt : x < y → x_R E d m tgt lv st S Q) (kf : ¬ x < y → x_R E d m (pc + 3) lv st S Q) : x_R E d m pc lv (.int y :: .int x :: st) S Q := by
  by_cases hc : x < y
  · exact x_R.step (fun _ _ h => xb_ic_lt_t hdg ht hc h) (kt hc)
  · exact x_R.step (fun _ _ h => xb_ic_lt_f hdg ht hc h) (kf hc)
theorem xr_if_ge {E : Nat × (Nat → Int32)} {d m pc tgt : Nat} {off : Int} {lv : List (Nat × Value)} {st : List Value} {S : xS} {Q : Option Value → xS → Prop} {x : Int32} (hdg : decode (x_mB m) pc = .ok (.ifCond .ge off, 3)) (ht : (pc : Int) + off = (tgt : Int)) (kt : 0 ≤ x → x_R E d m tgt lv st S Q) (kf : ¬ 0 ≤ x → x_R E d m (pc + 3) lv st S Q) : x_R E d m pc lv (.int x :: st) S Q := by
  by_cases hc : 0 ≤ x
  · exact x_R.step (fun _ _ h => xb_if_ge_t hdg ht hc h) (kt hc)
  · exact x_R.step (fun _ _ h => xb_if_ge_f hdg ht hc h) (kf hc)
theorem xr_ic_ge {E : Nat × (Nat → Int32)} {d m pc tgt : Nat} {off : Int} {lv : List (Nat × Value)} {st : List Value} {S : xS} {Q : Option Value → xS → Prop} {x y : Int32} (hdg : decode (x_mB m) pc = .ok (.if_icmp .ge off, 3)) (ht : (pc : Int) + off = (tgt : Int)) (kt : y ≤ x → x_R E d m tgt lv st S Q) (kf : ¬ y ≤ x → x_R E d m (pc + 3) lv st S Q) : x_R E d m pc lv (.int y :: .int x :: st) S Q := by
  by_cases hc : y ≤ x
  · exact x_R.step (fun _ _ h => xb_ic_ge_t hdg ht hc h) (kt hc)
  · exact x_R.step (fun _ _ h => xb_ic_ge_f hdg ht hc h) (kf hc)
theorem xr_if_gt {E : Nat × (Nat → Int32)} {d m pc tgt : Nat} {off : Int} {lv : List (Nat × Value)} {st : List Value} {S : xS} {Q : Option Value → xS → Prop} {x : Int32} (hdg : decode (x_mB m) pc = .ok (.ifCond .gt off, 3)) (ht : (pc : Int) + off = (tgt : Int)) (kt : 0 < x → x_R E d m tgt lv st S Q) (kf : ¬ 0 < x → x_R E d m (pc + 3) lv st S Q) : x_R E d m pc lv (.int x :: st) S Q := by
  by_cases hc : 0 < x
  · exact x_R.step (fun _ _ h => xb_if_gt_t hdg ht hc h) (kt hc)
  · exact x_R.step (fun _ _ h => xb_if_gt_f hdg ht hc h) (kf hc)
theorem xr_ic_gt {E : Nat × (Nat → Int32)} {d m pc tgt : Nat} {off : Int} {lv : List (Nat × Value)} {st : List Value} {S : xS} {Q : Option Value → xS → Prop} {x y : Int32} (hdg : decode (x_mB m) pc = .ok (.if_icmp .gt off, 3)) (ht : (pc : Int) + off = (tgt : Int)) (kt : y < x → x_R E d m tgt lv st S Q) (kf : ¬ y < x → x_R E d m (pc + 3) lv st S Q) : x_R E d m pc lv (.int y :: .int x :: st) S Q := by
  by_cases hc : y < x
  · exact x_R.step (fun _ _ h => xb_ic_gt_t hdg ht hc h) (kt hc)
  · exact x_R.step (fun _ _ h => xb_ic_gt_f hdg ht hc h) (kf hc)
theorem xr_if_le {E : Nat × (Nat → Int32)} {d m pc tgt : Nat} {off : Int} {lv : List (Nat × Value)} {st : List Value} {S : xS} {Q : Option Value → xS → Prop} {x : Int32} (hdg : decode (x_mB m) pc = .ok (.ifCond .le off, 3)) (ht : (pc : Int) + off = (tgt : Int)) (kt : x ≤ 0 → x_R E d m tgt lv st S Q) (kf : ¬ x ≤ 0 → x_R E d m (pc + 3) lv st S Q) : x_R E d m pc lv (.int x :: st) S Q := by
  by_cases hc : x ≤ 0
  · exact x_R.step (fun _ _ h => xb_if_le_t hdg ht hc h) (kt hc)
  · exact x_R.step (fun _ _ h => xb_if_le_f hdg ht hc h) (kf hc)
theorem xr_ic_le {E : Nat × (Nat → Int32)} {d m pc tgt : Nat} {off : Int} {lv : List (Nat × Value)} {st : List Value} {S : xS} {Q : Option Value → xS → Prop} {x y : Int32} (hdg : decode (x_mB m) pc = .ok (.if_icmp .le off, 3)) (ht : (pc : Int) + off = (tgt : Int)) (kt : x ≤ y → x_R E d m tgt lv st S Q) (kf : ¬ x ≤ y → x_R E d m (pc + 3) lv st S Q) : x_R E d m pc lv (.int y :: .int x :: st) S Q := by
  by_cases hc : x ≤ y
  · exact x_R.step (fun _ _ h => xb_ic_le_t hdg ht hc h) (kt hc)
  · exact x_R.step (fun _ _ h => xb_ic_le_f hdg ht hc h) (kf hc)
/-! straight code -/
abbrev xe : Type := Instr × Value × Nat × Nat
abbrev xR : Type := List (Int32 × Nat) × List (Nat × Value) × List Value × xS
def x_ln : Instr → Nat
  | .bipush _ => 2
  | .sipush _ => 3
  | .ldc _ => 2
  | .ldc_w _ => 3
  | .ldc2_w _ => 3
  | .iload _ => 2
  | .lload _ => 2
  | .aload _ => 2
  | .istore _ => 2
  | .lstore _ => 2
  | .astore _ => 2
  | .iinc _ _ => 3
  | .getfield _ => 3
  | .putfield _ => 3
  | .new _ => 3
  | .newarray _ => 2
  | _ => 1
def x_b2 (f : Int32 → Int32 → Int32) (lv : List (Nat × Value)) (st : List Value) (S : xS) : Option xR := match st with
  | .int y :: .int x :: t => some ([], lv, .int (f x y) :: t, S)
  | _ => none
def x_l2 (f : Int64 → Int64 → Int64) (lv : List (Nat × Value)) (st : List Value) (S : xS) : Option xR := match st with
  | .long y :: .long x :: t => some ([], lv, .long (f x y) :: t, S)
  | _ => none
def x_li (f : Int64 → Int32 → Int64) (lv : List (Nat × Value)) (st : List Value) (S : xS) : Option xR := match st with
  | .int y :: .long x :: t => some ([], lv, .long (f x y) :: t, S)
  | _ => none
def x_lc (lv : List (Nat × Value)) (st : List Value) (S : xS) : Option xR := match st with
  | .long y :: .long x :: t => some ([], lv, .int (lg_cmp x y) :: t, S)
  | _ => none
def x_il (lv : List (Nat × Value)) (st : List Value) (S : xS) : Option xR := match st with
  | .int x :: t => some ([], lv, .long x.toInt64 :: t, S)
  | _ => none
def x_dI (lv : List (Nat × Value)) (n : Nat) (st : List Value) (S : xS) : Option xR := match x_lk lv n with
  | some (.int x) => some ([], lv, .int x :: st, S)
  | _ => none
def x_dL (lv : List (Nat × Value)) (n : Nat) (st : List Value) (S : xS) : Option xR := match x_lk lv n with
  | some (.long x) => some ([], lv, .long x :: st, S)
  | _ => none
def x_dR (lv : List (Nat × Value)) (n : Nat) (st : List Value) (S : xS) : Option xR := match x_lk lv n with
  | some (.ref x) => some ([], lv, .ref x :: st, S)
  | _ => none
def x_tI (lv : List (Nat × Value)) (n : Nat) (st : List Value) (S : xS) : Option xR := match st with
  | .int x :: t => some ([], x_s1 lv n (.int x), t, S)
  | _ => none
def x_tL (lv : List (Nat × Value)) (n : Nat) (st : List Value) (S : xS) : Option xR := match st with
  | .long x :: t => some ([], x_s2 lv n (.long x), t, S)
  | _ => none
def x_tR (lv : List (Nat × Value)) (n : Nat) (st : List Value) (S : xS) : Option xR := match st with
  | .ref x :: t => some ([], x_s1 lv n (.ref x), t, S)
  | _ => none
def x_inc (lv : List (Nat × Value)) (n : Nat) (e : Value) (st : List Value) (S : xS) : Option xR := match x_lk lv n, e with
  | some (.int x), .int v => some ([], x_s1 lv n (.int (x + v)), st, S)
  | _, _ => none
def x_dup (lv : List (Nat × Value)) (st : List Value) (S : xS) : Option xR := match st with
  | v :: t => if v.category = 1 then some ([], lv, v :: v :: t, S) else none
  | _ => none
def x_pop (lv : List (Nat × Value)) (st : List Value) (S : xS) : Option xR := match st with
  | v :: t => if v.category = 1 then some ([], lv, t, S) else none
  | _ => none
def x_dup2 (lv : List (Nat × Value)) (st : List Value) (S : xS) : Option xR := match st with
  | v :: w :: t => if v.category = 1 then (if w.category = 1 then some ([], lv, v :: w :: v :: w :: t, S) else none) else none
  | _ => none
def x_gf (a b : Nat) (lv : List (Nat × Value)) (st : List Value) (S : xS) : Option xR := match st with
  | .ref j :: t => if x_K S j = a then (match x_fr S j a b with | some v => some ([], lv, v :: t, S) | none => none) else none
  | _ => none
def x_pf (a b : Nat) (lv : List (Nat × Value)) (st : List Value) (S : xS) : Option xR := match st with
  | .int x :: .ref j :: t => if x_K S j = a then (if x_tc a b = 0 then some ([], lv, t, x_pI S j b x) else if x_tc a b = 3 then some ([(x, 2)], lv, t, x_pI S j b x) else none) else none
  | .long x :: .ref j :: t => if x_K S j = a then (if x_tc a b = 1 then some ([], lv, t, x_pL S j b x) else none) else none
  | .ref x :: .ref j :: t => if x_K S j = a then (if x_tc a b = 2 then some ([], lv, t, x_pP S j b x) else none) else none
  | _ => none
def x_al (E : Nat × (Nat → Int32)) (lv : List (Nat × Value)) (st : List Value) (S : xS) : Option xR := match st with
  | .int i :: .ref j :: t => if x_K S j = 100 then some ([(i, x_N S j)], lv, .int (x_A S j i.toNatClampNeg) :: t, S) else if j = x_ext0 then some ([(i, E.1)], lv, .int (E.2 i.toNatClampNeg) :: t, S) else none
  | _ => none
def x_zl (lv : List (Nat × Value)) (st : List Value) (S : xS) : Option xR := match st with
  | .int i :: .ref j :: t => if x_K S j = 101 then some ([(i, x_N S j)], lv, .int (x_A S j i.toNatClampNeg) :: t, S) else none
  | _ => none
def x_ll (lv : List (Nat × Value)) (st : List Value) (S : xS) : Option xR := match st with
  | .int i :: .ref j :: t => if x_K S j = 102 then some ([(i, x_N S j)], lv, .long (x_B S j i.toNatClampNeg) :: t, S) else none
  | _ => none
def x_as (lv : List (Nat × Value)) (st : List Value) (S : xS) : Option xR := match st with
  | .int x :: .int i :: .ref j :: t => if x_K S j = 100 then some ([(i, x_N S j)], lv, t, x_pA S j (upd (x_A S j) i.toNatClampNeg x)) else none
  | _ => none
def x_zs (lv : List (Nat × Value)) (st : List Value) (S : xS) : Option xR := match st with
  | .int x :: .int i :: .ref j :: t => if x_K S j = 101 then some ([(i, x_N S j), (x, 2)], lv, t, x_pA S j (upd (x_A S j) i.toNatClampNeg x)) else none
  | _ => none
def x_lls (lv : List (Nat × Value)) (st : List Value) (S : xS) : Option xR := match st with
  | .long x :: .int i :: .ref j :: t => if x_K S j = 102 then some ([(i, x_N S j)], lv, t, x_pB S j (vp_updL (x_B S j) i.toNatClampNeg x)) else none
  | _ => none
def x_len (E : Nat × (Nat → Int32)) (lv : List (Nat × Value)) (st : List Value) (S : xS) : Option xR := match st with
  | .ref j :: t => if x_K S j = 100 ∨ x_K S j = 101 ∨ x_K S j = 102 then some ([], lv, .int (Int32.ofNat (x_N S j)) :: t, S) else if j = x_ext0 then some ([], lv, .int (Int32.ofNat E.1) :: t, S) else none
  | _ => none
def x_mkN (a : Nat) (lv : List (Nat × Value)) (st : List Value) (S : xS) : Option xR := if x_n S < x_ext0 then some ([], lv, .ref (x_n S) :: st, x_new S a) else none
def x_mkA (a b : Nat) (lv : List (Nat × Value)) (st : List Value) (S : xS) : Option xR := match st with
  | .int n :: t => if x_n S < x_ext0 ∧ (¬ n < 0) ∧ n.toNatClampNeg = b ∧ b * 8 ≤ 536870912 ∧ (a = 100 ∨ a = 101 ∨ a = 102) then some ([], lv, .ref (x_n S) :: t, x_newA S a b) else none
  | _ => none
def x_ex (E : Nat × (Nat → Int32)) (i : xe) (lv : List (Nat × Value)) (st : List Value) (S : xS) : Option xR := match i.1 with
  | .iconst _ => some ([], lv, i.2.1 :: st, S)
  | .bipush _ => some ([], lv, i.2.1 :: st, S)
  | .sipush _ => some ([], lv, i.2.1 :: st, S)
  | .lconst _ => some ([], lv, i.2.1 :: st, S)
  | .ldc _ => some ([], lv, i.2.1 :: st, S)
  | .ldc_w _ => some ([], lv, i.2.1 :: st, S)
  | .ldc2_w _ => some ([], lv, i.2.1 :: st, S)
  | .iload n => x_dI lv n st S
  | .iload_n n => x_dI lv n st S
  | .lload n => x_dL lv n st S
  | .lload_n n => x_dL lv n st S
  | .aload n => x_dR lv n st S
  | .aload_n n => x_dR lv n st S
  | .istore n => x_tI lv n st S
  | .istore_n n => x_tI lv n st S
  | .lstore n => x_tL lv n st S
  | .lstore_n n => x_tL lv n st S
  | .astore n => x_tR lv n st S
  | .astore_n n => x_tR lv n st S
  | .iinc n _ => x_inc lv n i.2.1 st S
  | .dup => x_dup lv st S
  | .pop => x_pop lv st S
  | .dup2 => x_dup2 lv st S
  | .iadd => x_b2 (fun x y => x + y) lv st S
  | .isub => x_b2 (fun x y => x - y) lv st S
  | .imul => x_b2 (fun x y => x * y) lv st S
  | .iand => x_b2 (fun x y => x &&& y) lv st S
  | .ior => x_b2 (fun x y => x ||| y) lv st S
  | .ixor => x_b2 (fun x y => x ^^^ y) lv st S
  | .ishl => x_b2 (fun x y => x <<< (y &&& 31)) lv st S
  | .ishr => x_b2 (fun x y => x >>> (y &&& 31)) lv st S
  | .iushr => x_b2 (fun x y => (x.toUInt32 >>> (y.toUInt32 &&& Int32.toUInt32 31)).toInt32) lv st S
  | .ladd => x_l2 (fun x y => x + y) lv st S
  | .lsub => x_l2 (fun x y => x - y) lv st S
  | .lmul => x_l2 (fun x y => x * y) lv st S
  | .land => x_l2 (fun x y => x &&& y) lv st S
  | .lor => x_l2 (fun x y => x ||| y) lv st S
  | .lushr => x_li (fun x y => (x.toUInt64 >>> (y.toInt64.toUInt64 &&& Int64.toUInt64 63)).toInt64) lv st S
  | .lshl => x_li (fun x y => x <<< (y.toInt64 &&& 63)) lv st S
  | .i2l => x_il lv st S
  | .lcmp => x_lc lv st S
  | .getfield _ => x_gf i.2.2.1 i.2.2.2 lv st S
  | .putfield _ => x_pf i.2.2.1 i.2.2.2 lv st S
  | .iaload => x_al E lv st S
  | .baload => x_zl lv st S
  | .laload => x_ll lv st S
  | .iastore => x_as lv st S
  | .bastore => x_zs lv st S
  | .lastore => x_lls lv st S
  | .arraylength => x_len E lv st S
  | .new _ => x_mkN i.2.2.1 lv st S
  | .newarray _ => x_mkA i.2.2.1 i.2.2.2 lv st S
  | _ => none
def x_chk (m pc : Nat) (i : xe) : Bool := decide (decode (x_mB m) pc = .ok (i.1, x_ln i.1)) && (match i.1 with
  | .iconst n => decide (i.2.1 = .int (Int32.ofInt n))
  | .bipush n => decide (i.2.1 = .int (Int8.ofInt n).toInt32)
  | .sipush n => decide (i.2.1 = .int (Int16.ofInt n).toInt32)
  | .lconst n => decide (i.2.1 = .long (Int64.ofNat (n : Nat)))
  | .ldc k => (match x_kc (x_mo m) k, i.2.1 with | some e, .int _ => decide (e.2.1 = i.2.1 ∧ x_mo m < 20) | _, _ => false)
  | .ldc_w k => (match x_kc (x_mo m) k, i.2.1 with | some e, .int _ => decide (e.2.1 = i.2.1 ∧ x_mo m < 20) | _, _ => false)
  | .ldc2_w k => (match x_kc (x_mo m) k, i.2.1 with | some e, .long _ => decide (e.2.1 = i.2.1 ∧ x_mo m < 20) | _, _ => false)
  | .istore n => decide (n < x_mL m)
  | .istore_n n => decide ((n : Nat) < x_mL m)
  | .astore n => decide (n < x_mL m)
  | .astore_n n => decide ((n : Nat) < x_mL m)
  | .lstore n => decide (n + 1 < x_mL m)
  | .lstore_n n => decide ((n : Nat) + 1 < x_mL m)
  | .iinc n k => decide (n < x_mL m) && decide (i.2.1 = .int (Int32.ofInt k))
  | .getfield k => (match x_fl (x_mo m) k with | some e => decide (e.2.1 = i.2.2.1 ∧ e.2.2.1 = i.2.2.2 ∧ x_mo m < 20) | none => false)
  | .putfield k => (match x_fl (x_mo m) k with | some e => decide (e.2.1 = i.2.2.1 ∧ e.2.2.1 = i.2.2.2 ∧ x_mo m < 20) | none => false) && (decide (((x_C i.2.2.1).2.1 i.2.2.2).2.2.2 = false) || decide ((x_mY m).name = "<init>" ∧ ((x_C i.2.2.1).2.1 i.2.2.2).1 = x_o (x_mo m)))
  | .new k => (match x_nw (x_mo m) k with | some e => decide (e.2.1 = i.2.2.1 ∧ x_mo m < 20) | none => false)
  | .newarray t => decide (t = (x_at0 i.2.2.1).1)
  | _ => true)
def x_chks (m : Nat) : Nat → List xe → Nat → Bool
  | pc, [], e => pc == e
  | pc, i :: t, e => x_chk m pc i && x_chks m (pc + x_ln i.1) t e
def x_exs (E : Nat × (Nat → Int32)) : List xe → List (Nat × Value) → List Value → xS → Option xR
  | [], lv, st, S => some ([], lv, st, S)
  | i :: t, lv, st, S => match x_ex E i lv st S with
    | none => none
    | some (b, lv1, st1, S1) => match x_exs E t lv1 st1 S1 with
      | none => none
      | some (b2, lv2, st2, S2) => some (b ++ b2, lv2, st2, S2)
def x_bds : List (Int32 × Nat) → Prop
  | [] => True
  | q :: t => vp_in q.1 q.2 ∧ x_bds t
theorem x_bds_app : ∀ {a b : List (Int32 × Nat)}, x_bds (a ++ b) → x_bds a ∧ x_bds b
  | [], _, h => ⟨trivial, h⟩
  | _ :: _, _, h => ⟨⟨h.1, (x_bds_app h.2).1⟩, (x_bds_app h.2).2⟩

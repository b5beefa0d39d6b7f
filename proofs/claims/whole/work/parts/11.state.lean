/-! The layout: 140 cells after the constructors. Reader (49): best 11, ways 12, picks 13 are made anew by startSearch. -/
def x_PT : List (List (Option Nat)) := [[some 1, some 3, some 11, some 17, some 21, some 25, some 38, some 49, some 60, some 67, some 74, some 79, none, none],
  [some 2, none],
  [],
  [some 4, some 5, some 6, some 7, some 8, some 9, some 10, none],
  [],
  [],
  [],
  [],
  [],
  [],
  [],
  [some 12, some 13, some 14, some 15, some 16, none, none, none],
  [],
  [],
  [],
  [],
  [],
  [some 1, some 18, some 19, some 20, none, none, none, none, none],
  [],
  [],
  [],
  [some 22, some 23, some 24, none, none],
  [],
  [],
  [],
  [some 26, some 27, some 28, some 29, some 30, some 31, some 32, some 33, some 34, some 35, some 36, some 37, none, none, none],
  [],
  [],
  [],
  [],
  [],
  [],
  [],
  [],
  [],
  [],
  [],
  [],
  [some 39, some 40, some 41, some 42, some 43, some 44, some 45, some 46, some 47, some 48],
  [],
  [],
  [],
  [],
  [],
  [],
  [],
  [],
  [],
  [],
  [some 3, some 21, some 25, some 38, some 50, some 51, some 52, some 53, some 54, some 55, some 56, some 57, some 58, some 59, none, none],
  [],
  [],
  [],
  [],
  [],
  [],
  [],
  [],
  [],
  [],
  [some 61, some 62, some 63, some 64, some 65, some 66, none],
  [],
  [],
  [],
  [],
  [],
  [],
  [some 11, some 25, some 60, some 38, some 68, some 69, some 70, some 71, some 72, some 73, none, none, none],
  [],
  [],
  [],
  [],
  [],
  [],
  [some 25, some 38, some 67, some 75, none, some 76, some 77, some 78, none, none],
  [],
  [],
  [],
  [],
  [],
  [none, some 81, some 82, none, none, none, none, some 83, some 84, some 85, some 86, some 87, some 88, some 89, some 90, some 91, some 92, some 93, some 94, some 95, none, none, none, none, none, none, none, none, none, none, none, none, none, some 96, some 97, some 98, some 99, none, some 100, some 101, some 102, some 103, some 104, some 105, some 106, some 107, some 108, some 109, some 110, some 111, none, none, none, some 112, some 113, some 114, some 115, some 116, some 117, some 118, some 119, none, none, some 120, some 121, some 122, some 123, some 124, some 125, some 126, none, some 127, none, none, some 128, some 129, some 130, some 131, some 132, some 133, some 134, some 135, none, none, some 136, some 137, some 138],
  [],
  [],
  [],
  [],
  [],
  [],
  [],
  [],
  [],
  [],
  [],
  [],
  [],
  [],
  [],
  [],
  [],
  [],
  [],
  [],
  [],
  [],
  [],
  [],
  [],
  [],
  [],
  [],
  [],
  [],
  [],
  [],
  [],
  [],
  [],
  [],
  [],
  [],
  [],
  [],
  [],
  [],
  [],
  [],
  [],
  [],
  [],
  [],
  [],
  [],
  [],
  [],
  [],
  [],
  [],
  [],
  [],
  [],
  []]
def x_KT : List Nat := [11, 8, 100, 3, 100, 100, 100, 100, 100, 100, 100, 9, 100, 100, 100, 100, 100, 5, 100, 101, 100, 4, 102, 100, 101, 1, 100, 100, 100, 100, 100, 100, 100, 100, 100, 100, 100, 100, 7, 101, 100, 100, 100, 100, 100, 100, 100, 100, 100, 6, 100, 100, 101, 100, 100, 100, 100, 100, 100, 100, 0, 100, 100, 100, 100, 100, 100, 10, 100, 100, 101, 102, 100, 100, 2, 100, 100, 100, 100, 100, 12, 100, 100, 100, 100, 100, 100, 100, 100, 100, 100, 100, 100, 100, 100, 100, 100, 100, 100, 101, 100, 100, 100, 100, 100, 100, 100, 100, 100, 100, 100, 100, 100, 100, 100, 100, 100, 100, 100, 100, 101, 100, 100, 100, 100, 100, 100, 101, 101, 100, 100, 100, 100, 100, 100, 100, 100, 100, 100, 102]
def x_NT : List Nat := [0, 0, 240, 0, 78, 26, 800, 80, 80, 104, 4, 0, 144, 8, 8, 8, 2048, 0, 48, 48, 8, 0, 512, 2560, 512, 0, 20, 20, 20, 20, 60, 60, 1440, 1440, 40, 40, 40, 960, 0, 20, 20, 80, 20, 20, 20, 120, 60, 520, 20, 0, 4, 624, 24, 1200, 1200, 1200, 26, 0, 0, 0, 0, 80, 80, 80, 80, 80, 80, 0, 52, 52, 140, 560, 52, 52, 0, 20, 10, 10, 10, 6, 0, 240, 6, 26, 78, 800, 80, 80, 30, 30, 30, 8, 8, 4, 48, 48, 512, 3072, 6, 6, 20, 20, 20, 20, 60, 60, 1440, 1440, 40, 40, 40, 960, 624, 1920, 44800, 44800, 120, 20, 20, 20, 256, 80, 80, 80, 80, 80, 80, 10400, 200, 20, 20, 20, 10, 10, 10, 10, 144, 8, 2048, 1]
def x_P0 (b i k : Nat) : Option Nat := if i = 49 then (if k = 11 then some b else if k = 12 then some (b + 1) else if k = 13 then some (b + 2) else (x_PT.getD 49 []).getD k none) else (x_PT.getD i []).getD k none
def x_N0 (i : Nat) : Nat := x_NT.getD i 0
def x_K0 (i : Nat) : Nat := x_KT.getD i 999
/-- a state of the run: int fields, long fields, int arrays, long arrays, lengths of later arrays, where best lies, cells, cells and slots made -/
abbrev xV : Type := (Nat → Nat → Int32) × (Nat → Nat → Int64) × (Nat → Nat → Int32) × (Nat → Nat → Int64) × (Nat → Nat) × Nat × Nat × Nat × Nat
abbrev gI (v : xV) : Nat → Nat → Int32 := v.1
abbrev gL (v : xV) : Nat → Nat → Int64 := v.2.1
abbrev gA (v : xV) : Nat → Nat → Int32 := v.2.2.1
abbrev gB (v : xV) : Nat → Nat → Int64 := v.2.2.2.1
abbrev gb (v : xV) : Nat := v.2.2.2.2.2.1
abbrev gn (v : xV) : Nat := v.2.2.2.2.2.2.1
abbrev gk (v : xV) : Nat := v.2.2.2.2.2.2.2.1
abbrev gz (v : xV) : Nat := v.2.2.2.2.2.2.2.2
def gN (v : xV) (i : Nat) : Nat := if i < 140 then x_N0 i else v.2.2.2.2.1 i
def gK (v : xV) (i : Nat) : Nat := if i < 140 then x_K0 i else if i < gn v then 100 else 999
def rt (v : xV) : xS := (v.1, v.2.1, x_P0 (gb v), v.2.2.1, v.2.2.2.1, gN v, gK v, gn v, gk v, gz v)
def v_I (v : xV) (j k : Nat) (x : Int32) : xV := (xu2 v.1 j k x, v.2)
def v_L (v : xV) (j k : Nat) (x : Int64) : xV := (v.1, xu2 v.2.1 j k x, v.2.2)
def v_A (v : xV) (j : Nat) (f : Nat → Int32) : xV := (v.1, v.2.1, xu1 v.2.2.1 j f, v.2.2.2)
def v_B (v : xV) (j : Nat) (f : Nat → Int64) : xV := (v.1, v.2.1, v.2.2.1, xu1 v.2.2.2.1 j f, v.2.2.2.2)
/-- the dynamic arrays are int arrays -/
def dynOK (v : xV) : Prop := gK v (gb v) = 100 ∧ gK v (gb v + 1) = 100 ∧ gK v (gb v + 2) = 100
def RI (E : Nat × (Nat → Int32)) (d m pc : Nat) (lv : List (Nat × Value)) (v : xV) (Q : Int32 → xV → Prop) : Prop := x_R E d m pc lv [] (rt v) (fun r S => ∃ (y : Int32) (w : xV), r = some (.int y) ∧ S = rt w ∧ Q y w)
def KI (E : Nat × (Nat → Int32)) (d m : Nat) (args : List Value) (v : xV) (Q : Int32 → xV → Prop) : Prop := x_K1 E d m args (rt v) (fun r S => ∃ (y : Int32) (w : xV), r = some (.int y) ∧ S = rt w ∧ Q y w)
theorem KI.of {E : Nat × (Nat → Int32)} {d m : Nat} {args : List Value} {v : xV} {Q : Int32 → xV → Prop} (hok : x_mOK m) (hlen : (lg_sl args).length ≤ x_mL m) (h : RI E d m 0 (lv_args 0 args) v Q) : KI E d m args v Q := x_K1.of hok hlen h
theorem KI.mono {E : Nat × (Nat → Int32)} {d m : Nat} {args : List Value} {v : xV} {Q Q' : Int32 → xV → Prop} (k : KI E d m args v Q) (h : ∀ y w, Q y w → Q' y w) : KI E d m args v Q' := x_K1.mono k (fun r S ⟨y, w, h1, h2, h3⟩ => ⟨y, w, h1, h2, h y w h3⟩)
theorem RI.mono {E : Nat × (Nat → Int32)} {d m pc : Nat} {lv : List (Nat × Value)} {v : xV} {Q Q' : Int32 → xV → Prop} (k : RI E d m pc lv v Q) (h : ∀ y w, Q y w → Q' y w) : RI E d m pc lv v Q' := x_R.mono k (fun r S ⟨y, w, h1, h2, h3⟩ => ⟨y, w, h1, h2, h y w h3⟩)
def RJ (E : Nat × (Nat → Int32)) (d m pc : Nat) (lv : List (Nat × Value)) (v : xV) (Q : Int64 → xV → Prop) : Prop := x_R E d m pc lv [] (rt v) (fun r S => ∃ (y : Int64) (w : xV), r = some (.long y) ∧ S = rt w ∧ Q y w)
def KJ (E : Nat × (Nat → Int32)) (d m : Nat) (args : List Value) (v : xV) (Q : Int64 → xV → Prop) : Prop := x_K1 E d m args (rt v) (fun r S => ∃ (y : Int64) (w : xV), r = some (.long y) ∧ S = rt w ∧ Q y w)
theorem KJ.of {E : Nat × (Nat → Int32)} {d m : Nat} {args : List Value} {v : xV} {Q : Int64 → xV → Prop} (hok : x_mOK m) (hlen : (lg_sl args).length ≤ x_mL m) (h : RJ E d m 0 (lv_args 0 args) v Q) : KJ E d m args v Q := x_K1.of hok hlen h
theorem KJ.mono {E : Nat × (Nat → Int32)} {d m : Nat} {args : List Value} {v : xV} {Q Q' : Int64 → xV → Prop} (k : KJ E d m args v Q) (h : ∀ y w, Q y w → Q' y w) : KJ E d m args v Q' := x_K1.mono k (fun r S ⟨y, w, h1, h2, h3⟩ => ⟨y, w, h1, h2, h y w h3⟩)
theorem RJ.mono {E : Nat × (Nat → Int32)} {d m pc : Nat} {lv : List (Nat × Value)} {v : xV} {Q Q' : Int64 → xV → Prop} (k : RJ E d m pc lv v Q) (h : ∀ y w, Q y w → Q' y w) : RJ E d m pc lv v Q' := x_R.mono k (fun r S ⟨y, w, h1, h2, h3⟩ => ⟨y, w, h1, h2, h y w h3⟩)
def RV (E : Nat × (Nat → Int32)) (d m pc : Nat) (lv : List (Nat × Value)) (v : xV) (Q : xV → Prop) : Prop := x_R E d m pc lv [] (rt v) (fun r S => ∃ w : xV, r = none ∧ S = rt w ∧ Q w)
def KV (E : Nat × (Nat → Int32)) (d m : Nat) (args : List Value) (v : xV) (Q : xV → Prop) : Prop := x_K1 E d m args (rt v) (fun r S => ∃ w : xV, r = none ∧ S = rt w ∧ Q w)
theorem KV.of {E : Nat × (Nat → Int32)} {d m : Nat} {args : List Value} {v : xV} {Q : xV → Prop} (hok : x_mOK m) (hlen : (lg_sl args).length ≤ x_mL m) (h : RV E d m 0 (lv_args 0 args) v Q) : KV E d m args v Q := x_K1.of hok hlen h
theorem KV.mono {E : Nat × (Nat → Int32)} {d m : Nat} {args : List Value} {v : xV} {Q Q' : xV → Prop} (k : KV E d m args v Q) (h : ∀ w, Q w → Q' w) : KV E d m args v Q' := x_K1.mono k (fun r S ⟨w, h1, h2, h3⟩ => ⟨w, h1, h2, h w h3⟩)
theorem RV.mono {E : Nat × (Nat → Int32)} {d m pc : Nat} {lv : List (Nat × Value)} {v : xV} {Q Q' : xV → Prop} (k : RV E d m pc lv v Q) (h : ∀ w, Q w → Q' w) : RV E d m pc lv v Q' := x_R.mono k (fun r S ⟨w, h1, h2, h3⟩ => ⟨w, h1, h2, h w h3⟩)
/-- a number on the stack gets a name -/
theorem xr_topi {E : Nat × (Nat → Int32)} {d m pc : Nat} {lv : List (Nat × Value)} {st : List Value} {S : xS} {Q : Option Value → xS → Prop} {x : Int32} (k : ∀ y : Int32, y = x → x_R E d m pc lv (.int y :: st) S Q) : x_R E d m pc lv (.int x :: st) S Q := k x rfl
theorem xr_topl {E : Nat × (Nat → Int32)} {d m pc : Nat} {lv : List (Nat × Value)} {st : List Value} {S : xS} {Q : Option Value → xS → Prop} {x : Int64} (k : ∀ y : Int64, y = x → x_R E d m pc lv (.long y :: st) S Q) : x_R E d m pc lv (.long x :: st) S Q := k x rfl
theorem xr_iald {E : Nat × (Nat → Int32)} {d m pc j : Nat} {i : Int32} {lv : List (Nat × Value)} {st : List Value} {S : xS} {Q : Option Value → xS → Prop} (hdg : decode (x_mB m) pc = .ok (.iaload, 1)) (hK : x_K S j = 100) (hb : vp_in i (x_N S j)) (k : x_R E d m (pc + 1) lv (.int (x_A S j i.toNatClampNeg) :: st) S Q) : x_R E d m pc lv (.int i :: .ref j :: st) S Q := x_R.step (fun _ _ h => xi_iald hdg hK hb h) k
theorem xr_iast {E : Nat × (Nat → Int32)} {d m pc j : Nat} {i x : Int32} {lv : List (Nat × Value)} {st : List Value} {S : xS} {Q : Option Value → xS → Prop} (hdg : decode (x_mB m) pc = .ok (.iastore, 1)) (hK : x_K S j = 100) (hb : vp_in i (x_N S j)) (k : x_R E d m (pc + 1) lv st (x_pA S j (upd (x_A S j) i.toNatClampNeg x)) Q) : x_R E d m pc lv (.int x :: .int i :: .ref j :: st) S Q := x_R.step (fun _ _ h => xi_iast hdg hK hb h) k
theorem xr_alen {E : Nat × (Nat → Int32)} {d m pc j : Nat} {lv : List (Nat × Value)} {st : List Value} {S : xS} {Q : Option Value → xS → Prop} (hdg : decode (x_mB m) pc = .ok (.arraylength, 1)) (hK : x_K S j = 100) (k : x_R E d m (pc + 1) lv (.int (Int32.ofNat (x_N S j)) :: st) S Q) : x_R E d m pc lv (.ref j :: st) S Q := x_R.step (fun _ _ h => xi_alen hdg (Or.inl hK) h) k
theorem xr_tsw {E : Nat × (Nat → Int32)} {d m pc ln : Nat} {df lo hi : Int} {offs : Array Int} {x : Int32} {lv : List (Nat × Value)} {st : List Value} {S : xS} {Q : Option Value → xS → Prop} (hdg : decode (x_mB m) pc = .ok (.tableswitch df lo hi offs, ln)) (tgt : Nat) (ht : (pc : Int) + df = (tgt : Int)) (k1 : (x.toInt < lo ∨ hi < x.toInt) → x_R E d m tgt lv st S Q) (k2 : ¬ (x.toInt < lo ∨ hi < x.toInt) → ∃ (off : Int) (t : Nat), offs[(x.toInt - lo).toNat]? = some off ∧ (pc : Int) + off = (t : Int) ∧ x_R E d m t lv st S Q) : x_R E d m pc lv (.int x :: st) S Q := by
  by_cases h : x.toInt < lo ∨ hi < x.toInt
  · exact x_R.step (fun _ _ h0 => xi_tswO hdg h ht h0) (k1 h)
  · obtain ⟨off, t, h1, h2, h3⟩ := k2 h
    exact x_R.step (fun _ _ h0 => xi_tswI hdg (fun z => h (Or.inl z)) (fun z => h (Or.inr z)) h1 h2 h0) h3

theorem xr_sld {E : Nat × (Nat → Int32)} {d m pc : Nat} {i : Int32} {lv : List (Nat × Value)} {st : List Value} {S : xS} {Q : Option Value → xS → Prop} (hdg : decode (x_mB m) pc = .ok (.iaload, 1)) (hb : vp_in i E.1) (k : x_R E d m (pc + 1) lv (.int (E.2 i.toNatClampNeg) :: st) S Q) : x_R E d m pc lv (.int i :: .ref 1000000 :: st) S Q := x_R.step (fun _ _ h => xi_sld hdg hb h) k
theorem xr_slen {E : Nat × (Nat → Int32)} {d m pc : Nat} {lv : List (Nat × Value)} {st : List Value} {S : xS} {Q : Option Value → xS → Prop} (hdg : decode (x_mB m) pc = .ok (.arraylength, 1)) (k : x_R E d m (pc + 1) lv (.int (Int32.ofNat E.1) :: st) S Q) : x_R E d m pc lv (.ref 1000000 :: st) S Q := x_R.step (fun _ _ h => xi_slen hdg h) k
/-! L_law: method 239, ScrawlHouseLaw.law([I)Z -/
set_option maxRecDepth 100000 in
theorem w_L_law_23 {E : Nat × (Nat → Int32)} {d : Nat} {v : xV} {x4 : Int32} {Q : Int32 → xV → Prop} (h : ((((Int32.ofNat E.1) - (nI 6)) < x4 → Q (nI 1) v) ∧ (¬ ((Int32.ofNat E.1) - (nI 6)) < x4 → vp_in x4 E.1 ∧ ((((((E.2 (x4).toNatClampNeg) &&& (nI 31))).toInt < 0 ∨ 27 < (((E.2 (x4).toNatClampNeg) &&& (nI 31))).toInt) → RI E (d + 1) 239 23 [(0, .ref 1000000), (1, .ref 0), (2, .ref 80), (3, .ref 139), (4, .int (x4 + (nI 6)))] v Q) ∧ (((E.2 (x4).toNatClampNeg) &&& (nI 31)) = nI 0 → vp_in (x4 + (nI 1)) E.1 ∧ vp_in (x4 + (nI 2)) E.1 ∧ vp_in (x4 + (nI 3)) E.1 ∧ vp_in (x4 + (nI 4)) E.1 ∧ vp_in (x4 + (nI 5)) E.1 ∧ KI E d 113 [.ref 0, .int (E.2 ((x4 + (nI 1))).toNatClampNeg), .int (E.2 ((x4 + (nI 2))).toNatClampNeg), .int (E.2 ((x4 + (nI 3))).toNatClampNeg), .int (E.2 ((x4 + (nI 4))).toNatClampNeg), .int (E.2 ((x4 + (nI 5))).toNatClampNeg)] v (fun y8 v7 => vp_in (x4 + (nI 1)) E.1 ∧ vp_in (x4 + (nI 2)) E.1 ∧ vp_in (x4 + (nI 3)) E.1 ∧ vp_in (x4 + (nI 4)) E.1 ∧ vp_in (x4 + (nI 5)) E.1 ∧ KI E d 149 [.ref 80, .int (E.2 ((x4 + (nI 1))).toNatClampNeg), .int (E.2 ((x4 + (nI 2))).toNatClampNeg), .int (E.2 ((x4 + (nI 3))).toNatClampNeg), .int (E.2 ((x4 + (nI 4))).toNatClampNeg), .int (E.2 ((x4 + (nI 5))).toNatClampNeg)] v7 (fun y15 v14 => ((y8 = y15 → RI E (d + 1) 239 23 [(0, .ref 1000000), (1, .ref 0), (2, .ref 80), (3, .ref 139), (4, .int (x4 + (nI 6)))] v14 Q) ∧ (¬ y8 = y15 → Q (nI 0) v14))))) ∧ (((E.2 (x4).toNatClampNeg) &&& (nI 31)) = nI 1 → vp_in (x4 + (nI 1)) E.1 ∧ KI E d 114 [.ref 0, .int (E.2 ((x4 + (nI 1))).toNatClampNeg)] v (fun y18 v17 => vp_in (x4 + (nI 1)) E.1 ∧ KI E d 150 [.ref 80, .int (E.2 ((x4 + (nI 1))).toNatClampNeg)] v17 (fun y21 v20 => ((y18 = y21 → RI E (d + 1) 239 23 [(0, .ref 1000000), (1, .ref 0), (2, .ref 80), (3, .ref 139), (4, .int (x4 + (nI 6)))] v20 Q) ∧ (¬ y18 = y21 → Q (nI 0) v20))))) ∧ (((E.2 (x4).toNatClampNeg) &&& (nI 31)) = nI 2 → vp_in (x4 + (nI 1)) E.1 ∧ KI E d 115 [.ref 0, .int (E.2 ((x4 + (nI 1))).toNatClampNeg)] v (fun y24 v23 => vp_in (x4 + (nI 1)) E.1 ∧ KI E d 153 [.ref 80, .int (E.2 ((x4 + (nI 1))).toNatClampNeg)] v23 (fun y27 v26 => ((y24 = y27 → RI E (d + 1) 239 23 [(0, .ref 1000000), (1, .ref 0), (2, .ref 80), (3, .ref 139), (4, .int (x4 + (nI 6)))] v26 Q) ∧ (¬ y24 = y27 → Q (nI 0) v26))))) ∧ (((E.2 (x4).toNatClampNeg) &&& (nI 31)) = nI 3 → vp_in (x4 + (nI 1)) E.1 ∧ vp_in (x4 + (nI 2)) E.1 ∧ KI E d 116 [.ref 0, .int (E.2 ((x4 + (nI 1))).toNatClampNeg), .int (E.2 ((x4 + (nI 2))).toNatClampNeg)] v (fun y31 v30 => vp_in (x4 + (nI 1)) E.1 ∧ vp_in (x4 + (nI 2)) E.1 ∧ KI E d 155 [.ref 80, .int (E.2 ((x4 + (nI 1))).toNatClampNeg), .int (E.2 ((x4 + (nI 2))).toNatClampNeg)] v30 (fun y35 v34 => ((y31 = y35 → RI E (d + 1) 239 23 [(0, .ref 1000000), (1, .ref 0), (2, .ref 80), (3, .ref 139), (4, .int (x4 + (nI 6)))] v34 Q) ∧ (¬ y31 = y35 → Q (nI 0) v34))))) ∧ (((E.2 (x4).toNatClampNeg) &&& (nI 31)) = nI 4 → vp_in (x4 + (nI 1)) E.1 ∧ KI E d 117 [.ref 0, .int (E.2 ((x4 + (nI 1))).toNatClampNeg)] v (fun y38 v37 => vp_in (x4 + (nI 1)) E.1 ∧ KI E d 157 [.ref 80, .int (E.2 ((x4 + (nI 1))).toNatClampNeg)] v37 (fun y41 v40 => ((y38 = y41 → RI E (d + 1) 239 23 [(0, .ref 1000000), (1, .ref 0), (2, .ref 80), (3, .ref 139), (4, .int (x4 + (nI 6)))] v40 Q) ∧ (¬ y38 = y41 → Q (nI 0) v40))))) ∧ (((E.2 (x4).toNatClampNeg) &&& (nI 31)) = nI 5 → vp_in (x4 + (nI 1)) E.1 ∧ vp_in (x4 + (nI 2)) E.1 ∧ vp_in (x4 + (nI 3)) E.1 ∧ KI E d 118 [.ref 0, .int (E.2 ((x4 + (nI 1))).toNatClampNeg), .int (E.2 ((x4 + (nI 2))).toNatClampNeg), .int (E.2 ((x4 + (nI 3))).toNatClampNeg)] v (fun y46 v45 => vp_in (x4 + (nI 1)) E.1 ∧ vp_in (x4 + (nI 2)) E.1 ∧ vp_in (x4 + (nI 3)) E.1 ∧ KI E d 159 [.ref 80, .int (E.2 ((x4 + (nI 1))).toNatClampNeg), .int (E.2 ((x4 + (nI 2))).toNatClampNeg), .int (E.2 ((x4 + (nI 3))).toNatClampNeg)] v45 (fun y51 v50 => ((y46 = y51 → RI E (d + 1) 239 23 [(0, .ref 1000000), (1, .ref 0), (2, .ref 80), (3, .ref 139), (4, .int (x4 + (nI 6)))] v50 Q) ∧ (¬ y46 = y51 → Q (nI 0) v50))))) ∧ (((E.2 (x4).toNatClampNeg) &&& (nI 31)) = nI 6 → vp_in (x4 + (nI 1)) E.1 ∧ vp_in (x4 + (nI 2)) E.1 ∧ KI E d 119 [.ref 0, .int (E.2 ((x4 + (nI 1))).toNatClampNeg), .int (E.2 ((x4 + (nI 2))).toNatClampNeg)] v (fun y55 v54 => vp_in (x4 + (nI 1)) E.1 ∧ vp_in (x4 + (nI 2)) E.1 ∧ KI E d 160 [.ref 80, .int (E.2 ((x4 + (nI 1))).toNatClampNeg), .int (E.2 ((x4 + (nI 2))).toNatClampNeg)] v54 (fun y59 v58 => ((y55 = y59 → RI E (d + 1) 239 23 [(0, .ref 1000000), (1, .ref 0), (2, .ref 80), (3, .ref 139), (4, .int (x4 + (nI 6)))] v58 Q) ∧ (¬ y55 = y59 → Q (nI 0) v58))))) ∧ (((E.2 (x4).toNatClampNeg) &&& (nI 31)) = nI 7 → vp_in (x4 + (nI 1)) E.1 ∧ vp_in (x4 + (nI 2)) E.1 ∧ vp_in (x4 + (nI 3)) E.1 ∧ KI E d 120 [.ref 0, .int (E.2 ((x4 + (nI 1))).toNatClampNeg), .int (E.2 ((x4 + (nI 2))).toNatClampNeg), .int (E.2 ((x4 + (nI 3))).toNatClampNeg)] v (fun y64 v63 => vp_in (x4 + (nI 1)) E.1 ∧ vp_in (x4 + (nI 2)) E.1 ∧ vp_in (x4 + (nI 3)) E.1 ∧ KI E d 161 [.ref 80, .int (E.2 ((x4 + (nI 1))).toNatClampNeg), .int (E.2 ((x4 + (nI 2))).toNatClampNeg), .int (E.2 ((x4 + (nI 3))).toNatClampNeg)] v63 (fun y69 v68 => ((y64 = y69 → RI E (d + 1) 239 23 [(0, .ref 1000000), (1, .ref 0), (2, .ref 80), (3, .ref 139), (4, .int (x4 + (nI 6)))] v68 Q) ∧ (¬ y64 = y69 → Q (nI 0) v68))))) ∧ (((E.2 (x4).toNatClampNeg) &&& (nI 31)) = nI 8 → KI E d 121 [.ref 0] v (fun y71 v70 => KI E d 169 [.ref 80] v70 (fun y73 v72 => ((y71 = y73 → RI E (d + 1) 239 23 [(0, .ref 1000000), (1, .ref 0), (2, .ref 80), (3, .ref 139), (4, .int (x4 + (nI 6)))] v72 Q) ∧ (¬ y71 = y73 → Q (nI 0) v72))))) ∧ (((E.2 (x4).toNatClampNeg) &&& (nI 31)) = nI 9 → KI E d 122 [.ref 0] v (fun y75 v74 => KI E d 170 [.ref 80] v74 (fun y77 v76 => ((y75 = y77 → RI E (d + 1) 239 23 [(0, .ref 1000000), (1, .ref 0), (2, .ref 80), (3, .ref 139), (4, .int (x4 + (nI 6)))] v76 Q) ∧ (¬ y75 = y77 → Q (nI 0) v76))))) ∧ (((E.2 (x4).toNatClampNeg) &&& (nI 31)) = nI 10 → vp_in (x4 + (nI 1)) E.1 ∧ vp_in (x4 + (nI 2)) E.1 ∧ vp_in (x4 + (nI 3)) E.1 ∧ KI E d 123 [.ref 0, .int (E.2 ((x4 + (nI 1))).toNatClampNeg), .int (E.2 ((x4 + (nI 2))).toNatClampNeg), .int (E.2 ((x4 + (nI 3))).toNatClampNeg)] v (fun y82 v81 => vp_in (x4 + (nI 1)) E.1 ∧ vp_in (x4 + (nI 2)) E.1 ∧ vp_in (x4 + (nI 3)) E.1 ∧ KI E d 171 [.ref 80, .int (E.2 ((x4 + (nI 1))).toNatClampNeg), .int (E.2 ((x4 + (nI 2))).toNatClampNeg), .int (E.2 ((x4 + (nI 3))).toNatClampNeg)] v81 (fun y87 v86 => ((y82 = y87 → RI E (d + 1) 239 23 [(0, .ref 1000000), (1, .ref 0), (2, .ref 80), (3, .ref 139), (4, .int (x4 + (nI 6)))] v86 Q) ∧ (¬ y82 = y87 → Q (nI 0) v86))))) ∧ (((E.2 (x4).toNatClampNeg) &&& (nI 31)) = nI 11 → vp_in (x4 + (nI 1)) E.1 ∧ KI E d 124 [.ref 0, .int (E.2 ((x4 + (nI 1))).toNatClampNeg)] v (fun y90 v89 => vp_in (x4 + (nI 1)) E.1 ∧ KI E d 174 [.ref 80, .int (E.2 ((x4 + (nI 1))).toNatClampNeg)] v89 (fun y93 v92 => ((y90 = y93 → RI E (d + 1) 239 23 [(0, .ref 1000000), (1, .ref 0), (2, .ref 80), (3, .ref 139), (4, .int (x4 + (nI 6)))] v92 Q) ∧ (¬ y90 = y93 → Q (nI 0) v92))))) ∧ (((E.2 (x4).toNatClampNeg) &&& (nI 31)) = nI 12 → vp_in (x4 + (nI 1)) E.1 ∧ vp_in (x4 + (nI 2)) E.1 ∧ KI E d 125 [.ref 0, .int (E.2 ((x4 + (nI 1))).toNatClampNeg), .int (E.2 ((x4 + (nI 2))).toNatClampNeg)] v (fun y97 v96 => vp_in (x4 + (nI 1)) E.1 ∧ vp_in (x4 + (nI 2)) E.1 ∧ KI E d 175 [.ref 80, .int (E.2 ((x4 + (nI 1))).toNatClampNeg), .int (E.2 ((x4 + (nI 2))).toNatClampNeg)] v96 (fun y101 v100 => ((y97 = y101 → RI E (d + 1) 239 23 [(0, .ref 1000000), (1, .ref 0), (2, .ref 80), (3, .ref 139), (4, .int (x4 + (nI 6)))] v100 Q) ∧ (¬ y97 = y101 → Q (nI 0) v100))))) ∧ (((E.2 (x4).toNatClampNeg) &&& (nI 31)) = nI 13 → vp_in (x4 + (nI 1)) E.1 ∧ vp_in (x4 + (nI 2)) E.1 ∧ vp_in (x4 + (nI 3)) E.1 ∧ vp_in (x4 + (nI 4)) E.1 ∧ KI E d 126 [.ref 0, .int (E.2 ((x4 + (nI 1))).toNatClampNeg), .int (E.2 ((x4 + (nI 2))).toNatClampNeg), .int (E.2 ((x4 + (nI 3))).toNatClampNeg), .int (E.2 ((x4 + (nI 4))).toNatClampNeg)] v (fun y107 v106 => vp_in (x4 + (nI 1)) E.1 ∧ vp_in (x4 + (nI 2)) E.1 ∧ vp_in (x4 + (nI 3)) E.1 ∧ vp_in (x4 + (nI 4)) E.1 ∧ KI E d 180 [.ref 80, .int (E.2 ((x4 + (nI 1))).toNatClampNeg), .int (E.2 ((x4 + (nI 2))).toNatClampNeg), .int (E.2 ((x4 + (nI 3))).toNatClampNeg), .int (E.2 ((x4 + (nI 4))).toNatClampNeg)] v106 (fun y113 v112 => ((y107 = y113 → RI E (d + 1) 239 23 [(0, .ref 1000000), (1, .ref 0), (2, .ref 80), (3, .ref 139), (4, .int (x4 + (nI 6)))] v112 Q) ∧ (¬ y107 = y113 → Q (nI 0) v112))))) ∧ (((E.2 (x4).toNatClampNeg) &&& (nI 31)) = nI 14 → vp_in (x4 + (nI 1)) E.1 ∧ vp_in (x4 + (nI 2)) E.1 ∧ KI E d 127 [.ref 0, .int (E.2 ((x4 + (nI 1))).toNatClampNeg), .int (E.2 ((x4 + (nI 2))).toNatClampNeg)] v (fun y117 v116 => vp_in (x4 + (nI 1)) E.1 ∧ vp_in (x4 + (nI 2)) E.1 ∧ KI E d 188 [.ref 80, .int (E.2 ((x4 + (nI 1))).toNatClampNeg), .int (E.2 ((x4 + (nI 2))).toNatClampNeg)] v116 (fun y121 v120 => ((y117 = y121 → RI E (d + 1) 239 23 [(0, .ref 1000000), (1, .ref 0), (2, .ref 80), (3, .ref 139), (4, .int (x4 + (nI 6)))] v120 Q) ∧ (¬ y117 = y121 → Q (nI 0) v120))))) ∧ (((E.2 (x4).toNatClampNeg) &&& (nI 31)) = nI 15 → vp_in (x4 + (nI 1)) E.1 ∧ KO E d 731 [.ref 0, .int (E.2 ((x4 + (nI 1))).toNatClampNeg), .ref 139] v (fun y123 v124 => vp_in (x4 + (nI 1)) E.1 ∧ KI E d 189 [.ref 80, .int (E.2 ((x4 + (nI 1))).toNatClampNeg)] v124 (fun y127 v126 => KI E d 146 [.ref 80] v126 (fun y129 v128 => ((y129 = y123 → ((¬ y123 = (nI 0) → RI E (d + 1) 239 23 [(0, .ref 1000000), (1, .ref 0), (2, .ref 80), (3, .ref 139), (4, .int (x4 + (nI 6)))] v128 Q) ∧ (y123 = (nI 0) → (((lg_cmp ((gB v128 139) ((nI 0)).toNatClampNeg) (y127).toInt64) = (nI 0) → RI E (d + 1) 239 23 [(0, .ref 1000000), (1, .ref 0), (2, .ref 80), (3, .ref 139), (4, .int (x4 + (nI 6)))] v128 Q) ∧ (¬ (lg_cmp ((gB v128 139) ((nI 0)).toNatClampNeg) (y127).toInt64) = (nI 0) → Q (nI 0) v128))))) ∧ (¬ y129 = y123 → Q (nI 0) v128)))))) ∧ (((E.2 (x4).toNatClampNeg) &&& (nI 31)) = nI 16 → vp_in (x4 + (nI 1)) E.1 ∧ vp_in (x4 + (nI 2)) E.1 ∧ vp_in (x4 + (nI 3)) E.1 ∧ KI E d 129 [.ref 0, .int (E.2 ((x4 + (nI 1))).toNatClampNeg), .int (E.2 ((x4 + (nI 2))).toNatClampNeg), .int (E.2 ((x4 + (nI 3))).toNatClampNeg)] v (fun y134 v133 => vp_in (x4 + (nI 1)) E.1 ∧ vp_in (x4 + (nI 2)) E.1 ∧ vp_in (x4 + (nI 3)) E.1 ∧ KI E d 192 [.ref 80, .int (E.2 ((x4 + (nI 1))).toNatClampNeg), .int (E.2 ((x4 + (nI 2))).toNatClampNeg), .int (E.2 ((x4 + (nI 3))).toNatClampNeg)] v133 (fun y139 v138 => ((y134 = y139 → RI E (d + 1) 239 23 [(0, .ref 1000000), (1, .ref 0), (2, .ref 80), (3, .ref 139), (4, .int (x4 + (nI 6)))] v138 Q) ∧ (¬ y134 = y139 → Q (nI 0) v138))))) ∧ (((E.2 (x4).toNatClampNeg) &&& (nI 31)) = nI 17 → vp_in (x4 + (nI 1)) E.1 ∧ vp_in (x4 + (nI 2)) E.1 ∧ vp_in (x4 + (nI 3)) E.1 ∧ KI E d 130 [.ref 0, .int (E.2 ((x4 + (nI 1))).toNatClampNeg), .int (E.2 ((x4 + (nI 2))).toNatClampNeg), .int (E.2 ((x4 + (nI 3))).toNatClampNeg)] v (fun y144 v143 => vp_in (x4 + (nI 1)) E.1 ∧ vp_in (x4 + (nI 2)) E.1 ∧ vp_in (x4 + (nI 3)) E.1 ∧ KI E d 193 [.ref 80, .int (E.2 ((x4 + (nI 1))).toNatClampNeg), .int (E.2 ((x4 + (nI 2))).toNatClampNeg), .int (E.2 ((x4 + (nI 3))).toNatClampNeg)] v143 (fun y149 v148 => ((y144 = y149 → RI E (d + 1) 239 23 [(0, .ref 1000000), (1, .ref 0), (2, .ref 80), (3, .ref 139), (4, .int (x4 + (nI 6)))] v148 Q) ∧ (¬ y144 = y149 → Q (nI 0) v148))))) ∧ (((E.2 (x4).toNatClampNeg) &&& (nI 31)) = nI 18 → vp_in (x4 + (nI 1)) E.1 ∧ vp_in (x4 + (nI 2)) E.1 ∧ vp_in (x4 + (nI 3)) E.1 ∧ KI E d 131 [.ref 0, .int (E.2 ((x4 + (nI 1))).toNatClampNeg), .int (E.2 ((x4 + (nI 2))).toNatClampNeg), .int (E.2 ((x4 + (nI 3))).toNatClampNeg)] v (fun y154 v153 => vp_in (x4 + (nI 1)) E.1 ∧ vp_in (x4 + (nI 2)) E.1 ∧ vp_in (x4 + (nI 3)) E.1 ∧ KI E d 195 [.ref 80, .int (E.2 ((x4 + (nI 1))).toNatClampNeg), .int (E.2 ((x4 + (nI 2))).toNatClampNeg), .int (E.2 ((x4 + (nI 3))).toNatClampNeg)] v153 (fun y159 v158 => ((y154 = y159 → RI E (d + 1) 239 23 [(0, .ref 1000000), (1, .ref 0), (2, .ref 80), (3, .ref 139), (4, .int (x4 + (nI 6)))] v158 Q) ∧ (¬ y154 = y159 → Q (nI 0) v158))))) ∧ (((E.2 (x4).toNatClampNeg) &&& (nI 31)) = nI 19 → vp_in (x4 + (nI 1)) E.1 ∧ vp_in (x4 + (nI 2)) E.1 ∧ KI E d 132 [.ref 0, .int (E.2 ((x4 + (nI 1))).toNatClampNeg), .int (E.2 ((x4 + (nI 2))).toNatClampNeg)] v (fun y163 v162 => vp_in (x4 + (nI 1)) E.1 ∧ vp_in (x4 + (nI 2)) E.1 ∧ KI E d 215 [.ref 80, .int (E.2 ((x4 + (nI 1))).toNatClampNeg), .int (E.2 ((x4 + (nI 2))).toNatClampNeg)] v162 (fun y167 v166 => ((y163 = y167 → RI E (d + 1) 239 23 [(0, .ref 1000000), (1, .ref 0), (2, .ref 80), (3, .ref 139), (4, .int (x4 + (nI 6)))] v166 Q) ∧ (¬ y163 = y167 → Q (nI 0) v166))))) ∧ (((E.2 (x4).toNatClampNeg) &&& (nI 31)) = nI 20 → vp_in (x4 + (nI 1)) E.1 ∧ vp_in (x4 + (nI 2)) E.1 ∧ vp_in (x4 + (nI 3)) E.1 ∧ vp_in (x4 + (nI 4)) E.1 ∧ vp_in (x4 + (nI 5)) E.1 ∧ KI E d 133 [.ref 0, .int (E.2 ((x4 + (nI 1))).toNatClampNeg), .int (E.2 ((x4 + (nI 2))).toNatClampNeg), .int (E.2 ((x4 + (nI 3))).toNatClampNeg), .int (E.2 ((x4 + (nI 4))).toNatClampNeg), .int (E.2 ((x4 + (nI 5))).toNatClampNeg)] v (fun y174 v173 => vp_in (x4 + (nI 1)) E.1 ∧ vp_in (x4 + (nI 2)) E.1 ∧ vp_in (x4 + (nI 3)) E.1 ∧ vp_in (x4 + (nI 4)) E.1 ∧ vp_in (x4 + (nI 5)) E.1 ∧ KI E d 197 [.ref 80, .int (E.2 ((x4 + (nI 1))).toNatClampNeg), .int (E.2 ((x4 + (nI 2))).toNatClampNeg), .int (E.2 ((x4 + (nI 3))).toNatClampNeg), .int (E.2 ((x4 + (nI 4))).toNatClampNeg), .int (E.2 ((x4 + (nI 5))).toNatClampNeg)] v173 (fun y181 v180 => ((y174 = y181 → RI E (d + 1) 239 23 [(0, .ref 1000000), (1, .ref 0), (2, .ref 80), (3, .ref 139), (4, .int (x4 + (nI 6)))] v180 Q) ∧ (¬ y174 = y181 → Q (nI 0) v180))))) ∧ (((E.2 (x4).toNatClampNeg) &&& (nI 31)) = nI 21 → vp_in (x4 + (nI 1)) E.1 ∧ vp_in (x4 + (nI 2)) E.1 ∧ vp_in (x4 + (nI 3)) E.1 ∧ (((E.2 ((x4 + (nI 3))).toNatClampNeg) = (nI 0) → KI E d 134 [.ref 0, .int (E.2 ((x4 + (nI 1))).toNatClampNeg), .int (E.2 ((x4 + (nI 2))).toNatClampNeg), .int (nI 0)] v (fun y186 v185 => vp_in (x4 + (nI 1)) E.1 ∧ vp_in (x4 + (nI 2)) E.1 ∧ vp_in (x4 + (nI 3)) E.1 ∧ (((E.2 ((x4 + (nI 3))).toNatClampNeg) = (nI 0) → KI E d 208 [.ref 80, .int (E.2 ((x4 + (nI 1))).toNatClampNeg), .int (E.2 ((x4 + (nI 2))).toNatClampNeg), .int (nI 0)] v185 (fun y191 v190 => ((y186 = y191 → RI E (d + 1) 239 23 [(0, .ref 1000000), (1, .ref 0), (2, .ref 80), (3, .ref 139), (4, .int (x4 + (nI 6)))] v190 Q) ∧ (¬ y186 = y191 → Q (nI 0) v190)))) ∧ (¬ (E.2 ((x4 + (nI 3))).toNatClampNeg) = (nI 0) → KI E d 208 [.ref 80, .int (E.2 ((x4 + (nI 1))).toNatClampNeg), .int (E.2 ((x4 + (nI 2))).toNatClampNeg), .int (nI 1)] v185 (fun y193 v192 => ((y186 = y193 → RI E (d + 1) 239 23 [(0, .ref 1000000), (1, .ref 0), (2, .ref 80), (3, .ref 139), (4, .int (x4 + (nI 6)))] v192 Q) ∧ (¬ y186 = y193 → Q (nI 0) v192))))))) ∧ (¬ (E.2 ((x4 + (nI 3))).toNatClampNeg) = (nI 0) → KI E d 134 [.ref 0, .int (E.2 ((x4 + (nI 1))).toNatClampNeg), .int (E.2 ((x4 + (nI 2))).toNatClampNeg), .int (nI 1)] v (fun y195 v194 => vp_in (x4 + (nI 1)) E.1 ∧ vp_in (x4 + (nI 2)) E.1 ∧ vp_in (x4 + (nI 3)) E.1 ∧ (((E.2 ((x4 + (nI 3))).toNatClampNeg) = (nI 0) → KI E d 208 [.ref 80, .int (E.2 ((x4 + (nI 1))).toNatClampNeg), .int (E.2 ((x4 + (nI 2))).toNatClampNeg), .int (nI 0)] v194 (fun y200 v199 => ((y195 = y200 → RI E (d + 1) 239 23 [(0, .ref 1000000), (1, .ref 0), (2, .ref 80), (3, .ref 139), (4, .int (x4 + (nI 6)))] v199 Q) ∧ (¬ y195 = y200 → Q (nI 0) v199)))) ∧ (¬ (E.2 ((x4 + (nI 3))).toNatClampNeg) = (nI 0) → KI E d 208 [.ref 80, .int (E.2 ((x4 + (nI 1))).toNatClampNeg), .int (E.2 ((x4 + (nI 2))).toNatClampNeg), .int (nI 1)] v194 (fun y202 v201 => ((y195 = y202 → RI E (d + 1) 239 23 [(0, .ref 1000000), (1, .ref 0), (2, .ref 80), (3, .ref 139), (4, .int (x4 + (nI 6)))] v201 Q) ∧ (¬ y195 = y202 → Q (nI 0) v201))))))))) ∧ (((E.2 (x4).toNatClampNeg) &&& (nI 31)) = nI 22 → vp_in (x4 + (nI 1)) E.1 ∧ vp_in (x4 + (nI 2)) E.1 ∧ vp_in (x4 + (nI 3)) E.1 ∧ vp_in (x4 + (nI 4)) E.1 ∧ (((E.2 ((x4 + (nI 4))).toNatClampNeg) = (nI 0) → KI E d 135 [.ref 0, .int (E.2 ((x4 + (nI 1))).toNatClampNeg), .int (E.2 ((x4 + (nI 2))).toNatClampNeg), .int (E.2 ((x4 + (nI 3))).toNatClampNeg), .int (nI 0)] v (fun y208 v207 => vp_in (x4 + (nI 1)) E.1 ∧ vp_in (x4 + (nI 2)) E.1 ∧ vp_in (x4 + (nI 3)) E.1 ∧ vp_in (x4 + (nI 4)) E.1 ∧ (((E.2 ((x4 + (nI 4))).toNatClampNeg) = (nI 0) → KI E d 209 [.ref 80, .int (E.2 ((x4 + (nI 1))).toNatClampNeg), .int (E.2 ((x4 + (nI 2))).toNatClampNeg), .int (E.2 ((x4 + (nI 3))).toNatClampNeg), .int (nI 0)] v207 (fun y214 v213 => ((y208 = y214 → RI E (d + 1) 239 23 [(0, .ref 1000000), (1, .ref 0), (2, .ref 80), (3, .ref 139), (4, .int (x4 + (nI 6)))] v213 Q) ∧ (¬ y208 = y214 → Q (nI 0) v213)))) ∧ (¬ (E.2 ((x4 + (nI 4))).toNatClampNeg) = (nI 0) → KI E d 209 [.ref 80, .int (E.2 ((x4 + (nI 1))).toNatClampNeg), .int (E.2 ((x4 + (nI 2))).toNatClampNeg), .int (E.2 ((x4 + (nI 3))).toNatClampNeg), .int (nI 1)] v207 (fun y216 v215 => ((y208 = y216 → RI E (d + 1) 239 23 [(0, .ref 1000000), (1, .ref 0), (2, .ref 80), (3, .ref 139), (4, .int (x4 + (nI 6)))] v215 Q) ∧ (¬ y208 = y216 → Q (nI 0) v215))))))) ∧ (¬ (E.2 ((x4 + (nI 4))).toNatClampNeg) = (nI 0) → KI E d 135 [.ref 0, .int (E.2 ((x4 + (nI 1))).toNatClampNeg), .int (E.2 ((x4 + (nI 2))).toNatClampNeg), .int (E.2 ((x4 + (nI 3))).toNatClampNeg), .int (nI 1)] v (fun y218 v217 => vp_in (x4 + (nI 1)) E.1 ∧ vp_in (x4 + (nI 2)) E.1 ∧ vp_in (x4 + (nI 3)) E.1 ∧ vp_in (x4 + (nI 4)) E.1 ∧ (((E.2 ((x4 + (nI 4))).toNatClampNeg) = (nI 0) → KI E d 209 [.ref 80, .int (E.2 ((x4 + (nI 1))).toNatClampNeg), .int (E.2 ((x4 + (nI 2))).toNatClampNeg), .int (E.2 ((x4 + (nI 3))).toNatClampNeg), .int (nI 0)] v217 (fun y224 v223 => ((y218 = y224 → RI E (d + 1) 239 23 [(0, .ref 1000000), (1, .ref 0), (2, .ref 80), (3, .ref 139), (4, .int (x4 + (nI 6)))] v223 Q) ∧ (¬ y218 = y224 → Q (nI 0) v223)))) ∧ (¬ (E.2 ((x4 + (nI 4))).toNatClampNeg) = (nI 0) → KI E d 209 [.ref 80, .int (E.2 ((x4 + (nI 1))).toNatClampNeg), .int (E.2 ((x4 + (nI 2))).toNatClampNeg), .int (E.2 ((x4 + (nI 3))).toNatClampNeg), .int (nI 1)] v217 (fun y226 v225 => ((y218 = y226 → RI E (d + 1) 239 23 [(0, .ref 1000000), (1, .ref 0), (2, .ref 80), (3, .ref 139), (4, .int (x4 + (nI 6)))] v225 Q) ∧ (¬ y218 = y226 → Q (nI 0) v225))))))))) ∧ (((E.2 (x4).toNatClampNeg) &&& (nI 31)) = nI 23 → vp_in (x4 + (nI 1)) E.1 ∧ KI E d 136 [.ref 0, .int (E.2 ((x4 + (nI 1))).toNatClampNeg)] v (fun y229 v228 => vp_in (x4 + (nI 1)) E.1 ∧ KI E d 210 [.ref 80, .int (E.2 ((x4 + (nI 1))).toNatClampNeg)] v228 (fun y232 v231 => ((y229 = y232 → RI E (d + 1) 239 23 [(0, .ref 1000000), (1, .ref 0), (2, .ref 80), (3, .ref 139), (4, .int (x4 + (nI 6)))] v231 Q) ∧ (¬ y229 = y232 → Q (nI 0) v231))))) ∧ (((E.2 (x4).toNatClampNeg) &&& (nI 31)) = nI 24 → vp_in (x4 + (nI 1)) E.1 ∧ vp_in (x4 + (nI 2)) E.1 ∧ KI E d 137 [.ref 0, .int (E.2 ((x4 + (nI 1))).toNatClampNeg), .int (E.2 ((x4 + (nI 2))).toNatClampNeg)] v (fun y236 v235 => vp_in (x4 + (nI 1)) E.1 ∧ vp_in (x4 + (nI 2)) E.1 ∧ KI E d 220 [.ref 80, .int (E.2 ((x4 + (nI 1))).toNatClampNeg), .int (E.2 ((x4 + (nI 2))).toNatClampNeg)] v235 (fun y240 v239 => ((y236 = y240 → RI E (d + 1) 239 23 [(0, .ref 1000000), (1, .ref 0), (2, .ref 80), (3, .ref 139), (4, .int (x4 + (nI 6)))] v239 Q) ∧ (¬ y236 = y240 → Q (nI 0) v239))))) ∧ (((E.2 (x4).toNatClampNeg) &&& (nI 31)) = nI 25 → vp_in (x4 + (nI 1)) E.1 ∧ vp_in (x4 + (nI 2)) E.1 ∧ KI E d 138 [.ref 0, .int (E.2 ((x4 + (nI 1))).toNatClampNeg), .int (E.2 ((x4 + (nI 2))).toNatClampNeg)] v (fun y244 v243 => vp_in (x4 + (nI 1)) E.1 ∧ vp_in (x4 + (nI 2)) E.1 ∧ KI E d 221 [.ref 80, .int (E.2 ((x4 + (nI 1))).toNatClampNeg), .int (E.2 ((x4 + (nI 2))).toNatClampNeg)] v243 (fun y248 v247 => ((y244 = y248 → RI E (d + 1) 239 23 [(0, .ref 1000000), (1, .ref 0), (2, .ref 80), (3, .ref 139), (4, .int (x4 + (nI 6)))] v247 Q) ∧ (¬ y244 = y248 → Q (nI 0) v247))))) ∧ (((E.2 (x4).toNatClampNeg) &&& (nI 31)) = nI 26 → vp_in (x4 + (nI 1)) E.1 ∧ vp_in (x4 + (nI 2)) E.1 ∧ vp_in (x4 + (nI 3)) E.1 ∧ KI E d 139 [.ref 0, .int (E.2 ((x4 + (nI 1))).toNatClampNeg), .int (E.2 ((x4 + (nI 2))).toNatClampNeg), .int (E.2 ((x4 + (nI 3))).toNatClampNeg)] v (fun y253 v252 => vp_in (x4 + (nI 1)) E.1 ∧ vp_in (x4 + (nI 2)) E.1 ∧ vp_in (x4 + (nI 3)) E.1 ∧ KI E d 223 [.ref 80, .int (E.2 ((x4 + (nI 1))).toNatClampNeg), .int (E.2 ((x4 + (nI 2))).toNatClampNeg), .int (E.2 ((x4 + (nI 3))).toNatClampNeg)] v252 (fun y258 v257 => ((y253 = y258 → RI E (d + 1) 239 23 [(0, .ref 1000000), (1, .ref 0), (2, .ref 80), (3, .ref 139), (4, .int (x4 + (nI 6)))] v257 Q) ∧ (¬ y253 = y258 → Q (nI 0) v257))))) ∧ (((E.2 (x4).toNatClampNeg) &&& (nI 31)) = nI 27 → vp_in (x4 + (nI 1)) E.1 ∧ KI E d 140 [.ref 0, .int (E.2 ((x4 + (nI 1))).toNatClampNeg)] v (fun y261 v260 => vp_in (x4 + (nI 1)) E.1 ∧ KI E d 224 [.ref 80, .int (E.2 ((x4 + (nI 1))).toNatClampNeg)] v260 (fun y264 v263 => ((y261 = y264 → RI E (d + 1) 239 23 [(0, .ref 1000000), (1, .ref 0), (2, .ref 80), (3, .ref 139), (4, .int (x4 + (nI 6)))] v263 Q) ∧ (¬ y261 = y264 → Q (nI 0) v263))))))))) : RI E (d + 1) 239 23 [(0, .ref 1000000), (1, .ref 0), (2, .ref 80), (3, .ref 139), (4, .int x4)] v Q := by
  unfold RI
  refine xr_blk (lv1 := [(0, .ref 1000000), (1, .ref 0), (2, .ref 80), (3, .ref 139), (4, .int x4)]) (st1 := [.ref 1000000, .int x4]) (S1 := rt v) (pc1 := 26) [(.iload 4, .null, 0, 0), (.aload_n 0, .null, 0, 0)] [] (by decide +kernel) rfl trivial ?_
  refine xr_slen (by decide +kernel) ?_
  refine xr_blk (lv1 := [(0, .ref 1000000), (1, .ref 0), (2, .ref 80), (3, .ref 139), (4, .int x4)]) (st1 := [.int ((Int32.ofNat E.1) - (nI 6)), .int x4]) (S1 := rt v) (pc1 := 30) [(.bipush 6, .int (nI 6), 0, 0), (.isub, .null, 0, 0)] [] (by decide +kernel) rfl trivial ?_
  refine xr_ic_gt (tgt := 1357) (off := 1327) (by decide +kernel) (by decide) (fun hc => ?_) (fun hc => ?_)
  · replace h := h.1 hc
    refine xr_blk (lv1 := [(0, .ref 1000000), (1, .ref 0), (2, .ref 80), (3, .ref 139), (4, .int x4)]) (st1 := [.int (nI 1)]) (S1 := rt v) (pc1 := 1358) [(.iconst 1, .int (nI 1), 0, 0)] [] (by decide +kernel) rfl trivial ?_
    exact xr_zret (by decide +kernel) rfl x_in2_1 ⟨_, _, rfl, rfl, h⟩
  · replace h := h.2 hc
    refine xr_blk (lv1 := [(0, .ref 1000000), (1, .ref 0), (2, .ref 80), (3, .ref 139), (4, .int x4)]) (st1 := [.int x4, .ref 1000000]) (S1 := rt v) (pc1 := 36) [(.aload_n 0, .null, 0, 0), (.iload 4, .null, 0, 0)] [] (by decide +kernel) rfl trivial ?_
    obtain ⟨hb1, h⟩ := h
    refine xr_sld (by decide +kernel) hb1 ?_
    refine xr_blk (lv1 := [(0, .ref 1000000), (1, .ref 0), (2, .ref 80), (3, .ref 139), (4, .int x4)]) (st1 := [.int ((E.2 (x4).toNatClampNeg) &&& (nI 31))]) (S1 := rt v) (pc1 := 40) [(.bipush 31, .int (nI 31), 0, 0), (.iand, .null, 0, 0)] [] (by decide +kernel) rfl trivial ?_
    refine xr_tsw (by decide +kernel : decode (x_mB 239) 40 = .ok (.tableswitch 1311 0 27 #[128, 201, 226, 251, 288, 313, 362, 399, 448, 461, 474, 523, 548, 585, 646, 683, 739, 788, 837, 886, 923, 996, 1061, 1138, 1163, 1200, 1237, 1286], 128)) 1351 (by decide) (fun hc => ?_) (fun hc => ?_)
    · replace h := h.1 hc
      refine xr_blk (lv1 := [(4, .int (x4 + (nI 6))), (0, .ref 1000000), (1, .ref 0), (2, .ref 80), (3, .ref 139)]) (st1 := []) (S1 := rt v) (pc1 := 1354) [(.iinc 4 6, .int (nI 6), 0, 0)] [] (by decide +kernel) rfl trivial ?_
      refine xr_goto (tgt := 23) (off := -1331) (by decide +kernel) (by decide) ?_
      exact x_R.sub [1, 2, 3, 4, 0] rfl h
    · replace h := h.2
      have hr : ((E.2 (x4).toNatClampNeg) &&& (nI 31)) = 0 ∨ ((E.2 (x4).toNatClampNeg) &&& (nI 31)) = 1 ∨ ((E.2 (x4).toNatClampNeg) &&& (nI 31)) = 2 ∨ ((E.2 (x4).toNatClampNeg) &&& (nI 31)) = 3 ∨ ((E.2 (x4).toNatClampNeg) &&& (nI 31)) = 4 ∨ ((E.2 (x4).toNatClampNeg) &&& (nI 31)) = 5 ∨ ((E.2 (x4).toNatClampNeg) &&& (nI 31)) = 6 ∨ ((E.2 (x4).toNatClampNeg) &&& (nI 31)) = 7 ∨ ((E.2 (x4).toNatClampNeg) &&& (nI 31)) = 8 ∨ ((E.2 (x4).toNatClampNeg) &&& (nI 31)) = 9 ∨ ((E.2 (x4).toNatClampNeg) &&& (nI 31)) = 10 ∨ ((E.2 (x4).toNatClampNeg) &&& (nI 31)) = 11 ∨ ((E.2 (x4).toNatClampNeg) &&& (nI 31)) = 12 ∨ ((E.2 (x4).toNatClampNeg) &&& (nI 31)) = 13 ∨ ((E.2 (x4).toNatClampNeg) &&& (nI 31)) = 14 ∨ ((E.2 (x4).toNatClampNeg) &&& (nI 31)) = 15 ∨ ((E.2 (x4).toNatClampNeg) &&& (nI 31)) = 16 ∨ ((E.2 (x4).toNatClampNeg) &&& (nI 31)) = 17 ∨ ((E.2 (x4).toNatClampNeg) &&& (nI 31)) = 18 ∨ ((E.2 (x4).toNatClampNeg) &&& (nI 31)) = 19 ∨ ((E.2 (x4).toNatClampNeg) &&& (nI 31)) = 20 ∨ ((E.2 (x4).toNatClampNeg) &&& (nI 31)) = 21 ∨ ((E.2 (x4).toNatClampNeg) &&& (nI 31)) = 22 ∨ ((E.2 (x4).toNatClampNeg) &&& (nI 31)) = 23 ∨ ((E.2 (x4).toNatClampNeg) &&& (nI 31)) = 24 ∨ ((E.2 (x4).toNatClampNeg) &&& (nI 31)) = 25 ∨ ((E.2 (x4).toNatClampNeg) &&& (nI 31)) = 26 ∨ ((E.2 (x4).toNatClampNeg) &&& (nI 31)) = 27 := x_sw28 hc
      rcases hr with hr | hr | hr | hr | hr | hr | hr | hr | hr | hr | hr | hr | hr | hr | hr | hr | hr | hr | hr | hr | hr | hr | hr | hr | hr | hr | hr | hr
      · refine ⟨128, 168, by rw [hr]; decide +kernel, by decide, ?_⟩
        replace h := h.1 hr
        refine xr_blk (lv1 := [(0, .ref 1000000), (1, .ref 0), (2, .ref 80), (3, .ref 139), (4, .int x4)]) (st1 := [.int (x4 + (nI 1)), .ref 1000000, .ref 0]) (S1 := rt v) (pc1 := 174) [(.aload_n 1, .null, 0, 0), (.aload_n 0, .null, 0, 0), (.iload 4, .null, 0, 0), (.iconst 1, .int (nI 1), 0, 0), (.iadd, .null, 0, 0)] [] (by decide +kernel) rfl trivial ?_
        obtain ⟨hb2, h⟩ := h
        refine xr_sld (by decide +kernel) hb2 ?_
        refine xr_blk (lv1 := [(0, .ref 1000000), (1, .ref 0), (2, .ref 80), (3, .ref 139), (4, .int x4)]) (st1 := [.int (x4 + (nI 2)), .ref 1000000, .int (E.2 ((x4 + (nI 1))).toNatClampNeg), .ref 0]) (S1 := rt v) (pc1 := 180) [(.aload_n 0, .null, 0, 0), (.iload 4, .null, 0, 0), (.iconst 2, .int (nI 2), 0, 0), (.iadd, .null, 0, 0)] [] (by decide +kernel) rfl trivial ?_
        obtain ⟨hb3, h⟩ := h
        refine xr_sld (by decide +kernel) hb3 ?_
        refine xr_blk (lv1 := [(0, .ref 1000000), (1, .ref 0), (2, .ref 80), (3, .ref 139), (4, .int x4)]) (st1 := [.int (x4 + (nI 3)), .ref 1000000, .int (E.2 ((x4 + (nI 2))).toNatClampNeg), .int (E.2 ((x4 + (nI 1))).toNatClampNeg), .ref 0]) (S1 := rt v) (pc1 := 186) [(.aload_n 0, .null, 0, 0), (.iload 4, .null, 0, 0), (.iconst 3, .int (nI 3), 0, 0), (.iadd, .null, 0, 0)] [] (by decide +kernel) rfl trivial ?_
        obtain ⟨hb4, h⟩ := h
        refine xr_sld (by decide +kernel) hb4 ?_
        refine xr_blk (lv1 := [(0, .ref 1000000), (1, .ref 0), (2, .ref 80), (3, .ref 139), (4, .int x4)]) (st1 := [.int (x4 + (nI 4)), .ref 1000000, .int (E.2 ((x4 + (nI 3))).toNatClampNeg), .int (E.2 ((x4 + (nI 2))).toNatClampNeg), .int (E.2 ((x4 + (nI 1))).toNatClampNeg), .ref 0]) (S1 := rt v) (pc1 := 192) [(.aload_n 0, .null, 0, 0), (.iload 4, .null, 0, 0), (.iconst 4, .int (nI 4), 0, 0), (.iadd, .null, 0, 0)] [] (by decide +kernel) rfl trivial ?_
        obtain ⟨hb5, h⟩ := h
        refine xr_sld (by decide +kernel) hb5 ?_
        refine xr_blk (lv1 := [(0, .ref 1000000), (1, .ref 0), (2, .ref 80), (3, .ref 139), (4, .int x4)]) (st1 := [.int (x4 + (nI 5)), .ref 1000000, .int (E.2 ((x4 + (nI 4))).toNatClampNeg), .int (E.2 ((x4 + (nI 3))).toNatClampNeg), .int (E.2 ((x4 + (nI 2))).toNatClampNeg), .int (E.2 ((x4 + (nI 1))).toNatClampNeg), .ref 0]) (S1 := rt v) (pc1 := 198) [(.aload_n 0, .null, 0, 0), (.iload 4, .null, 0, 0), (.iconst 5, .int (nI 5), 0, 0), (.iadd, .null, 0, 0)] [] (by decide +kernel) rfl trivial ?_
        obtain ⟨hb6, h⟩ := h
        refine xr_sld (by decide +kernel) hb6 ?_
        refine xk_VI (As := [.int (E.2 ((x4 + (nI 1))).toNatClampNeg), .int (E.2 ((x4 + (nI 2))).toNatClampNeg), .int (E.2 ((x4 + (nI 3))).toNatClampNeg), .int (E.2 ((x4 + (nI 4))).toNatClampNeg), .int (E.2 ((x4 + (nI 5))).toNatClampNeg)]) (bb := 0) (rest := []) (idx := 19) (i0 := 19) (m1 := 113) (ps := [633, 634, 635]) (by decide +kernel) (by decide +kernel) (by decide) rfl ((gK_s (by decide)).trans (by decide +kernel)) (by decide) (Nat.le_of_ble_eq_true rfl) rfl h (fun y8 v7 h => ?_)
        refine xr_blk (lv1 := [(0, .ref 1000000), (1, .ref 0), (2, .ref 80), (3, .ref 139), (4, .int x4)]) (st1 := [.int (x4 + (nI 1)), .ref 1000000, .ref 80, .int y8]) (S1 := rt v7) (pc1 := 208) [(.aload_n 2, .null, 0, 0), (.aload_n 0, .null, 0, 0), (.iload 4, .null, 0, 0), (.iconst 1, .int (nI 1), 0, 0), (.iadd, .null, 0, 0)] [] (by decide +kernel) rfl trivial ?_
        obtain ⟨hb9, h⟩ := h
        refine xr_sld (by decide +kernel) hb9 ?_
        refine xr_blk (lv1 := [(0, .ref 1000000), (1, .ref 0), (2, .ref 80), (3, .ref 139), (4, .int x4)]) (st1 := [.int (x4 + (nI 2)), .ref 1000000, .int (E.2 ((x4 + (nI 1))).toNatClampNeg), .ref 80, .int y8]) (S1 := rt v7) (pc1 := 214) [(.aload_n 0, .null, 0, 0), (.iload 4, .null, 0, 0), (.iconst 2, .int (nI 2), 0, 0), (.iadd, .null, 0, 0)] [] (by decide +kernel) rfl trivial ?_
        obtain ⟨hb10, h⟩ := h
        refine xr_sld (by decide +kernel) hb10 ?_
        refine xr_blk (lv1 := [(0, .ref 1000000), (1, .ref 0), (2, .ref 80), (3, .ref 139), (4, .int x4)]) (st1 := [.int (x4 + (nI 3)), .ref 1000000, .int (E.2 ((x4 + (nI 2))).toNatClampNeg), .int (E.2 ((x4 + (nI 1))).toNatClampNeg), .ref 80, .int y8]) (S1 := rt v7) (pc1 := 220) [(.aload_n 0, .null, 0, 0), (.iload 4, .null, 0, 0), (.iconst 3, .int (nI 3), 0, 0), (.iadd, .null, 0, 0)] [] (by decide +kernel) rfl trivial ?_
        obtain ⟨hb11, h⟩ := h
        refine xr_sld (by decide +kernel) hb11 ?_
        refine xr_blk (lv1 := [(0, .ref 1000000), (1, .ref 0), (2, .ref 80), (3, .ref 139), (4, .int x4)]) (st1 := [.int (x4 + (nI 4)), .ref 1000000, .int (E.2 ((x4 + (nI 3))).toNatClampNeg), .int (E.2 ((x4 + (nI 2))).toNatClampNeg), .int (E.2 ((x4 + (nI 1))).toNatClampNeg), .ref 80, .int y8]) (S1 := rt v7) (pc1 := 226) [(.aload_n 0, .null, 0, 0), (.iload 4, .null, 0, 0), (.iconst 4, .int (nI 4), 0, 0), (.iadd, .null, 0, 0)] [] (by decide +kernel) rfl trivial ?_
        obtain ⟨hb12, h⟩ := h
        refine xr_sld (by decide +kernel) hb12 ?_
        refine xr_blk (lv1 := [(0, .ref 1000000), (1, .ref 0), (2, .ref 80), (3, .ref 139), (4, .int x4)]) (st1 := [.int (x4 + (nI 5)), .ref 1000000, .int (E.2 ((x4 + (nI 4))).toNatClampNeg), .int (E.2 ((x4 + (nI 3))).toNatClampNeg), .int (E.2 ((x4 + (nI 2))).toNatClampNeg), .int (E.2 ((x4 + (nI 1))).toNatClampNeg), .ref 80, .int y8]) (S1 := rt v7) (pc1 := 232) [(.aload_n 0, .null, 0, 0), (.iload 4, .null, 0, 0), (.iconst 5, .int (nI 5), 0, 0), (.iadd, .null, 0, 0)] [] (by decide +kernel) rfl trivial ?_
        obtain ⟨hb13, h⟩ := h
        refine xr_sld (by decide +kernel) hb13 ?_
        refine xk_VI (As := [.int (E.2 ((x4 + (nI 1))).toNatClampNeg), .int (E.2 ((x4 + (nI 2))).toNatClampNeg), .int (E.2 ((x4 + (nI 3))).toNatClampNeg), .int (E.2 ((x4 + (nI 4))).toNatClampNeg), .int (E.2 ((x4 + (nI 5))).toNatClampNeg)]) (bb := 80) (rest := [.int y8]) (idx := 23) (i0 := 23) (m1 := 149) (ps := [1600, 1601, 1602]) (by decide +kernel) (by decide +kernel) (by decide) rfl ((gK_s (by decide)).trans (by decide +kernel)) (by decide) (Nat.le_of_ble_eq_true rfl) rfl h (fun y15 v14 h => ?_)
        refine xr_ic_eq (tgt := 1351) (off := 1115) (by decide +kernel) (by decide) (fun hc => ?_) (fun hc => ?_)
        · replace h := h.1 hc
          refine xr_blk (lv1 := [(4, .int (x4 + (nI 6))), (0, .ref 1000000), (1, .ref 0), (2, .ref 80), (3, .ref 139)]) (st1 := []) (S1 := rt v14) (pc1 := 1354) [(.iinc 4 6, .int (nI 6), 0, 0)] [] (by decide +kernel) rfl trivial ?_
          refine xr_goto (tgt := 23) (off := -1331) (by decide +kernel) (by decide) ?_
          exact x_R.sub [1, 2, 3, 4, 0] rfl h
        · replace h := h.2 hc
          refine xr_blk (lv1 := [(0, .ref 1000000), (1, .ref 0), (2, .ref 80), (3, .ref 139), (4, .int x4)]) (st1 := [.int (nI 0)]) (S1 := rt v14) (pc1 := 240) [(.iconst 0, .int (nI 0), 0, 0)] [] (by decide +kernel) rfl trivial ?_
          exact xr_zret (by decide +kernel) rfl x_in2_0 ⟨_, _, rfl, rfl, h⟩
      · refine ⟨201, 241, by rw [hr]; decide +kernel, by decide, ?_⟩
        replace h := h.2.1 hr
        refine xr_blk (lv1 := [(0, .ref 1000000), (1, .ref 0), (2, .ref 80), (3, .ref 139), (4, .int x4)]) (st1 := [.int (x4 + (nI 1)), .ref 1000000, .ref 0]) (S1 := rt v) (pc1 := 247) [(.aload_n 1, .null, 0, 0), (.aload_n 0, .null, 0, 0), (.iload 4, .null, 0, 0), (.iconst 1, .int (nI 1), 0, 0), (.iadd, .null, 0, 0)] [] (by decide +kernel) rfl trivial ?_
        obtain ⟨hb16, h⟩ := h
        refine xr_sld (by decide +kernel) hb16 ?_
        refine xk_VI (As := [.int (E.2 ((x4 + (nI 1))).toNatClampNeg)]) (bb := 0) (rest := []) (idx := 24) (i0 := 24) (m1 := 114) (ps := [641, 642, 643]) (by decide +kernel) (by decide +kernel) (by decide) rfl ((gK_s (by decide)).trans (by decide +kernel)) (by decide) (Nat.le_of_ble_eq_true rfl) rfl h (fun y18 v17 h => ?_)
        refine xr_blk (lv1 := [(0, .ref 1000000), (1, .ref 0), (2, .ref 80), (3, .ref 139), (4, .int x4)]) (st1 := [.int (x4 + (nI 1)), .ref 1000000, .ref 80, .int y18]) (S1 := rt v17) (pc1 := 257) [(.aload_n 2, .null, 0, 0), (.aload_n 0, .null, 0, 0), (.iload 4, .null, 0, 0), (.iconst 1, .int (nI 1), 0, 0), (.iadd, .null, 0, 0)] [] (by decide +kernel) rfl trivial ?_
        obtain ⟨hb19, h⟩ := h
        refine xr_sld (by decide +kernel) hb19 ?_
        refine xk_VI (As := [.int (E.2 ((x4 + (nI 1))).toNatClampNeg)]) (bb := 80) (rest := [.int y18]) (idx := 28) (i0 := 28) (m1 := 150) (ps := [1608, 1609, 1610]) (by decide +kernel) (by decide +kernel) (by decide) rfl ((gK_s (by decide)).trans (by decide +kernel)) (by decide) (Nat.le_of_ble_eq_true rfl) rfl h (fun y21 v20 h => ?_)
        refine xr_ic_eq (tgt := 1351) (off := 1090) (by decide +kernel) (by decide) (fun hc => ?_) (fun hc => ?_)
        · replace h := h.1 hc
          refine xr_blk (lv1 := [(4, .int (x4 + (nI 6))), (0, .ref 1000000), (1, .ref 0), (2, .ref 80), (3, .ref 139)]) (st1 := []) (S1 := rt v20) (pc1 := 1354) [(.iinc 4 6, .int (nI 6), 0, 0)] [] (by decide +kernel) rfl trivial ?_
          refine xr_goto (tgt := 23) (off := -1331) (by decide +kernel) (by decide) ?_
          exact x_R.sub [1, 2, 3, 4, 0] rfl h
        · replace h := h.2 hc
          refine xr_blk (lv1 := [(0, .ref 1000000), (1, .ref 0), (2, .ref 80), (3, .ref 139), (4, .int x4)]) (st1 := [.int (nI 0)]) (S1 := rt v20) (pc1 := 265) [(.iconst 0, .int (nI 0), 0, 0)] [] (by decide +kernel) rfl trivial ?_
          exact xr_zret (by decide +kernel) rfl x_in2_0 ⟨_, _, rfl, rfl, h⟩
      · refine ⟨226, 266, by rw [hr]; decide +kernel, by decide, ?_⟩
        replace h := h.2.2.1 hr
        refine xr_blk (lv1 := [(0, .ref 1000000), (1, .ref 0), (2, .ref 80), (3, .ref 139), (4, .int x4)]) (st1 := [.int (x4 + (nI 1)), .ref 1000000, .ref 0]) (S1 := rt v) (pc1 := 272) [(.aload_n 1, .null, 0, 0), (.aload_n 0, .null, 0, 0), (.iload 4, .null, 0, 0), (.iconst 1, .int (nI 1), 0, 0), (.iadd, .null, 0, 0)] [] (by decide +kernel) rfl trivial ?_
        obtain ⟨hb22, h⟩ := h
        refine xr_sld (by decide +kernel) hb22 ?_
        refine xk_VI (As := [.int (E.2 ((x4 + (nI 1))).toNatClampNeg)]) (bb := 0) (rest := []) (idx := 29) (i0 := 29) (m1 := 115) (ps := [645, 646, 647]) (by decide +kernel) (by decide +kernel) (by decide) rfl ((gK_s (by decide)).trans (by decide +kernel)) (by decide) (Nat.le_of_ble_eq_true rfl) rfl h (fun y24 v23 h => ?_)
        refine xr_blk (lv1 := [(0, .ref 1000000), (1, .ref 0), (2, .ref 80), (3, .ref 139), (4, .int x4)]) (st1 := [.int (x4 + (nI 1)), .ref 1000000, .ref 80, .int y24]) (S1 := rt v23) (pc1 := 282) [(.aload_n 2, .null, 0, 0), (.aload_n 0, .null, 0, 0), (.iload 4, .null, 0, 0), (.iconst 1, .int (nI 1), 0, 0), (.iadd, .null, 0, 0)] [] (by decide +kernel) rfl trivial ?_
        obtain ⟨hb25, h⟩ := h
        refine xr_sld (by decide +kernel) hb25 ?_
        refine xk_VI (As := [.int (E.2 ((x4 + (nI 1))).toNatClampNeg)]) (bb := 80) (rest := [.int y24]) (idx := 32) (i0 := 32) (m1 := 153) (ps := [1612, 1613, 1614]) (by decide +kernel) (by decide +kernel) (by decide) rfl ((gK_s (by decide)).trans (by decide +kernel)) (by decide) (Nat.le_of_ble_eq_true rfl) rfl h (fun y27 v26 h => ?_)
        refine xr_ic_eq (tgt := 1351) (off := 1065) (by decide +kernel) (by decide) (fun hc => ?_) (fun hc => ?_)
        · replace h := h.1 hc
          refine xr_blk (lv1 := [(4, .int (x4 + (nI 6))), (0, .ref 1000000), (1, .ref 0), (2, .ref 80), (3, .ref 139)]) (st1 := []) (S1 := rt v26) (pc1 := 1354) [(.iinc 4 6, .int (nI 6), 0, 0)] [] (by decide +kernel) rfl trivial ?_
          refine xr_goto (tgt := 23) (off := -1331) (by decide +kernel) (by decide) ?_
          exact x_R.sub [1, 2, 3, 4, 0] rfl h
        · replace h := h.2 hc
          refine xr_blk (lv1 := [(0, .ref 1000000), (1, .ref 0), (2, .ref 80), (3, .ref 139), (4, .int x4)]) (st1 := [.int (nI 0)]) (S1 := rt v26) (pc1 := 290) [(.iconst 0, .int (nI 0), 0, 0)] [] (by decide +kernel) rfl trivial ?_
          exact xr_zret (by decide +kernel) rfl x_in2_0 ⟨_, _, rfl, rfl, h⟩
      · refine ⟨251, 291, by rw [hr]; decide +kernel, by decide, ?_⟩
        replace h := h.2.2.2.1 hr
        refine xr_blk (lv1 := [(0, .ref 1000000), (1, .ref 0), (2, .ref 80), (3, .ref 139), (4, .int x4)]) (st1 := [.int (x4 + (nI 1)), .ref 1000000, .ref 0]) (S1 := rt v) (pc1 := 297) [(.aload_n 1, .null, 0, 0), (.aload_n 0, .null, 0, 0), (.iload 4, .null, 0, 0), (.iconst 1, .int (nI 1), 0, 0), (.iadd, .null, 0, 0)] [] (by decide +kernel) rfl trivial ?_
        obtain ⟨hb28, h⟩ := h
        refine xr_sld (by decide +kernel) hb28 ?_
        refine xr_blk (lv1 := [(0, .ref 1000000), (1, .ref 0), (2, .ref 80), (3, .ref 139), (4, .int x4)]) (st1 := [.int (x4 + (nI 2)), .ref 1000000, .int (E.2 ((x4 + (nI 1))).toNatClampNeg), .ref 0]) (S1 := rt v) (pc1 := 303) [(.aload_n 0, .null, 0, 0), (.iload 4, .null, 0, 0), (.iconst 2, .int (nI 2), 0, 0), (.iadd, .null, 0, 0)] [] (by decide +kernel) rfl trivial ?_
        obtain ⟨hb29, h⟩ := h
        refine xr_sld (by decide +kernel) hb29 ?_
        refine xk_VI (As := [.int (E.2 ((x4 + (nI 1))).toNatClampNeg), .int (E.2 ((x4 + (nI 2))).toNatClampNeg)]) (bb := 0) (rest := []) (idx := 33) (i0 := 33) (m1 := 116) (ps := [649, 650, 651]) (by decide +kernel) (by decide +kernel) (by decide) rfl ((gK_s (by decide)).trans (by decide +kernel)) (by decide) (Nat.le_of_ble_eq_true rfl) rfl h (fun y31 v30 h => ?_)
        refine xr_blk (lv1 := [(0, .ref 1000000), (1, .ref 0), (2, .ref 80), (3, .ref 139), (4, .int x4)]) (st1 := [.int (x4 + (nI 1)), .ref 1000000, .ref 80, .int y31]) (S1 := rt v30) (pc1 := 313) [(.aload_n 2, .null, 0, 0), (.aload_n 0, .null, 0, 0), (.iload 4, .null, 0, 0), (.iconst 1, .int (nI 1), 0, 0), (.iadd, .null, 0, 0)] [] (by decide +kernel) rfl trivial ?_
        obtain ⟨hb32, h⟩ := h
        refine xr_sld (by decide +kernel) hb32 ?_
        refine xr_blk (lv1 := [(0, .ref 1000000), (1, .ref 0), (2, .ref 80), (3, .ref 139), (4, .int x4)]) (st1 := [.int (x4 + (nI 2)), .ref 1000000, .int (E.2 ((x4 + (nI 1))).toNatClampNeg), .ref 80, .int y31]) (S1 := rt v30) (pc1 := 319) [(.aload_n 0, .null, 0, 0), (.iload 4, .null, 0, 0), (.iconst 2, .int (nI 2), 0, 0), (.iadd, .null, 0, 0)] [] (by decide +kernel) rfl trivial ?_
        obtain ⟨hb33, h⟩ := h
        refine xr_sld (by decide +kernel) hb33 ?_
        refine xk_VI (As := [.int (E.2 ((x4 + (nI 1))).toNatClampNeg), .int (E.2 ((x4 + (nI 2))).toNatClampNeg)]) (bb := 80) (rest := [.int y31]) (idx := 37) (i0 := 37) (m1 := 155) (ps := [1619, 1620, 1621]) (by decide +kernel) (by decide +kernel) (by decide) rfl ((gK_s (by decide)).trans (by decide +kernel)) (by decide) (Nat.le_of_ble_eq_true rfl) rfl h (fun y35 v34 h => ?_)
        refine xr_ic_eq (tgt := 1351) (off := 1028) (by decide +kernel) (by decide) (fun hc => ?_) (fun hc => ?_)
        · replace h := h.1 hc
          refine xr_blk (lv1 := [(4, .int (x4 + (nI 6))), (0, .ref 1000000), (1, .ref 0), (2, .ref 80), (3, .ref 139)]) (st1 := []) (S1 := rt v34) (pc1 := 1354) [(.iinc 4 6, .int (nI 6), 0, 0)] [] (by decide +kernel) rfl trivial ?_
          refine xr_goto (tgt := 23) (off := -1331) (by decide +kernel) (by decide) ?_
          exact x_R.sub [1, 2, 3, 4, 0] rfl h
        · replace h := h.2 hc
          refine xr_blk (lv1 := [(0, .ref 1000000), (1, .ref 0), (2, .ref 80), (3, .ref 139), (4, .int x4)]) (st1 := [.int (nI 0)]) (S1 := rt v34) (pc1 := 327) [(.iconst 0, .int (nI 0), 0, 0)] [] (by decide +kernel) rfl trivial ?_
          exact xr_zret (by decide +kernel) rfl x_in2_0 ⟨_, _, rfl, rfl, h⟩
      · refine ⟨288, 328, by rw [hr]; decide +kernel, by decide, ?_⟩
        replace h := h.2.2.2.2.1 hr
        refine xr_blk (lv1 := [(0, .ref 1000000), (1, .ref 0), (2, .ref 80), (3, .ref 139), (4, .int x4)]) (st1 := [.int (x4 + (nI 1)), .ref 1000000, .ref 0]) (S1 := rt v) (pc1 := 334) [(.aload_n 1, .null, 0, 0), (.aload_n 0, .null, 0, 0), (.iload 4, .null, 0, 0), (.iconst 1, .int (nI 1), 0, 0), (.iadd, .null, 0, 0)] [] (by decide +kernel) rfl trivial ?_
        obtain ⟨hb36, h⟩ := h
        refine xr_sld (by decide +kernel) hb36 ?_
        refine xk_VI (As := [.int (E.2 ((x4 + (nI 1))).toNatClampNeg)]) (bb := 0) (rest := []) (idx := 38) (i0 := 38) (m1 := 117) (ps := [664, 665, 666]) (by decide +kernel) (by decide +kernel) (by decide) rfl ((gK_s (by decide)).trans (by decide +kernel)) (by decide) (Nat.le_of_ble_eq_true rfl) rfl h (fun y38 v37 h => ?_)
        refine xr_blk (lv1 := [(0, .ref 1000000), (1, .ref 0), (2, .ref 80), (3, .ref 139), (4, .int x4)]) (st1 := [.int (x4 + (nI 1)), .ref 1000000, .ref 80, .int y38]) (S1 := rt v37) (pc1 := 344) [(.aload_n 2, .null, 0, 0), (.aload_n 0, .null, 0, 0), (.iload 4, .null, 0, 0), (.iconst 1, .int (nI 1), 0, 0), (.iadd, .null, 0, 0)] [] (by decide +kernel) rfl trivial ?_
        obtain ⟨hb39, h⟩ := h
        refine xr_sld (by decide +kernel) hb39 ?_
        refine xk_VI (As := [.int (E.2 ((x4 + (nI 1))).toNatClampNeg)]) (bb := 80) (rest := [.int y38]) (idx := 41) (i0 := 41) (m1 := 157) (ps := [1623, 1624, 1625]) (by decide +kernel) (by decide +kernel) (by decide) rfl ((gK_s (by decide)).trans (by decide +kernel)) (by decide) (Nat.le_of_ble_eq_true rfl) rfl h (fun y41 v40 h => ?_)
        refine xr_ic_eq (tgt := 1351) (off := 1003) (by decide +kernel) (by decide) (fun hc => ?_) (fun hc => ?_)
        · replace h := h.1 hc
          refine xr_blk (lv1 := [(4, .int (x4 + (nI 6))), (0, .ref 1000000), (1, .ref 0), (2, .ref 80), (3, .ref 139)]) (st1 := []) (S1 := rt v40) (pc1 := 1354) [(.iinc 4 6, .int (nI 6), 0, 0)] [] (by decide +kernel) rfl trivial ?_
          refine xr_goto (tgt := 23) (off := -1331) (by decide +kernel) (by decide) ?_
          exact x_R.sub [1, 2, 3, 4, 0] rfl h
        · replace h := h.2 hc
          refine xr_blk (lv1 := [(0, .ref 1000000), (1, .ref 0), (2, .ref 80), (3, .ref 139), (4, .int x4)]) (st1 := [.int (nI 0)]) (S1 := rt v40) (pc1 := 352) [(.iconst 0, .int (nI 0), 0, 0)] [] (by decide +kernel) rfl trivial ?_
          exact xr_zret (by decide +kernel) rfl x_in2_0 ⟨_, _, rfl, rfl, h⟩
      · refine ⟨313, 353, by rw [hr]; decide +kernel, by decide, ?_⟩
        replace h := h.2.2.2.2.2.1 hr
        refine xr_blk (lv1 := [(0, .ref 1000000), (1, .ref 0), (2, .ref 80), (3, .ref 139), (4, .int x4)]) (st1 := [.int (x4 + (nI 1)), .ref 1000000, .ref 0]) (S1 := rt v) (pc1 := 359) [(.aload_n 1, .null, 0, 0), (.aload_n 0, .null, 0, 0), (.iload 4, .null, 0, 0), (.iconst 1, .int (nI 1), 0, 0), (.iadd, .null, 0, 0)] [] (by decide +kernel) rfl trivial ?_
        obtain ⟨hb42, h⟩ := h
        refine xr_sld (by decide +kernel) hb42 ?_
        refine xr_blk (lv1 := [(0, .ref 1000000), (1, .ref 0), (2, .ref 80), (3, .ref 139), (4, .int x4)]) (st1 := [.int (x4 + (nI 2)), .ref 1000000, .int (E.2 ((x4 + (nI 1))).toNatClampNeg), .ref 0]) (S1 := rt v) (pc1 := 365) [(.aload_n 0, .null, 0, 0), (.iload 4, .null, 0, 0), (.iconst 2, .int (nI 2), 0, 0), (.iadd, .null, 0, 0)] [] (by decide +kernel) rfl trivial ?_
        obtain ⟨hb43, h⟩ := h
        refine xr_sld (by decide +kernel) hb43 ?_
        refine xr_blk (lv1 := [(0, .ref 1000000), (1, .ref 0), (2, .ref 80), (3, .ref 139), (4, .int x4)]) (st1 := [.int (x4 + (nI 3)), .ref 1000000, .int (E.2 ((x4 + (nI 2))).toNatClampNeg), .int (E.2 ((x4 + (nI 1))).toNatClampNeg), .ref 0]) (S1 := rt v) (pc1 := 371) [(.aload_n 0, .null, 0, 0), (.iload 4, .null, 0, 0), (.iconst 3, .int (nI 3), 0, 0), (.iadd, .null, 0, 0)] [] (by decide +kernel) rfl trivial ?_
        obtain ⟨hb44, h⟩ := h
        refine xr_sld (by decide +kernel) hb44 ?_
        refine xk_VI (As := [.int (E.2 ((x4 + (nI 1))).toNatClampNeg), .int (E.2 ((x4 + (nI 2))).toNatClampNeg), .int (E.2 ((x4 + (nI 3))).toNatClampNeg)]) (bb := 0) (rest := []) (idx := 42) (i0 := 42) (m1 := 118) (ps := [687, 688, 689]) (by decide +kernel) (by decide +kernel) (by decide) rfl ((gK_s (by decide)).trans (by decide +kernel)) (by decide) (Nat.le_of_ble_eq_true rfl) rfl h (fun y46 v45 h => ?_)
        refine xr_blk (lv1 := [(0, .ref 1000000), (1, .ref 0), (2, .ref 80), (3, .ref 139), (4, .int x4)]) (st1 := [.int (x4 + (nI 1)), .ref 1000000, .ref 80, .int y46]) (S1 := rt v45) (pc1 := 381) [(.aload_n 2, .null, 0, 0), (.aload_n 0, .null, 0, 0), (.iload 4, .null, 0, 0), (.iconst 1, .int (nI 1), 0, 0), (.iadd, .null, 0, 0)] [] (by decide +kernel) rfl trivial ?_
        obtain ⟨hb47, h⟩ := h
        refine xr_sld (by decide +kernel) hb47 ?_
        refine xr_blk (lv1 := [(0, .ref 1000000), (1, .ref 0), (2, .ref 80), (3, .ref 139), (4, .int x4)]) (st1 := [.int (x4 + (nI 2)), .ref 1000000, .int (E.2 ((x4 + (nI 1))).toNatClampNeg), .ref 80, .int y46]) (S1 := rt v45) (pc1 := 387) [(.aload_n 0, .null, 0, 0), (.iload 4, .null, 0, 0), (.iconst 2, .int (nI 2), 0, 0), (.iadd, .null, 0, 0)] [] (by decide +kernel) rfl trivial ?_
        obtain ⟨hb48, h⟩ := h
        refine xr_sld (by decide +kernel) hb48 ?_
        refine xr_blk (lv1 := [(0, .ref 1000000), (1, .ref 0), (2, .ref 80), (3, .ref 139), (4, .int x4)]) (st1 := [.int (x4 + (nI 3)), .ref 1000000, .int (E.2 ((x4 + (nI 2))).toNatClampNeg), .int (E.2 ((x4 + (nI 1))).toNatClampNeg), .ref 80, .int y46]) (S1 := rt v45) (pc1 := 393) [(.aload_n 0, .null, 0, 0), (.iload 4, .null, 0, 0), (.iconst 3, .int (nI 3), 0, 0), (.iadd, .null, 0, 0)] [] (by decide +kernel) rfl trivial ?_
        obtain ⟨hb49, h⟩ := h
        refine xr_sld (by decide +kernel) hb49 ?_
        refine xk_VI (As := [.int (E.2 ((x4 + (nI 1))).toNatClampNeg), .int (E.2 ((x4 + (nI 2))).toNatClampNeg), .int (E.2 ((x4 + (nI 3))).toNatClampNeg)]) (bb := 80) (rest := [.int y46]) (idx := 46) (i0 := 46) (m1 := 159) (ps := [1638, 1639, 1640]) (by decide +kernel) (by decide +kernel) (by decide) rfl ((gK_s (by decide)).trans (by decide +kernel)) (by decide) (Nat.le_of_ble_eq_true rfl) rfl h (fun y51 v50 h => ?_)
        refine xr_ic_eq (tgt := 1351) (off := 954) (by decide +kernel) (by decide) (fun hc => ?_) (fun hc => ?_)
        · replace h := h.1 hc
          refine xr_blk (lv1 := [(4, .int (x4 + (nI 6))), (0, .ref 1000000), (1, .ref 0), (2, .ref 80), (3, .ref 139)]) (st1 := []) (S1 := rt v50) (pc1 := 1354) [(.iinc 4 6, .int (nI 6), 0, 0)] [] (by decide +kernel) rfl trivial ?_
          refine xr_goto (tgt := 23) (off := -1331) (by decide +kernel) (by decide) ?_
          exact x_R.sub [1, 2, 3, 4, 0] rfl h
        · replace h := h.2 hc
          refine xr_blk (lv1 := [(0, .ref 1000000), (1, .ref 0), (2, .ref 80), (3, .ref 139), (4, .int x4)]) (st1 := [.int (nI 0)]) (S1 := rt v50) (pc1 := 401) [(.iconst 0, .int (nI 0), 0, 0)] [] (by decide +kernel) rfl trivial ?_
          exact xr_zret (by decide +kernel) rfl x_in2_0 ⟨_, _, rfl, rfl, h⟩
      · refine ⟨362, 402, by rw [hr]; decide +kernel, by decide, ?_⟩
        replace h := h.2.2.2.2.2.2.1 hr
        refine xr_blk (lv1 := [(0, .ref 1000000), (1, .ref 0), (2, .ref 80), (3, .ref 139), (4, .int x4)]) (st1 := [.int (x4 + (nI 1)), .ref 1000000, .ref 0]) (S1 := rt v) (pc1 := 408) [(.aload_n 1, .null, 0, 0), (.aload_n 0, .null, 0, 0), (.iload 4, .null, 0, 0), (.iconst 1, .int (nI 1), 0, 0), (.iadd, .null, 0, 0)] [] (by decide +kernel) rfl trivial ?_
        obtain ⟨hb52, h⟩ := h
        refine xr_sld (by decide +kernel) hb52 ?_
        refine xr_blk (lv1 := [(0, .ref 1000000), (1, .ref 0), (2, .ref 80), (3, .ref 139), (4, .int x4)]) (st1 := [.int (x4 + (nI 2)), .ref 1000000, .int (E.2 ((x4 + (nI 1))).toNatClampNeg), .ref 0]) (S1 := rt v) (pc1 := 414) [(.aload_n 0, .null, 0, 0), (.iload 4, .null, 0, 0), (.iconst 2, .int (nI 2), 0, 0), (.iadd, .null, 0, 0)] [] (by decide +kernel) rfl trivial ?_
        obtain ⟨hb53, h⟩ := h
        refine xr_sld (by decide +kernel) hb53 ?_
        refine xk_VI (As := [.int (E.2 ((x4 + (nI 1))).toNatClampNeg), .int (E.2 ((x4 + (nI 2))).toNatClampNeg)]) (bb := 0) (rest := []) (idx := 47) (i0 := 47) (m1 := 119) (ps := [705, 706, 707]) (by decide +kernel) (by decide +kernel) (by decide) rfl ((gK_s (by decide)).trans (by decide +kernel)) (by decide) (Nat.le_of_ble_eq_true rfl) rfl h (fun y55 v54 h => ?_)
        refine xr_blk (lv1 := [(0, .ref 1000000), (1, .ref 0), (2, .ref 80), (3, .ref 139), (4, .int x4)]) (st1 := [.int (x4 + (nI 1)), .ref 1000000, .ref 80, .int y55]) (S1 := rt v54) (pc1 := 424) [(.aload_n 2, .null, 0, 0), (.aload_n 0, .null, 0, 0), (.iload 4, .null, 0, 0), (.iconst 1, .int (nI 1), 0, 0), (.iadd, .null, 0, 0)] [] (by decide +kernel) rfl trivial ?_
        obtain ⟨hb56, h⟩ := h
        refine xr_sld (by decide +kernel) hb56 ?_
        refine xr_blk (lv1 := [(0, .ref 1000000), (1, .ref 0), (2, .ref 80), (3, .ref 139), (4, .int x4)]) (st1 := [.int (x4 + (nI 2)), .ref 1000000, .int (E.2 ((x4 + (nI 1))).toNatClampNeg), .ref 80, .int y55]) (S1 := rt v54) (pc1 := 430) [(.aload_n 0, .null, 0, 0), (.iload 4, .null, 0, 0), (.iconst 2, .int (nI 2), 0, 0), (.iadd, .null, 0, 0)] [] (by decide +kernel) rfl trivial ?_
        obtain ⟨hb57, h⟩ := h
        refine xr_sld (by decide +kernel) hb57 ?_
        refine xk_VI (As := [.int (E.2 ((x4 + (nI 1))).toNatClampNeg), .int (E.2 ((x4 + (nI 2))).toNatClampNeg)]) (bb := 80) (rest := [.int y55]) (idx := 50) (i0 := 50) (m1 := 160) (ps := [1645, 1646, 1647]) (by decide +kernel) (by decide +kernel) (by decide) rfl ((gK_s (by decide)).trans (by decide +kernel)) (by decide) (Nat.le_of_ble_eq_true rfl) rfl h (fun y59 v58 h => ?_)
        refine xr_ic_eq (tgt := 1351) (off := 917) (by decide +kernel) (by decide) (fun hc => ?_) (fun hc => ?_)
        · replace h := h.1 hc
          refine xr_blk (lv1 := [(4, .int (x4 + (nI 6))), (0, .ref 1000000), (1, .ref 0), (2, .ref 80), (3, .ref 139)]) (st1 := []) (S1 := rt v58) (pc1 := 1354) [(.iinc 4 6, .int (nI 6), 0, 0)] [] (by decide +kernel) rfl trivial ?_
          refine xr_goto (tgt := 23) (off := -1331) (by decide +kernel) (by decide) ?_
          exact x_R.sub [1, 2, 3, 4, 0] rfl h
        · replace h := h.2 hc
          refine xr_blk (lv1 := [(0, .ref 1000000), (1, .ref 0), (2, .ref 80), (3, .ref 139), (4, .int x4)]) (st1 := [.int (nI 0)]) (S1 := rt v58) (pc1 := 438) [(.iconst 0, .int (nI 0), 0, 0)] [] (by decide +kernel) rfl trivial ?_
          exact xr_zret (by decide +kernel) rfl x_in2_0 ⟨_, _, rfl, rfl, h⟩
      · refine ⟨399, 439, by rw [hr]; decide +kernel, by decide, ?_⟩
        replace h := h.2.2.2.2.2.2.2.1 hr
        refine xr_blk (lv1 := [(0, .ref 1000000), (1, .ref 0), (2, .ref 80), (3, .ref 139), (4, .int x4)]) (st1 := [.int (x4 + (nI 1)), .ref 1000000, .ref 0]) (S1 := rt v) (pc1 := 445) [(.aload_n 1, .null, 0, 0), (.aload_n 0, .null, 0, 0), (.iload 4, .null, 0, 0), (.iconst 1, .int (nI 1), 0, 0), (.iadd, .null, 0, 0)] [] (by decide +kernel) rfl trivial ?_
        obtain ⟨hb60, h⟩ := h
        refine xr_sld (by decide +kernel) hb60 ?_
        refine xr_blk (lv1 := [(0, .ref 1000000), (1, .ref 0), (2, .ref 80), (3, .ref 139), (4, .int x4)]) (st1 := [.int (x4 + (nI 2)), .ref 1000000, .int (E.2 ((x4 + (nI 1))).toNatClampNeg), .ref 0]) (S1 := rt v) (pc1 := 451) [(.aload_n 0, .null, 0, 0), (.iload 4, .null, 0, 0), (.iconst 2, .int (nI 2), 0, 0), (.iadd, .null, 0, 0)] [] (by decide +kernel) rfl trivial ?_
        obtain ⟨hb61, h⟩ := h
        refine xr_sld (by decide +kernel) hb61 ?_
        refine xr_blk (lv1 := [(0, .ref 1000000), (1, .ref 0), (2, .ref 80), (3, .ref 139), (4, .int x4)]) (st1 := [.int (x4 + (nI 3)), .ref 1000000, .int (E.2 ((x4 + (nI 2))).toNatClampNeg), .int (E.2 ((x4 + (nI 1))).toNatClampNeg), .ref 0]) (S1 := rt v) (pc1 := 457) [(.aload_n 0, .null, 0, 0), (.iload 4, .null, 0, 0), (.iconst 3, .int (nI 3), 0, 0), (.iadd, .null, 0, 0)] [] (by decide +kernel) rfl trivial ?_
        obtain ⟨hb62, h⟩ := h
        refine xr_sld (by decide +kernel) hb62 ?_
        refine xk_VI (As := [.int (E.2 ((x4 + (nI 1))).toNatClampNeg), .int (E.2 ((x4 + (nI 2))).toNatClampNeg), .int (E.2 ((x4 + (nI 3))).toNatClampNeg)]) (bb := 0) (rest := []) (idx := 51) (i0 := 51) (m1 := 120) (ps := [713, 714, 715]) (by decide +kernel) (by decide +kernel) (by decide) rfl ((gK_s (by decide)).trans (by decide +kernel)) (by decide) (Nat.le_of_ble_eq_true rfl) rfl h (fun y64 v63 h => ?_)
        refine xr_blk (lv1 := [(0, .ref 1000000), (1, .ref 0), (2, .ref 80), (3, .ref 139), (4, .int x4)]) (st1 := [.int (x4 + (nI 1)), .ref 1000000, .ref 80, .int y64]) (S1 := rt v63) (pc1 := 467) [(.aload_n 2, .null, 0, 0), (.aload_n 0, .null, 0, 0), (.iload 4, .null, 0, 0), (.iconst 1, .int (nI 1), 0, 0), (.iadd, .null, 0, 0)] [] (by decide +kernel) rfl trivial ?_
        obtain ⟨hb65, h⟩ := h
        refine xr_sld (by decide +kernel) hb65 ?_
        refine xr_blk (lv1 := [(0, .ref 1000000), (1, .ref 0), (2, .ref 80), (3, .ref 139), (4, .int x4)]) (st1 := [.int (x4 + (nI 2)), .ref 1000000, .int (E.2 ((x4 + (nI 1))).toNatClampNeg), .ref 80, .int y64]) (S1 := rt v63) (pc1 := 473) [(.aload_n 0, .null, 0, 0), (.iload 4, .null, 0, 0), (.iconst 2, .int (nI 2), 0, 0), (.iadd, .null, 0, 0)] [] (by decide +kernel) rfl trivial ?_
        obtain ⟨hb66, h⟩ := h
        refine xr_sld (by decide +kernel) hb66 ?_
        refine xr_blk (lv1 := [(0, .ref 1000000), (1, .ref 0), (2, .ref 80), (3, .ref 139), (4, .int x4)]) (st1 := [.int (x4 + (nI 3)), .ref 1000000, .int (E.2 ((x4 + (nI 2))).toNatClampNeg), .int (E.2 ((x4 + (nI 1))).toNatClampNeg), .ref 80, .int y64]) (S1 := rt v63) (pc1 := 479) [(.aload_n 0, .null, 0, 0), (.iload 4, .null, 0, 0), (.iconst 3, .int (nI 3), 0, 0), (.iadd, .null, 0, 0)] [] (by decide +kernel) rfl trivial ?_
        obtain ⟨hb67, h⟩ := h
        refine xr_sld (by decide +kernel) hb67 ?_
        refine xk_VI (As := [.int (E.2 ((x4 + (nI 1))).toNatClampNeg), .int (E.2 ((x4 + (nI 2))).toNatClampNeg), .int (E.2 ((x4 + (nI 3))).toNatClampNeg)]) (bb := 80) (rest := [.int y64]) (idx := 55) (i0 := 55) (m1 := 161) (ps := [1649, 1650, 1651]) (by decide +kernel) (by decide +kernel) (by decide) rfl ((gK_s (by decide)).trans (by decide +kernel)) (by decide) (Nat.le_of_ble_eq_true rfl) rfl h (fun y69 v68 h => ?_)
        refine xr_ic_eq (tgt := 1351) (off := 868) (by decide +kernel) (by decide) (fun hc => ?_) (fun hc => ?_)
        · replace h := h.1 hc
          refine xr_blk (lv1 := [(4, .int (x4 + (nI 6))), (0, .ref 1000000), (1, .ref 0), (2, .ref 80), (3, .ref 139)]) (st1 := []) (S1 := rt v68) (pc1 := 1354) [(.iinc 4 6, .int (nI 6), 0, 0)] [] (by decide +kernel) rfl trivial ?_
          refine xr_goto (tgt := 23) (off := -1331) (by decide +kernel) (by decide) ?_
          exact x_R.sub [1, 2, 3, 4, 0] rfl h
        · replace h := h.2 hc
          refine xr_blk (lv1 := [(0, .ref 1000000), (1, .ref 0), (2, .ref 80), (3, .ref 139), (4, .int x4)]) (st1 := [.int (nI 0)]) (S1 := rt v68) (pc1 := 487) [(.iconst 0, .int (nI 0), 0, 0)] [] (by decide +kernel) rfl trivial ?_
          exact xr_zret (by decide +kernel) rfl x_in2_0 ⟨_, _, rfl, rfl, h⟩
      · refine ⟨448, 488, by rw [hr]; decide +kernel, by decide, ?_⟩
        replace h := h.2.2.2.2.2.2.2.2.1 hr
        refine xr_blk (lv1 := [(0, .ref 1000000), (1, .ref 0), (2, .ref 80), (3, .ref 139), (4, .int x4)]) (st1 := [.ref 0]) (S1 := rt v) (pc1 := 489) [(.aload_n 1, .null, 0, 0)] [] (by decide +kernel) rfl trivial ?_
        refine xk_VI (As := []) (bb := 0) (rest := []) (idx := 56) (i0 := 56) (m1 := 121) (ps := [725, 726, 727]) (by decide +kernel) (by decide +kernel) (by decide) rfl ((gK_s (by decide)).trans (by decide +kernel)) (by decide) (Nat.le_of_ble_eq_true rfl) rfl h (fun y71 v70 h => ?_)
        refine xr_blk (lv1 := [(0, .ref 1000000), (1, .ref 0), (2, .ref 80), (3, .ref 139), (4, .int x4)]) (st1 := [.ref 80, .int y71]) (S1 := rt v70) (pc1 := 493) [(.aload_n 2, .null, 0, 0)] [] (by decide +kernel) rfl trivial ?_
        refine xk_VI (As := []) (bb := 80) (rest := [.int y71]) (idx := 60) (i0 := 60) (m1 := 169) (ps := [1657, 1658, 1659]) (by decide +kernel) (by decide +kernel) (by decide) rfl ((gK_s (by decide)).trans (by decide +kernel)) (by decide) (Nat.le_of_ble_eq_true rfl) rfl h (fun y73 v72 h => ?_)
        refine xr_ic_eq (tgt := 1351) (off := 855) (by decide +kernel) (by decide) (fun hc => ?_) (fun hc => ?_)
        · replace h := h.1 hc
          refine xr_blk (lv1 := [(4, .int (x4 + (nI 6))), (0, .ref 1000000), (1, .ref 0), (2, .ref 80), (3, .ref 139)]) (st1 := []) (S1 := rt v72) (pc1 := 1354) [(.iinc 4 6, .int (nI 6), 0, 0)] [] (by decide +kernel) rfl trivial ?_
          refine xr_goto (tgt := 23) (off := -1331) (by decide +kernel) (by decide) ?_
          exact x_R.sub [1, 2, 3, 4, 0] rfl h
        · replace h := h.2 hc
          refine xr_blk (lv1 := [(0, .ref 1000000), (1, .ref 0), (2, .ref 80), (3, .ref 139), (4, .int x4)]) (st1 := [.int (nI 0)]) (S1 := rt v72) (pc1 := 500) [(.iconst 0, .int (nI 0), 0, 0)] [] (by decide +kernel) rfl trivial ?_
          exact xr_zret (by decide +kernel) rfl x_in2_0 ⟨_, _, rfl, rfl, h⟩
      · refine ⟨461, 501, by rw [hr]; decide +kernel, by decide, ?_⟩
        replace h := h.2.2.2.2.2.2.2.2.2.1 hr
        refine xr_blk (lv1 := [(0, .ref 1000000), (1, .ref 0), (2, .ref 80), (3, .ref 139), (4, .int x4)]) (st1 := [.ref 0]) (S1 := rt v) (pc1 := 502) [(.aload_n 1, .null, 0, 0)] [] (by decide +kernel) rfl trivial ?_
        refine xk_VI (As := []) (bb := 0) (rest := []) (idx := 61) (i0 := 61) (m1 := 122) (ps := [846, 847, 848]) (by decide +kernel) (by decide +kernel) (by decide) rfl ((gK_s (by decide)).trans (by decide +kernel)) (by decide) (Nat.le_of_ble_eq_true rfl) rfl h (fun y75 v74 h => ?_)
        refine xr_blk (lv1 := [(0, .ref 1000000), (1, .ref 0), (2, .ref 80), (3, .ref 139), (4, .int x4)]) (st1 := [.ref 80, .int y75]) (S1 := rt v74) (pc1 := 506) [(.aload_n 2, .null, 0, 0)] [] (by decide +kernel) rfl trivial ?_
        refine xk_VI (As := []) (bb := 80) (rest := [.int y75]) (idx := 64) (i0 := 64) (m1 := 170) (ps := [1688, 1689, 1690]) (by decide +kernel) (by decide +kernel) (by decide) rfl ((gK_s (by decide)).trans (by decide +kernel)) (by decide) (Nat.le_of_ble_eq_true rfl) rfl h (fun y77 v76 h => ?_)
        refine xr_ic_eq (tgt := 1351) (off := 842) (by decide +kernel) (by decide) (fun hc => ?_) (fun hc => ?_)
        · replace h := h.1 hc
          refine xr_blk (lv1 := [(4, .int (x4 + (nI 6))), (0, .ref 1000000), (1, .ref 0), (2, .ref 80), (3, .ref 139)]) (st1 := []) (S1 := rt v76) (pc1 := 1354) [(.iinc 4 6, .int (nI 6), 0, 0)] [] (by decide +kernel) rfl trivial ?_
          refine xr_goto (tgt := 23) (off := -1331) (by decide +kernel) (by decide) ?_
          exact x_R.sub [1, 2, 3, 4, 0] rfl h
        · replace h := h.2 hc
          refine xr_blk (lv1 := [(0, .ref 1000000), (1, .ref 0), (2, .ref 80), (3, .ref 139), (4, .int x4)]) (st1 := [.int (nI 0)]) (S1 := rt v76) (pc1 := 513) [(.iconst 0, .int (nI 0), 0, 0)] [] (by decide +kernel) rfl trivial ?_
          exact xr_zret (by decide +kernel) rfl x_in2_0 ⟨_, _, rfl, rfl, h⟩
      · refine ⟨474, 514, by rw [hr]; decide +kernel, by decide, ?_⟩
        replace h := h.2.2.2.2.2.2.2.2.2.2.1 hr
        refine xr_blk (lv1 := [(0, .ref 1000000), (1, .ref 0), (2, .ref 80), (3, .ref 139), (4, .int x4)]) (st1 := [.int (x4 + (nI 1)), .ref 1000000, .ref 0]) (S1 := rt v) (pc1 := 520) [(.aload_n 1, .null, 0, 0), (.aload_n 0, .null, 0, 0), (.iload 4, .null, 0, 0), (.iconst 1, .int (nI 1), 0, 0), (.iadd, .null, 0, 0)] [] (by decide +kernel) rfl trivial ?_
        obtain ⟨hb78, h⟩ := h
        refine xr_sld (by decide +kernel) hb78 ?_
        refine xr_blk (lv1 := [(0, .ref 1000000), (1, .ref 0), (2, .ref 80), (3, .ref 139), (4, .int x4)]) (st1 := [.int (x4 + (nI 2)), .ref 1000000, .int (E.2 ((x4 + (nI 1))).toNatClampNeg), .ref 0]) (S1 := rt v) (pc1 := 526) [(.aload_n 0, .null, 0, 0), (.iload 4, .null, 0, 0), (.iconst 2, .int (nI 2), 0, 0), (.iadd, .null, 0, 0)] [] (by decide +kernel) rfl trivial ?_
        obtain ⟨hb79, h⟩ := h
        refine xr_sld (by decide +kernel) hb79 ?_
        refine xr_blk (lv1 := [(0, .ref 1000000), (1, .ref 0), (2, .ref 80), (3, .ref 139), (4, .int x4)]) (st1 := [.int (x4 + (nI 3)), .ref 1000000, .int (E.2 ((x4 + (nI 2))).toNatClampNeg), .int (E.2 ((x4 + (nI 1))).toNatClampNeg), .ref 0]) (S1 := rt v) (pc1 := 532) [(.aload_n 0, .null, 0, 0), (.iload 4, .null, 0, 0), (.iconst 3, .int (nI 3), 0, 0), (.iadd, .null, 0, 0)] [] (by decide +kernel) rfl trivial ?_
        obtain ⟨hb80, h⟩ := h
        refine xr_sld (by decide +kernel) hb80 ?_
        refine xk_VI (As := [.int (E.2 ((x4 + (nI 1))).toNatClampNeg), .int (E.2 ((x4 + (nI 2))).toNatClampNeg), .int (E.2 ((x4 + (nI 3))).toNatClampNeg)]) (bb := 0) (rest := []) (idx := 65) (i0 := 65) (m1 := 123) (ps := [850, 851, 852]) (by decide +kernel) (by decide +kernel) (by decide) rfl ((gK_s (by decide)).trans (by decide +kernel)) (by decide) (Nat.le_of_ble_eq_true rfl) rfl h (fun y82 v81 h => ?_)
        refine xr_blk (lv1 := [(0, .ref 1000000), (1, .ref 0), (2, .ref 80), (3, .ref 139), (4, .int x4)]) (st1 := [.int (x4 + (nI 1)), .ref 1000000, .ref 80, .int y82]) (S1 := rt v81) (pc1 := 542) [(.aload_n 2, .null, 0, 0), (.aload_n 0, .null, 0, 0), (.iload 4, .null, 0, 0), (.iconst 1, .int (nI 1), 0, 0), (.iadd, .null, 0, 0)] [] (by decide +kernel) rfl trivial ?_
        obtain ⟨hb83, h⟩ := h
        refine xr_sld (by decide +kernel) hb83 ?_
        refine xr_blk (lv1 := [(0, .ref 1000000), (1, .ref 0), (2, .ref 80), (3, .ref 139), (4, .int x4)]) (st1 := [.int (x4 + (nI 2)), .ref 1000000, .int (E.2 ((x4 + (nI 1))).toNatClampNeg), .ref 80, .int y82]) (S1 := rt v81) (pc1 := 548) [(.aload_n 0, .null, 0, 0), (.iload 4, .null, 0, 0), (.iconst 2, .int (nI 2), 0, 0), (.iadd, .null, 0, 0)] [] (by decide +kernel) rfl trivial ?_
        obtain ⟨hb84, h⟩ := h
        refine xr_sld (by decide +kernel) hb84 ?_
        refine xr_blk (lv1 := [(0, .ref 1000000), (1, .ref 0), (2, .ref 80), (3, .ref 139), (4, .int x4)]) (st1 := [.int (x4 + (nI 3)), .ref 1000000, .int (E.2 ((x4 + (nI 2))).toNatClampNeg), .int (E.2 ((x4 + (nI 1))).toNatClampNeg), .ref 80, .int y82]) (S1 := rt v81) (pc1 := 554) [(.aload_n 0, .null, 0, 0), (.iload 4, .null, 0, 0), (.iconst 3, .int (nI 3), 0, 0), (.iadd, .null, 0, 0)] [] (by decide +kernel) rfl trivial ?_
        obtain ⟨hb85, h⟩ := h
        refine xr_sld (by decide +kernel) hb85 ?_
        refine xk_VI (As := [.int (E.2 ((x4 + (nI 1))).toNatClampNeg), .int (E.2 ((x4 + (nI 2))).toNatClampNeg), .int (E.2 ((x4 + (nI 3))).toNatClampNeg)]) (bb := 80) (rest := [.int y82]) (idx := 68) (i0 := 68) (m1 := 171) (ps := [1692, 1693, 1694]) (by decide +kernel) (by decide +kernel) (by decide) rfl ((gK_s (by decide)).trans (by decide +kernel)) (by decide) (Nat.le_of_ble_eq_true rfl) rfl h (fun y87 v86 h => ?_)
        refine xr_ic_eq (tgt := 1351) (off := 793) (by decide +kernel) (by decide) (fun hc => ?_) (fun hc => ?_)
        · replace h := h.1 hc
          refine xr_blk (lv1 := [(4, .int (x4 + (nI 6))), (0, .ref 1000000), (1, .ref 0), (2, .ref 80), (3, .ref 139)]) (st1 := []) (S1 := rt v86) (pc1 := 1354) [(.iinc 4 6, .int (nI 6), 0, 0)] [] (by decide +kernel) rfl trivial ?_
          refine xr_goto (tgt := 23) (off := -1331) (by decide +kernel) (by decide) ?_
          exact x_R.sub [1, 2, 3, 4, 0] rfl h
        · replace h := h.2 hc
          refine xr_blk (lv1 := [(0, .ref 1000000), (1, .ref 0), (2, .ref 80), (3, .ref 139), (4, .int x4)]) (st1 := [.int (nI 0)]) (S1 := rt v86) (pc1 := 562) [(.iconst 0, .int (nI 0), 0, 0)] [] (by decide +kernel) rfl trivial ?_
          exact xr_zret (by decide +kernel) rfl x_in2_0 ⟨_, _, rfl, rfl, h⟩
      · refine ⟨523, 563, by rw [hr]; decide +kernel, by decide, ?_⟩
        replace h := h.2.2.2.2.2.2.2.2.2.2.2.1 hr
        refine xr_blk (lv1 := [(0, .ref 1000000), (1, .ref 0), (2, .ref 80), (3, .ref 139), (4, .int x4)]) (st1 := [.int (x4 + (nI 1)), .ref 1000000, .ref 0]) (S1 := rt v) (pc1 := 569) [(.aload_n 1, .null, 0, 0), (.aload_n 0, .null, 0, 0), (.iload 4, .null, 0, 0), (.iconst 1, .int (nI 1), 0, 0), (.iadd, .null, 0, 0)] [] (by decide +kernel) rfl trivial ?_
        obtain ⟨hb88, h⟩ := h
        refine xr_sld (by decide +kernel) hb88 ?_
        refine xk_VI (As := [.int (E.2 ((x4 + (nI 1))).toNatClampNeg)]) (bb := 0) (rest := []) (idx := 69) (i0 := 69) (m1 := 124) (ps := [862, 863, 864]) (by decide +kernel) (by decide +kernel) (by decide) rfl ((gK_s (by decide)).trans (by decide +kernel)) (by decide) (Nat.le_of_ble_eq_true rfl) rfl h (fun y90 v89 h => ?_)
        refine xr_blk (lv1 := [(0, .ref 1000000), (1, .ref 0), (2, .ref 80), (3, .ref 139), (4, .int x4)]) (st1 := [.int (x4 + (nI 1)), .ref 1000000, .ref 80, .int y90]) (S1 := rt v89) (pc1 := 579) [(.aload_n 2, .null, 0, 0), (.aload_n 0, .null, 0, 0), (.iload 4, .null, 0, 0), (.iconst 1, .int (nI 1), 0, 0), (.iadd, .null, 0, 0)] [] (by decide +kernel) rfl trivial ?_
        obtain ⟨hb91, h⟩ := h
        refine xr_sld (by decide +kernel) hb91 ?_
        refine xk_VI (As := [.int (E.2 ((x4 + (nI 1))).toNatClampNeg)]) (bb := 80) (rest := [.int y90]) (idx := 72) (i0 := 72) (m1 := 174) (ps := [1696, 1697, 1698]) (by decide +kernel) (by decide +kernel) (by decide) rfl ((gK_s (by decide)).trans (by decide +kernel)) (by decide) (Nat.le_of_ble_eq_true rfl) rfl h (fun y93 v92 h => ?_)
        refine xr_ic_eq (tgt := 1351) (off := 768) (by decide +kernel) (by decide) (fun hc => ?_) (fun hc => ?_)
        · replace h := h.1 hc
          refine xr_blk (lv1 := [(4, .int (x4 + (nI 6))), (0, .ref 1000000), (1, .ref 0), (2, .ref 80), (3, .ref 139)]) (st1 := []) (S1 := rt v92) (pc1 := 1354) [(.iinc 4 6, .int (nI 6), 0, 0)] [] (by decide +kernel) rfl trivial ?_
          refine xr_goto (tgt := 23) (off := -1331) (by decide +kernel) (by decide) ?_
          exact x_R.sub [1, 2, 3, 4, 0] rfl h
        · replace h := h.2 hc
          refine xr_blk (lv1 := [(0, .ref 1000000), (1, .ref 0), (2, .ref 80), (3, .ref 139), (4, .int x4)]) (st1 := [.int (nI 0)]) (S1 := rt v92) (pc1 := 587) [(.iconst 0, .int (nI 0), 0, 0)] [] (by decide +kernel) rfl trivial ?_
          exact xr_zret (by decide +kernel) rfl x_in2_0 ⟨_, _, rfl, rfl, h⟩
      · refine ⟨548, 588, by rw [hr]; decide +kernel, by decide, ?_⟩
        replace h := h.2.2.2.2.2.2.2.2.2.2.2.2.1 hr
        refine xr_blk (lv1 := [(0, .ref 1000000), (1, .ref 0), (2, .ref 80), (3, .ref 139), (4, .int x4)]) (st1 := [.int (x4 + (nI 1)), .ref 1000000, .ref 0]) (S1 := rt v) (pc1 := 594) [(.aload_n 1, .null, 0, 0), (.aload_n 0, .null, 0, 0), (.iload 4, .null, 0, 0), (.iconst 1, .int (nI 1), 0, 0), (.iadd, .null, 0, 0)] [] (by decide +kernel) rfl trivial ?_
        obtain ⟨hb94, h⟩ := h
        refine xr_sld (by decide +kernel) hb94 ?_
        refine xr_blk (lv1 := [(0, .ref 1000000), (1, .ref 0), (2, .ref 80), (3, .ref 139), (4, .int x4)]) (st1 := [.int (x4 + (nI 2)), .ref 1000000, .int (E.2 ((x4 + (nI 1))).toNatClampNeg), .ref 0]) (S1 := rt v) (pc1 := 600) [(.aload_n 0, .null, 0, 0), (.iload 4, .null, 0, 0), (.iconst 2, .int (nI 2), 0, 0), (.iadd, .null, 0, 0)] [] (by decide +kernel) rfl trivial ?_
        obtain ⟨hb95, h⟩ := h
        refine xr_sld (by decide +kernel) hb95 ?_
        refine xk_VI (As := [.int (E.2 ((x4 + (nI 1))).toNatClampNeg), .int (E.2 ((x4 + (nI 2))).toNatClampNeg)]) (bb := 0) (rest := []) (idx := 73) (i0 := 73) (m1 := 125) (ps := [875, 876, 877]) (by decide +kernel) (by decide +kernel) (by decide) rfl ((gK_s (by decide)).trans (by decide +kernel)) (by decide) (Nat.le_of_ble_eq_true rfl) rfl h (fun y97 v96 h => ?_)
        refine xr_blk (lv1 := [(0, .ref 1000000), (1, .ref 0), (2, .ref 80), (3, .ref 139), (4, .int x4)]) (st1 := [.int (x4 + (nI 1)), .ref 1000000, .ref 80, .int y97]) (S1 := rt v96) (pc1 := 610) [(.aload_n 2, .null, 0, 0), (.aload_n 0, .null, 0, 0), (.iload 4, .null, 0, 0), (.iconst 1, .int (nI 1), 0, 0), (.iadd, .null, 0, 0)] [] (by decide +kernel) rfl trivial ?_
        obtain ⟨hb98, h⟩ := h
        refine xr_sld (by decide +kernel) hb98 ?_
        refine xr_blk (lv1 := [(0, .ref 1000000), (1, .ref 0), (2, .ref 80), (3, .ref 139), (4, .int x4)]) (st1 := [.int (x4 + (nI 2)), .ref 1000000, .int (E.2 ((x4 + (nI 1))).toNatClampNeg), .ref 80, .int y97]) (S1 := rt v96) (pc1 := 616) [(.aload_n 0, .null, 0, 0), (.iload 4, .null, 0, 0), (.iconst 2, .int (nI 2), 0, 0), (.iadd, .null, 0, 0)] [] (by decide +kernel) rfl trivial ?_
        obtain ⟨hb99, h⟩ := h
        refine xr_sld (by decide +kernel) hb99 ?_
        refine xk_VI (As := [.int (E.2 ((x4 + (nI 1))).toNatClampNeg), .int (E.2 ((x4 + (nI 2))).toNatClampNeg)]) (bb := 80) (rest := [.int y97]) (idx := 77) (i0 := 77) (m1 := 175) (ps := [1704, 1705, 1706]) (by decide +kernel) (by decide +kernel) (by decide) rfl ((gK_s (by decide)).trans (by decide +kernel)) (by decide) (Nat.le_of_ble_eq_true rfl) rfl h (fun y101 v100 h => ?_)
        refine xr_ic_eq (tgt := 1351) (off := 731) (by decide +kernel) (by decide) (fun hc => ?_) (fun hc => ?_)
        · replace h := h.1 hc
          refine xr_blk (lv1 := [(4, .int (x4 + (nI 6))), (0, .ref 1000000), (1, .ref 0), (2, .ref 80), (3, .ref 139)]) (st1 := []) (S1 := rt v100) (pc1 := 1354) [(.iinc 4 6, .int (nI 6), 0, 0)] [] (by decide +kernel) rfl trivial ?_
          refine xr_goto (tgt := 23) (off := -1331) (by decide +kernel) (by decide) ?_
          exact x_R.sub [1, 2, 3, 4, 0] rfl h
        · replace h := h.2 hc
          refine xr_blk (lv1 := [(0, .ref 1000000), (1, .ref 0), (2, .ref 80), (3, .ref 139), (4, .int x4)]) (st1 := [.int (nI 0)]) (S1 := rt v100) (pc1 := 624) [(.iconst 0, .int (nI 0), 0, 0)] [] (by decide +kernel) rfl trivial ?_
          exact xr_zret (by decide +kernel) rfl x_in2_0 ⟨_, _, rfl, rfl, h⟩
      · refine ⟨585, 625, by rw [hr]; decide +kernel, by decide, ?_⟩
        replace h := h.2.2.2.2.2.2.2.2.2.2.2.2.2.1 hr
        refine xr_blk (lv1 := [(0, .ref 1000000), (1, .ref 0), (2, .ref 80), (3, .ref 139), (4, .int x4)]) (st1 := [.int (x4 + (nI 1)), .ref 1000000, .ref 0]) (S1 := rt v) (pc1 := 631) [(.aload_n 1, .null, 0, 0), (.aload_n 0, .null, 0, 0), (.iload 4, .null, 0, 0), (.iconst 1, .int (nI 1), 0, 0), (.iadd, .null, 0, 0)] [] (by decide +kernel) rfl trivial ?_
        obtain ⟨hb102, h⟩ := h
        refine xr_sld (by decide +kernel) hb102 ?_
        refine xr_blk (lv1 := [(0, .ref 1000000), (1, .ref 0), (2, .ref 80), (3, .ref 139), (4, .int x4)]) (st1 := [.int (x4 + (nI 2)), .ref 1000000, .int (E.2 ((x4 + (nI 1))).toNatClampNeg), .ref 0]) (S1 := rt v) (pc1 := 637) [(.aload_n 0, .null, 0, 0), (.iload 4, .null, 0, 0), (.iconst 2, .int (nI 2), 0, 0), (.iadd, .null, 0, 0)] [] (by decide +kernel) rfl trivial ?_
        obtain ⟨hb103, h⟩ := h
        refine xr_sld (by decide +kernel) hb103 ?_
        refine xr_blk (lv1 := [(0, .ref 1000000), (1, .ref 0), (2, .ref 80), (3, .ref 139), (4, .int x4)]) (st1 := [.int (x4 + (nI 3)), .ref 1000000, .int (E.2 ((x4 + (nI 2))).toNatClampNeg), .int (E.2 ((x4 + (nI 1))).toNatClampNeg), .ref 0]) (S1 := rt v) (pc1 := 643) [(.aload_n 0, .null, 0, 0), (.iload 4, .null, 0, 0), (.iconst 3, .int (nI 3), 0, 0), (.iadd, .null, 0, 0)] [] (by decide +kernel) rfl trivial ?_
        obtain ⟨hb104, h⟩ := h
        refine xr_sld (by decide +kernel) hb104 ?_
        refine xr_blk (lv1 := [(0, .ref 1000000), (1, .ref 0), (2, .ref 80), (3, .ref 139), (4, .int x4)]) (st1 := [.int (x4 + (nI 4)), .ref 1000000, .int (E.2 ((x4 + (nI 3))).toNatClampNeg), .int (E.2 ((x4 + (nI 2))).toNatClampNeg), .int (E.2 ((x4 + (nI 1))).toNatClampNeg), .ref 0]) (S1 := rt v) (pc1 := 649) [(.aload_n 0, .null, 0, 0), (.iload 4, .null, 0, 0), (.iconst 4, .int (nI 4), 0, 0), (.iadd, .null, 0, 0)] [] (by decide +kernel) rfl trivial ?_
        obtain ⟨hb105, h⟩ := h
        refine xr_sld (by decide +kernel) hb105 ?_
        refine xk_VI (As := [.int (E.2 ((x4 + (nI 1))).toNatClampNeg), .int (E.2 ((x4 + (nI 2))).toNatClampNeg), .int (E.2 ((x4 + (nI 3))).toNatClampNeg), .int (E.2 ((x4 + (nI 4))).toNatClampNeg)]) (bb := 0) (rest := []) (idx := 78) (i0 := 78) (m1 := 126) (ps := [884, 885, 886]) (by decide +kernel) (by decide +kernel) (by decide) rfl ((gK_s (by decide)).trans (by decide +kernel)) (by decide) (Nat.le_of_ble_eq_true rfl) rfl h (fun y107 v106 h => ?_)
        refine xr_blk (lv1 := [(0, .ref 1000000), (1, .ref 0), (2, .ref 80), (3, .ref 139), (4, .int x4)]) (st1 := [.int (x4 + (nI 1)), .ref 1000000, .ref 80, .int y107]) (S1 := rt v106) (pc1 := 659) [(.aload_n 2, .null, 0, 0), (.aload_n 0, .null, 0, 0), (.iload 4, .null, 0, 0), (.iconst 1, .int (nI 1), 0, 0), (.iadd, .null, 0, 0)] [] (by decide +kernel) rfl trivial ?_
        obtain ⟨hb108, h⟩ := h
        refine xr_sld (by decide +kernel) hb108 ?_
        refine xr_blk (lv1 := [(0, .ref 1000000), (1, .ref 0), (2, .ref 80), (3, .ref 139), (4, .int x4)]) (st1 := [.int (x4 + (nI 2)), .ref 1000000, .int (E.2 ((x4 + (nI 1))).toNatClampNeg), .ref 80, .int y107]) (S1 := rt v106) (pc1 := 665) [(.aload_n 0, .null, 0, 0), (.iload 4, .null, 0, 0), (.iconst 2, .int (nI 2), 0, 0), (.iadd, .null, 0, 0)] [] (by decide +kernel) rfl trivial ?_
        obtain ⟨hb109, h⟩ := h
        refine xr_sld (by decide +kernel) hb109 ?_
        refine xr_blk (lv1 := [(0, .ref 1000000), (1, .ref 0), (2, .ref 80), (3, .ref 139), (4, .int x4)]) (st1 := [.int (x4 + (nI 3)), .ref 1000000, .int (E.2 ((x4 + (nI 2))).toNatClampNeg), .int (E.2 ((x4 + (nI 1))).toNatClampNeg), .ref 80, .int y107]) (S1 := rt v106) (pc1 := 671) [(.aload_n 0, .null, 0, 0), (.iload 4, .null, 0, 0), (.iconst 3, .int (nI 3), 0, 0), (.iadd, .null, 0, 0)] [] (by decide +kernel) rfl trivial ?_
        obtain ⟨hb110, h⟩ := h
        refine xr_sld (by decide +kernel) hb110 ?_
        refine xr_blk (lv1 := [(0, .ref 1000000), (1, .ref 0), (2, .ref 80), (3, .ref 139), (4, .int x4)]) (st1 := [.int (x4 + (nI 4)), .ref 1000000, .int (E.2 ((x4 + (nI 3))).toNatClampNeg), .int (E.2 ((x4 + (nI 2))).toNatClampNeg), .int (E.2 ((x4 + (nI 1))).toNatClampNeg), .ref 80, .int y107]) (S1 := rt v106) (pc1 := 677) [(.aload_n 0, .null, 0, 0), (.iload 4, .null, 0, 0), (.iconst 4, .int (nI 4), 0, 0), (.iadd, .null, 0, 0)] [] (by decide +kernel) rfl trivial ?_
        obtain ⟨hb111, h⟩ := h
        refine xr_sld (by decide +kernel) hb111 ?_
        refine xk_VI (As := [.int (E.2 ((x4 + (nI 1))).toNatClampNeg), .int (E.2 ((x4 + (nI 2))).toNatClampNeg), .int (E.2 ((x4 + (nI 3))).toNatClampNeg), .int (E.2 ((x4 + (nI 4))).toNatClampNeg)]) (bb := 80) (rest := [.int y107]) (idx := 82) (i0 := 82) (m1 := 180) (ps := [1708, 1709, 1710]) (by decide +kernel) (by decide +kernel) (by decide) rfl ((gK_s (by decide)).trans (by decide +kernel)) (by decide) (Nat.le_of_ble_eq_true rfl) rfl h (fun y113 v112 h => ?_)
        refine xr_ic_eq (tgt := 1351) (off := 670) (by decide +kernel) (by decide) (fun hc => ?_) (fun hc => ?_)
        · replace h := h.1 hc
          refine xr_blk (lv1 := [(4, .int (x4 + (nI 6))), (0, .ref 1000000), (1, .ref 0), (2, .ref 80), (3, .ref 139)]) (st1 := []) (S1 := rt v112) (pc1 := 1354) [(.iinc 4 6, .int (nI 6), 0, 0)] [] (by decide +kernel) rfl trivial ?_
          refine xr_goto (tgt := 23) (off := -1331) (by decide +kernel) (by decide) ?_
          exact x_R.sub [1, 2, 3, 4, 0] rfl h
        · replace h := h.2 hc
          refine xr_blk (lv1 := [(0, .ref 1000000), (1, .ref 0), (2, .ref 80), (3, .ref 139), (4, .int x4)]) (st1 := [.int (nI 0)]) (S1 := rt v112) (pc1 := 685) [(.iconst 0, .int (nI 0), 0, 0)] [] (by decide +kernel) rfl trivial ?_
          exact xr_zret (by decide +kernel) rfl x_in2_0 ⟨_, _, rfl, rfl, h⟩
      · refine ⟨646, 686, by rw [hr]; decide +kernel, by decide, ?_⟩
        replace h := h.2.2.2.2.2.2.2.2.2.2.2.2.2.2.1 hr
        refine xr_blk (lv1 := [(0, .ref 1000000), (1, .ref 0), (2, .ref 80), (3, .ref 139), (4, .int x4)]) (st1 := [.int (x4 + (nI 1)), .ref 1000000, .ref 0]) (S1 := rt v) (pc1 := 692) [(.aload_n 1, .null, 0, 0), (.aload_n 0, .null, 0, 0), (.iload 4, .null, 0, 0), (.iconst 1, .int (nI 1), 0, 0), (.iadd, .null, 0, 0)] [] (by decide +kernel) rfl trivial ?_
        obtain ⟨hb114, h⟩ := h
        refine xr_sld (by decide +kernel) hb114 ?_
        refine xr_blk (lv1 := [(0, .ref 1000000), (1, .ref 0), (2, .ref 80), (3, .ref 139), (4, .int x4)]) (st1 := [.int (x4 + (nI 2)), .ref 1000000, .int (E.2 ((x4 + (nI 1))).toNatClampNeg), .ref 0]) (S1 := rt v) (pc1 := 698) [(.aload_n 0, .null, 0, 0), (.iload 4, .null, 0, 0), (.iconst 2, .int (nI 2), 0, 0), (.iadd, .null, 0, 0)] [] (by decide +kernel) rfl trivial ?_
        obtain ⟨hb115, h⟩ := h
        refine xr_sld (by decide +kernel) hb115 ?_
        refine xk_VI (As := [.int (E.2 ((x4 + (nI 1))).toNatClampNeg), .int (E.2 ((x4 + (nI 2))).toNatClampNeg)]) (bb := 0) (rest := []) (idx := 83) (i0 := 83) (m1 := 127) (ps := [926, 927, 928]) (by decide +kernel) (by decide +kernel) (by decide) rfl ((gK_s (by decide)).trans (by decide +kernel)) (by decide) (Nat.le_of_ble_eq_true rfl) rfl h (fun y117 v116 h => ?_)
        refine xr_blk (lv1 := [(0, .ref 1000000), (1, .ref 0), (2, .ref 80), (3, .ref 139), (4, .int x4)]) (st1 := [.int (x4 + (nI 1)), .ref 1000000, .ref 80, .int y117]) (S1 := rt v116) (pc1 := 708) [(.aload_n 2, .null, 0, 0), (.aload_n 0, .null, 0, 0), (.iload 4, .null, 0, 0), (.iconst 1, .int (nI 1), 0, 0), (.iadd, .null, 0, 0)] [] (by decide +kernel) rfl trivial ?_
        obtain ⟨hb118, h⟩ := h
        refine xr_sld (by decide +kernel) hb118 ?_
        refine xr_blk (lv1 := [(0, .ref 1000000), (1, .ref 0), (2, .ref 80), (3, .ref 139), (4, .int x4)]) (st1 := [.int (x4 + (nI 2)), .ref 1000000, .int (E.2 ((x4 + (nI 1))).toNatClampNeg), .ref 80, .int y117]) (S1 := rt v116) (pc1 := 714) [(.aload_n 0, .null, 0, 0), (.iload 4, .null, 0, 0), (.iconst 2, .int (nI 2), 0, 0), (.iadd, .null, 0, 0)] [] (by decide +kernel) rfl trivial ?_
        obtain ⟨hb119, h⟩ := h
        refine xr_sld (by decide +kernel) hb119 ?_
        refine xk_VI (As := [.int (E.2 ((x4 + (nI 1))).toNatClampNeg), .int (E.2 ((x4 + (nI 2))).toNatClampNeg)]) (bb := 80) (rest := [.int y117]) (idx := 86) (i0 := 86) (m1 := 188) (ps := [1732, 1733, 1734]) (by decide +kernel) (by decide +kernel) (by decide) rfl ((gK_s (by decide)).trans (by decide +kernel)) (by decide) (Nat.le_of_ble_eq_true rfl) rfl h (fun y121 v120 h => ?_)
        refine xr_ic_eq (tgt := 1351) (off := 633) (by decide +kernel) (by decide) (fun hc => ?_) (fun hc => ?_)
        · replace h := h.1 hc
          refine xr_blk (lv1 := [(4, .int (x4 + (nI 6))), (0, .ref 1000000), (1, .ref 0), (2, .ref 80), (3, .ref 139)]) (st1 := []) (S1 := rt v120) (pc1 := 1354) [(.iinc 4 6, .int (nI 6), 0, 0)] [] (by decide +kernel) rfl trivial ?_
          refine xr_goto (tgt := 23) (off := -1331) (by decide +kernel) (by decide) ?_
          exact x_R.sub [1, 2, 3, 4, 0] rfl h
        · replace h := h.2 hc
          refine xr_blk (lv1 := [(0, .ref 1000000), (1, .ref 0), (2, .ref 80), (3, .ref 139), (4, .int x4)]) (st1 := [.int (nI 0)]) (S1 := rt v120) (pc1 := 722) [(.iconst 0, .int (nI 0), 0, 0)] [] (by decide +kernel) rfl trivial ?_
          exact xr_zret (by decide +kernel) rfl x_in2_0 ⟨_, _, rfl, rfl, h⟩
      · refine ⟨683, 723, by rw [hr]; decide +kernel, by decide, ?_⟩
        replace h := h.2.2.2.2.2.2.2.2.2.2.2.2.2.2.2.1 hr
        refine xr_blk (lv1 := [(0, .ref 1000000), (1, .ref 0), (2, .ref 80), (3, .ref 139), (4, .int x4)]) (st1 := [.int (x4 + (nI 1)), .ref 1000000, .ref 0]) (S1 := rt v) (pc1 := 729) [(.aload_n 1, .null, 0, 0), (.aload_n 0, .null, 0, 0), (.iload 4, .null, 0, 0), (.iconst 1, .int (nI 1), 0, 0), (.iadd, .null, 0, 0)] [] (by decide +kernel) rfl trivial ?_
        obtain ⟨hb122, h⟩ := h
        refine xr_sld (by decide +kernel) hb122 ?_
        refine xr_blk (lv1 := [(0, .ref 1000000), (1, .ref 0), (2, .ref 80), (3, .ref 139), (4, .int x4)]) (st1 := [.ref 139, .int (E.2 ((x4 + (nI 1))).toNatClampNeg), .ref 0]) (S1 := rt v) (pc1 := 731) [(.aload_n 3, .null, 0, 0)] [] (by decide +kernel) rfl trivial ?_
        refine h _ _ (fun y123 v124 h => ?_)
        refine xr_blk (lv1 := [(5, .int y123), (0, .ref 1000000), (1, .ref 0), (2, .ref 80), (3, .ref 139), (4, .int x4)]) (st1 := [.int (x4 + (nI 1)), .ref 1000000, .ref 80]) (S1 := rt v124) (pc1 := 742) [(.istore 5, .null, 0, 0), (.aload_n 2, .null, 0, 0), (.aload_n 0, .null, 0, 0), (.iload 4, .null, 0, 0), (.iconst 1, .int (nI 1), 0, 0), (.iadd, .null, 0, 0)] [] (by decide +kernel) rfl trivial ?_
        obtain ⟨hb125, h⟩ := h
        refine xr_sld (by decide +kernel) hb125 ?_
        refine xk_VI (As := [.int (E.2 ((x4 + (nI 1))).toNatClampNeg)]) (bb := 80) (rest := []) (idx := 92) (i0 := 92) (m1 := 189) (ps := [1763, 1764, 1765]) (by decide +kernel) (by decide +kernel) (by decide) rfl ((gK_s (by decide)).trans (by decide +kernel)) (by decide) (Nat.le_of_ble_eq_true rfl) rfl h (fun y127 v126 h => ?_)
        refine xr_blk (lv1 := [(6, .int y127), (5, .int y123), (0, .ref 1000000), (1, .ref 0), (2, .ref 80), (3, .ref 139), (4, .int x4)]) (st1 := [.ref 80]) (S1 := rt v126) (pc1 := 749) [(.istore 6, .null, 0, 0), (.aload_n 2, .null, 0, 0)] [] (by decide +kernel) rfl trivial ?_
        refine xk_VI (As := []) (bb := 80) (rest := []) (idx := 93) (i0 := 93) (m1 := 146) (ps := [1596, 1597, 1598]) (by decide +kernel) (by decide +kernel) (by decide) rfl ((gK_s (by decide)).trans (by decide +kernel)) (by decide) (Nat.le_of_ble_eq_true rfl) rfl h (fun y129 v128 h => ?_)
        refine xr_blk (lv1 := [(6, .int y127), (5, .int y123), (0, .ref 1000000), (1, .ref 0), (2, .ref 80), (3, .ref 139), (4, .int x4)]) (st1 := [.int y123, .int y129]) (S1 := rt v128) (pc1 := 754) [(.iload 5, .null, 0, 0)] [] (by decide +kernel) rfl trivial ?_
        refine xr_ic_eq (tgt := 759) (off := 5) (by decide +kernel) (by decide) (fun hc => ?_) (fun hc => ?_)
        · replace h := h.1 hc
          refine xr_blk (lv1 := [(6, .int y127), (5, .int y123), (0, .ref 1000000), (1, .ref 0), (2, .ref 80), (3, .ref 139), (4, .int x4)]) (st1 := [.int y123]) (S1 := rt v128) (pc1 := 761) [(.iload 5, .null, 0, 0)] [] (by decide +kernel) rfl trivial ?_
          refine xr_if_ne (tgt := 776) (off := 15) (by decide +kernel) (by decide) (fun hc => ?_) (fun hc => ?_)
          · replace h := h.1 hc
            refine xr_goto (tgt := 1351) (off := 575) (by decide +kernel) (by decide) ?_
            refine xr_blk (lv1 := [(4, .int (x4 + (nI 6))), (6, .int y127), (5, .int y123), (0, .ref 1000000), (1, .ref 0), (2, .ref 80), (3, .ref 139)]) (st1 := []) (S1 := rt v128) (pc1 := 1354) [(.iinc 4 6, .int (nI 6), 0, 0)] [] (by decide +kernel) rfl trivial ?_
            refine xr_goto (tgt := 23) (off := -1331) (by decide +kernel) (by decide) ?_
            exact x_R.sub [3, 4, 5, 6, 0] rfl h
          · replace h := h.2 hc
            refine xr_blk (lv1 := [(6, .int y127), (5, .int y123), (0, .ref 1000000), (1, .ref 0), (2, .ref 80), (3, .ref 139), (4, .int x4)]) (st1 := [.int (lg_cmp ((gB v128 139) ((nI 0)).toNatClampNeg) (y127).toInt64)]) (S1 := rt v128) (pc1 := 771) [(.aload_n 3, .null, 0, 0), (.iconst 0, .int (nI 0), 0, 0), (.laload, .null, 0, 0), (.iload 6, .null, 0, 0), (.i2l, .null, 0, 0), (.lcmp, .null, 0, 0)] [((nI 0), 1)] (by decide +kernel) rfl ⟨x_inl (by decide), trivial⟩ ?_
            refine xr_if_eq (tgt := 776) (off := 5) (by decide +kernel) (by decide) (fun hc => ?_) (fun hc => ?_)
            · replace h := h.1 hc
              refine xr_goto (tgt := 1351) (off := 575) (by decide +kernel) (by decide) ?_
              refine xr_blk (lv1 := [(4, .int (x4 + (nI 6))), (6, .int y127), (5, .int y123), (0, .ref 1000000), (1, .ref 0), (2, .ref 80), (3, .ref 139)]) (st1 := []) (S1 := rt v128) (pc1 := 1354) [(.iinc 4 6, .int (nI 6), 0, 0)] [] (by decide +kernel) rfl trivial ?_
              refine xr_goto (tgt := 23) (off := -1331) (by decide +kernel) (by decide) ?_
              exact x_R.sub [3, 4, 5, 6, 0] rfl h
            · replace h := h.2 hc
              refine xr_blk (lv1 := [(6, .int y127), (5, .int y123), (0, .ref 1000000), (1, .ref 0), (2, .ref 80), (3, .ref 139), (4, .int x4)]) (st1 := [.int (nI 0)]) (S1 := rt v128) (pc1 := 775) [(.iconst 0, .int (nI 0), 0, 0)] [] (by decide +kernel) rfl trivial ?_
              exact xr_zret (by decide +kernel) rfl x_in2_0 ⟨_, _, rfl, rfl, h⟩
        · replace h := h.2 hc
          refine xr_blk (lv1 := [(6, .int y127), (5, .int y123), (0, .ref 1000000), (1, .ref 0), (2, .ref 80), (3, .ref 139), (4, .int x4)]) (st1 := [.int (nI 0)]) (S1 := rt v128) (pc1 := 758) [(.iconst 0, .int (nI 0), 0, 0)] [] (by decide +kernel) rfl trivial ?_
          exact xr_zret (by decide +kernel) rfl x_in2_0 ⟨_, _, rfl, rfl, h⟩
      · refine ⟨739, 779, by rw [hr]; decide +kernel, by decide, ?_⟩
        replace h := h.2.2.2.2.2.2.2.2.2.2.2.2.2.2.2.2.1 hr
        refine xr_blk (lv1 := [(0, .ref 1000000), (1, .ref 0), (2, .ref 80), (3, .ref 139), (4, .int x4)]) (st1 := [.int (x4 + (nI 1)), .ref 1000000, .ref 0]) (S1 := rt v) (pc1 := 785) [(.aload_n 1, .null, 0, 0), (.aload_n 0, .null, 0, 0), (.iload 4, .null, 0, 0), (.iconst 1, .int (nI 1), 0, 0), (.iadd, .null, 0, 0)] [] (by decide +kernel) rfl trivial ?_
        obtain ⟨hb130, h⟩ := h
        refine xr_sld (by decide +kernel) hb130 ?_
        refine xr_blk (lv1 := [(0, .ref 1000000), (1, .ref 0), (2, .ref 80), (3, .ref 139), (4, .int x4)]) (st1 := [.int (x4 + (nI 2)), .ref 1000000, .int (E.2 ((x4 + (nI 1))).toNatClampNeg), .ref 0]) (S1 := rt v) (pc1 := 791) [(.aload_n 0, .null, 0, 0), (.iload 4, .null, 0, 0), (.iconst 2, .int (nI 2), 0, 0), (.iadd, .null, 0, 0)] [] (by decide +kernel) rfl trivial ?_
        obtain ⟨hb131, h⟩ := h
        refine xr_sld (by decide +kernel) hb131 ?_
        refine xr_blk (lv1 := [(0, .ref 1000000), (1, .ref 0), (2, .ref 80), (3, .ref 139), (4, .int x4)]) (st1 := [.int (x4 + (nI 3)), .ref 1000000, .int (E.2 ((x4 + (nI 2))).toNatClampNeg), .int (E.2 ((x4 + (nI 1))).toNatClampNeg), .ref 0]) (S1 := rt v) (pc1 := 797) [(.aload_n 0, .null, 0, 0), (.iload 4, .null, 0, 0), (.iconst 3, .int (nI 3), 0, 0), (.iadd, .null, 0, 0)] [] (by decide +kernel) rfl trivial ?_
        obtain ⟨hb132, h⟩ := h
        refine xr_sld (by decide +kernel) hb132 ?_
        refine xk_VI (As := [.int (E.2 ((x4 + (nI 1))).toNatClampNeg), .int (E.2 ((x4 + (nI 2))).toNatClampNeg), .int (E.2 ((x4 + (nI 3))).toNatClampNeg)]) (bb := 0) (rest := []) (idx := 96) (i0 := 96) (m1 := 129) (ps := [1010, 1011, 1012]) (by decide +kernel) (by decide +kernel) (by decide) rfl ((gK_s (by decide)).trans (by decide +kernel)) (by decide) (Nat.le_of_ble_eq_true rfl) rfl h (fun y134 v133 h => ?_)
        refine xr_blk (lv1 := [(0, .ref 1000000), (1, .ref 0), (2, .ref 80), (3, .ref 139), (4, .int x4)]) (st1 := [.int (x4 + (nI 1)), .ref 1000000, .ref 80, .int y134]) (S1 := rt v133) (pc1 := 807) [(.aload_n 2, .null, 0, 0), (.aload_n 0, .null, 0, 0), (.iload 4, .null, 0, 0), (.iconst 1, .int (nI 1), 0, 0), (.iadd, .null, 0, 0)] [] (by decide +kernel) rfl trivial ?_
        obtain ⟨hb135, h⟩ := h
        refine xr_sld (by decide +kernel) hb135 ?_
        refine xr_blk (lv1 := [(0, .ref 1000000), (1, .ref 0), (2, .ref 80), (3, .ref 139), (4, .int x4)]) (st1 := [.int (x4 + (nI 2)), .ref 1000000, .int (E.2 ((x4 + (nI 1))).toNatClampNeg), .ref 80, .int y134]) (S1 := rt v133) (pc1 := 813) [(.aload_n 0, .null, 0, 0), (.iload 4, .null, 0, 0), (.iconst 2, .int (nI 2), 0, 0), (.iadd, .null, 0, 0)] [] (by decide +kernel) rfl trivial ?_
        obtain ⟨hb136, h⟩ := h
        refine xr_sld (by decide +kernel) hb136 ?_
        refine xr_blk (lv1 := [(0, .ref 1000000), (1, .ref 0), (2, .ref 80), (3, .ref 139), (4, .int x4)]) (st1 := [.int (x4 + (nI 3)), .ref 1000000, .int (E.2 ((x4 + (nI 2))).toNatClampNeg), .int (E.2 ((x4 + (nI 1))).toNatClampNeg), .ref 80, .int y134]) (S1 := rt v133) (pc1 := 819) [(.aload_n 0, .null, 0, 0), (.iload 4, .null, 0, 0), (.iconst 3, .int (nI 3), 0, 0), (.iadd, .null, 0, 0)] [] (by decide +kernel) rfl trivial ?_
        obtain ⟨hb137, h⟩ := h
        refine xr_sld (by decide +kernel) hb137 ?_
        refine xk_VI (As := [.int (E.2 ((x4 + (nI 1))).toNatClampNeg), .int (E.2 ((x4 + (nI 2))).toNatClampNeg), .int (E.2 ((x4 + (nI 3))).toNatClampNeg)]) (bb := 80) (rest := [.int y134]) (idx := 99) (i0 := 99) (m1 := 192) (ps := [1771, 1772, 1773]) (by decide +kernel) (by decide +kernel) (by decide) rfl ((gK_s (by decide)).trans (by decide +kernel)) (by decide) (Nat.le_of_ble_eq_true rfl) rfl h (fun y139 v138 h => ?_)
        refine xr_ic_eq (tgt := 1351) (off := 528) (by decide +kernel) (by decide) (fun hc => ?_) (fun hc => ?_)
        · replace h := h.1 hc
          refine xr_blk (lv1 := [(4, .int (x4 + (nI 6))), (0, .ref 1000000), (1, .ref 0), (2, .ref 80), (3, .ref 139)]) (st1 := []) (S1 := rt v138) (pc1 := 1354) [(.iinc 4 6, .int (nI 6), 0, 0)] [] (by decide +kernel) rfl trivial ?_
          refine xr_goto (tgt := 23) (off := -1331) (by decide +kernel) (by decide) ?_
          exact x_R.sub [1, 2, 3, 4, 0] rfl h
        · replace h := h.2 hc
          refine xr_blk (lv1 := [(0, .ref 1000000), (1, .ref 0), (2, .ref 80), (3, .ref 139), (4, .int x4)]) (st1 := [.int (nI 0)]) (S1 := rt v138) (pc1 := 827) [(.iconst 0, .int (nI 0), 0, 0)] [] (by decide +kernel) rfl trivial ?_
          exact xr_zret (by decide +kernel) rfl x_in2_0 ⟨_, _, rfl, rfl, h⟩
      · refine ⟨788, 828, by rw [hr]; decide +kernel, by decide, ?_⟩
        replace h := h.2.2.2.2.2.2.2.2.2.2.2.2.2.2.2.2.2.1 hr
        refine xr_blk (lv1 := [(0, .ref 1000000), (1, .ref 0), (2, .ref 80), (3, .ref 139), (4, .int x4)]) (st1 := [.int (x4 + (nI 1)), .ref 1000000, .ref 0]) (S1 := rt v) (pc1 := 834) [(.aload_n 1, .null, 0, 0), (.aload_n 0, .null, 0, 0), (.iload 4, .null, 0, 0), (.iconst 1, .int (nI 1), 0, 0), (.iadd, .null, 0, 0)] [] (by decide +kernel) rfl trivial ?_
        obtain ⟨hb140, h⟩ := h
        refine xr_sld (by decide +kernel) hb140 ?_
        refine xr_blk (lv1 := [(0, .ref 1000000), (1, .ref 0), (2, .ref 80), (3, .ref 139), (4, .int x4)]) (st1 := [.int (x4 + (nI 2)), .ref 1000000, .int (E.2 ((x4 + (nI 1))).toNatClampNeg), .ref 0]) (S1 := rt v) (pc1 := 840) [(.aload_n 0, .null, 0, 0), (.iload 4, .null, 0, 0), (.iconst 2, .int (nI 2), 0, 0), (.iadd, .null, 0, 0)] [] (by decide +kernel) rfl trivial ?_
        obtain ⟨hb141, h⟩ := h
        refine xr_sld (by decide +kernel) hb141 ?_
        refine xr_blk (lv1 := [(0, .ref 1000000), (1, .ref 0), (2, .ref 80), (3, .ref 139), (4, .int x4)]) (st1 := [.int (x4 + (nI 3)), .ref 1000000, .int (E.2 ((x4 + (nI 2))).toNatClampNeg), .int (E.2 ((x4 + (nI 1))).toNatClampNeg), .ref 0]) (S1 := rt v) (pc1 := 846) [(.aload_n 0, .null, 0, 0), (.iload 4, .null, 0, 0), (.iconst 3, .int (nI 3), 0, 0), (.iadd, .null, 0, 0)] [] (by decide +kernel) rfl trivial ?_
        obtain ⟨hb142, h⟩ := h
        refine xr_sld (by decide +kernel) hb142 ?_
        refine xk_VI (As := [.int (E.2 ((x4 + (nI 1))).toNatClampNeg), .int (E.2 ((x4 + (nI 2))).toNatClampNeg), .int (E.2 ((x4 + (nI 3))).toNatClampNeg)]) (bb := 0) (rest := []) (idx := 100) (i0 := 100) (m1 := 130) (ps := [1015, 1016, 1017]) (by decide +kernel) (by decide +kernel) (by decide) rfl ((gK_s (by decide)).trans (by decide +kernel)) (by decide) (Nat.le_of_ble_eq_true rfl) rfl h (fun y144 v143 h => ?_)
        refine xr_blk (lv1 := [(0, .ref 1000000), (1, .ref 0), (2, .ref 80), (3, .ref 139), (4, .int x4)]) (st1 := [.int (x4 + (nI 1)), .ref 1000000, .ref 80, .int y144]) (S1 := rt v143) (pc1 := 856) [(.aload_n 2, .null, 0, 0), (.aload_n 0, .null, 0, 0), (.iload 4, .null, 0, 0), (.iconst 1, .int (nI 1), 0, 0), (.iadd, .null, 0, 0)] [] (by decide +kernel) rfl trivial ?_
        obtain ⟨hb145, h⟩ := h
        refine xr_sld (by decide +kernel) hb145 ?_
        refine xr_blk (lv1 := [(0, .ref 1000000), (1, .ref 0), (2, .ref 80), (3, .ref 139), (4, .int x4)]) (st1 := [.int (x4 + (nI 2)), .ref 1000000, .int (E.2 ((x4 + (nI 1))).toNatClampNeg), .ref 80, .int y144]) (S1 := rt v143) (pc1 := 862) [(.aload_n 0, .null, 0, 0), (.iload 4, .null, 0, 0), (.iconst 2, .int (nI 2), 0, 0), (.iadd, .null, 0, 0)] [] (by decide +kernel) rfl trivial ?_
        obtain ⟨hb146, h⟩ := h
        refine xr_sld (by decide +kernel) hb146 ?_
        refine xr_blk (lv1 := [(0, .ref 1000000), (1, .ref 0), (2, .ref 80), (3, .ref 139), (4, .int x4)]) (st1 := [.int (x4 + (nI 3)), .ref 1000000, .int (E.2 ((x4 + (nI 2))).toNatClampNeg), .int (E.2 ((x4 + (nI 1))).toNatClampNeg), .ref 80, .int y144]) (S1 := rt v143) (pc1 := 868) [(.aload_n 0, .null, 0, 0), (.iload 4, .null, 0, 0), (.iconst 3, .int (nI 3), 0, 0), (.iadd, .null, 0, 0)] [] (by decide +kernel) rfl trivial ?_
        obtain ⟨hb147, h⟩ := h
        refine xr_sld (by decide +kernel) hb147 ?_
        refine xk_VI (As := [.int (E.2 ((x4 + (nI 1))).toNatClampNeg), .int (E.2 ((x4 + (nI 2))).toNatClampNeg), .int (E.2 ((x4 + (nI 3))).toNatClampNeg)]) (bb := 80) (rest := [.int y144]) (idx := 103) (i0 := 103) (m1 := 193) (ps := [1783, 1784, 1785]) (by decide +kernel) (by decide +kernel) (by decide) rfl ((gK_s (by decide)).trans (by decide +kernel)) (by decide) (Nat.le_of_ble_eq_true rfl) rfl h (fun y149 v148 h => ?_)
        refine xr_ic_eq (tgt := 1351) (off := 479) (by decide +kernel) (by decide) (fun hc => ?_) (fun hc => ?_)
        · replace h := h.1 hc
          refine xr_blk (lv1 := [(4, .int (x4 + (nI 6))), (0, .ref 1000000), (1, .ref 0), (2, .ref 80), (3, .ref 139)]) (st1 := []) (S1 := rt v148) (pc1 := 1354) [(.iinc 4 6, .int (nI 6), 0, 0)] [] (by decide +kernel) rfl trivial ?_
          refine xr_goto (tgt := 23) (off := -1331) (by decide +kernel) (by decide) ?_
          exact x_R.sub [1, 2, 3, 4, 0] rfl h
        · replace h := h.2 hc
          refine xr_blk (lv1 := [(0, .ref 1000000), (1, .ref 0), (2, .ref 80), (3, .ref 139), (4, .int x4)]) (st1 := [.int (nI 0)]) (S1 := rt v148) (pc1 := 876) [(.iconst 0, .int (nI 0), 0, 0)] [] (by decide +kernel) rfl trivial ?_
          exact xr_zret (by decide +kernel) rfl x_in2_0 ⟨_, _, rfl, rfl, h⟩
      · refine ⟨837, 877, by rw [hr]; decide +kernel, by decide, ?_⟩
        replace h := h.2.2.2.2.2.2.2.2.2.2.2.2.2.2.2.2.2.2.1 hr
        refine xr_blk (lv1 := [(0, .ref 1000000), (1, .ref 0), (2, .ref 80), (3, .ref 139), (4, .int x4)]) (st1 := [.int (x4 + (nI 1)), .ref 1000000, .ref 0]) (S1 := rt v) (pc1 := 883) [(.aload_n 1, .null, 0, 0), (.aload_n 0, .null, 0, 0), (.iload 4, .null, 0, 0), (.iconst 1, .int (nI 1), 0, 0), (.iadd, .null, 0, 0)] [] (by decide +kernel) rfl trivial ?_
        obtain ⟨hb150, h⟩ := h
        refine xr_sld (by decide +kernel) hb150 ?_
        refine xr_blk (lv1 := [(0, .ref 1000000), (1, .ref 0), (2, .ref 80), (3, .ref 139), (4, .int x4)]) (st1 := [.int (x4 + (nI 2)), .ref 1000000, .int (E.2 ((x4 + (nI 1))).toNatClampNeg), .ref 0]) (S1 := rt v) (pc1 := 889) [(.aload_n 0, .null, 0, 0), (.iload 4, .null, 0, 0), (.iconst 2, .int (nI 2), 0, 0), (.iadd, .null, 0, 0)] [] (by decide +kernel) rfl trivial ?_
        obtain ⟨hb151, h⟩ := h
        refine xr_sld (by decide +kernel) hb151 ?_
        refine xr_blk (lv1 := [(0, .ref 1000000), (1, .ref 0), (2, .ref 80), (3, .ref 139), (4, .int x4)]) (st1 := [.int (x4 + (nI 3)), .ref 1000000, .int (E.2 ((x4 + (nI 2))).toNatClampNeg), .int (E.2 ((x4 + (nI 1))).toNatClampNeg), .ref 0]) (S1 := rt v) (pc1 := 895) [(.aload_n 0, .null, 0, 0), (.iload 4, .null, 0, 0), (.iconst 3, .int (nI 3), 0, 0), (.iadd, .null, 0, 0)] [] (by decide +kernel) rfl trivial ?_
        obtain ⟨hb152, h⟩ := h
        refine xr_sld (by decide +kernel) hb152 ?_
        refine xk_VI (As := [.int (E.2 ((x4 + (nI 1))).toNatClampNeg), .int (E.2 ((x4 + (nI 2))).toNatClampNeg), .int (E.2 ((x4 + (nI 3))).toNatClampNeg)]) (bb := 0) (rest := []) (idx := 104) (i0 := 104) (m1 := 131) (ps := [1019, 1020, 1021]) (by decide +kernel) (by decide +kernel) (by decide) rfl ((gK_s (by decide)).trans (by decide +kernel)) (by decide) (Nat.le_of_ble_eq_true rfl) rfl h (fun y154 v153 h => ?_)
        refine xr_blk (lv1 := [(0, .ref 1000000), (1, .ref 0), (2, .ref 80), (3, .ref 139), (4, .int x4)]) (st1 := [.int (x4 + (nI 1)), .ref 1000000, .ref 80, .int y154]) (S1 := rt v153) (pc1 := 905) [(.aload_n 2, .null, 0, 0), (.aload_n 0, .null, 0, 0), (.iload 4, .null, 0, 0), (.iconst 1, .int (nI 1), 0, 0), (.iadd, .null, 0, 0)] [] (by decide +kernel) rfl trivial ?_
        obtain ⟨hb155, h⟩ := h
        refine xr_sld (by decide +kernel) hb155 ?_
        refine xr_blk (lv1 := [(0, .ref 1000000), (1, .ref 0), (2, .ref 80), (3, .ref 139), (4, .int x4)]) (st1 := [.int (x4 + (nI 2)), .ref 1000000, .int (E.2 ((x4 + (nI 1))).toNatClampNeg), .ref 80, .int y154]) (S1 := rt v153) (pc1 := 911) [(.aload_n 0, .null, 0, 0), (.iload 4, .null, 0, 0), (.iconst 2, .int (nI 2), 0, 0), (.iadd, .null, 0, 0)] [] (by decide +kernel) rfl trivial ?_
        obtain ⟨hb156, h⟩ := h
        refine xr_sld (by decide +kernel) hb156 ?_
        refine xr_blk (lv1 := [(0, .ref 1000000), (1, .ref 0), (2, .ref 80), (3, .ref 139), (4, .int x4)]) (st1 := [.int (x4 + (nI 3)), .ref 1000000, .int (E.2 ((x4 + (nI 2))).toNatClampNeg), .int (E.2 ((x4 + (nI 1))).toNatClampNeg), .ref 80, .int y154]) (S1 := rt v153) (pc1 := 917) [(.aload_n 0, .null, 0, 0), (.iload 4, .null, 0, 0), (.iconst 3, .int (nI 3), 0, 0), (.iadd, .null, 0, 0)] [] (by decide +kernel) rfl trivial ?_
        obtain ⟨hb157, h⟩ := h
        refine xr_sld (by decide +kernel) hb157 ?_
        refine xk_VI (As := [.int (E.2 ((x4 + (nI 1))).toNatClampNeg), .int (E.2 ((x4 + (nI 2))).toNatClampNeg), .int (E.2 ((x4 + (nI 3))).toNatClampNeg)]) (bb := 80) (rest := [.int y154]) (idx := 107) (i0 := 107) (m1 := 195) (ps := [1787, 1788, 1789]) (by decide +kernel) (by decide +kernel) (by decide) rfl ((gK_s (by decide)).trans (by decide +kernel)) (by decide) (Nat.le_of_ble_eq_true rfl) rfl h (fun y159 v158 h => ?_)
        refine xr_ic_eq (tgt := 1351) (off := 430) (by decide +kernel) (by decide) (fun hc => ?_) (fun hc => ?_)
        · replace h := h.1 hc
          refine xr_blk (lv1 := [(4, .int (x4 + (nI 6))), (0, .ref 1000000), (1, .ref 0), (2, .ref 80), (3, .ref 139)]) (st1 := []) (S1 := rt v158) (pc1 := 1354) [(.iinc 4 6, .int (nI 6), 0, 0)] [] (by decide +kernel) rfl trivial ?_
          refine xr_goto (tgt := 23) (off := -1331) (by decide +kernel) (by decide) ?_
          exact x_R.sub [1, 2, 3, 4, 0] rfl h
        · replace h := h.2 hc
          refine xr_blk (lv1 := [(0, .ref 1000000), (1, .ref 0), (2, .ref 80), (3, .ref 139), (4, .int x4)]) (st1 := [.int (nI 0)]) (S1 := rt v158) (pc1 := 925) [(.iconst 0, .int (nI 0), 0, 0)] [] (by decide +kernel) rfl trivial ?_
          exact xr_zret (by decide +kernel) rfl x_in2_0 ⟨_, _, rfl, rfl, h⟩
      · refine ⟨886, 926, by rw [hr]; decide +kernel, by decide, ?_⟩
        replace h := h.2.2.2.2.2.2.2.2.2.2.2.2.2.2.2.2.2.2.2.1 hr
        refine xr_blk (lv1 := [(0, .ref 1000000), (1, .ref 0), (2, .ref 80), (3, .ref 139), (4, .int x4)]) (st1 := [.int (x4 + (nI 1)), .ref 1000000, .ref 0]) (S1 := rt v) (pc1 := 932) [(.aload_n 1, .null, 0, 0), (.aload_n 0, .null, 0, 0), (.iload 4, .null, 0, 0), (.iconst 1, .int (nI 1), 0, 0), (.iadd, .null, 0, 0)] [] (by decide +kernel) rfl trivial ?_
        obtain ⟨hb160, h⟩ := h
        refine xr_sld (by decide +kernel) hb160 ?_
        refine xr_blk (lv1 := [(0, .ref 1000000), (1, .ref 0), (2, .ref 80), (3, .ref 139), (4, .int x4)]) (st1 := [.int (x4 + (nI 2)), .ref 1000000, .int (E.2 ((x4 + (nI 1))).toNatClampNeg), .ref 0]) (S1 := rt v) (pc1 := 938) [(.aload_n 0, .null, 0, 0), (.iload 4, .null, 0, 0), (.iconst 2, .int (nI 2), 0, 0), (.iadd, .null, 0, 0)] [] (by decide +kernel) rfl trivial ?_
        obtain ⟨hb161, h⟩ := h
        refine xr_sld (by decide +kernel) hb161 ?_
        refine xk_VI (As := [.int (E.2 ((x4 + (nI 1))).toNatClampNeg), .int (E.2 ((x4 + (nI 2))).toNatClampNeg)]) (bb := 0) (rest := []) (idx := 108) (i0 := 108) (m1 := 132) (ps := [1027, 1028, 1029]) (by decide +kernel) (by decide +kernel) (by decide) rfl ((gK_s (by decide)).trans (by decide +kernel)) (by decide) (Nat.le_of_ble_eq_true rfl) rfl h (fun y163 v162 h => ?_)
        refine xr_blk (lv1 := [(0, .ref 1000000), (1, .ref 0), (2, .ref 80), (3, .ref 139), (4, .int x4)]) (st1 := [.int (x4 + (nI 1)), .ref 1000000, .ref 80, .int y163]) (S1 := rt v162) (pc1 := 948) [(.aload_n 2, .null, 0, 0), (.aload_n 0, .null, 0, 0), (.iload 4, .null, 0, 0), (.iconst 1, .int (nI 1), 0, 0), (.iadd, .null, 0, 0)] [] (by decide +kernel) rfl trivial ?_
        obtain ⟨hb164, h⟩ := h
        refine xr_sld (by decide +kernel) hb164 ?_
        refine xr_blk (lv1 := [(0, .ref 1000000), (1, .ref 0), (2, .ref 80), (3, .ref 139), (4, .int x4)]) (st1 := [.int (x4 + (nI 2)), .ref 1000000, .int (E.2 ((x4 + (nI 1))).toNatClampNeg), .ref 80, .int y163]) (S1 := rt v162) (pc1 := 954) [(.aload_n 0, .null, 0, 0), (.iload 4, .null, 0, 0), (.iconst 2, .int (nI 2), 0, 0), (.iadd, .null, 0, 0)] [] (by decide +kernel) rfl trivial ?_
        obtain ⟨hb165, h⟩ := h
        refine xr_sld (by decide +kernel) hb165 ?_
        refine xk_VI (As := [.int (E.2 ((x4 + (nI 1))).toNatClampNeg), .int (E.2 ((x4 + (nI 2))).toNatClampNeg)]) (bb := 80) (rest := [.int y163]) (idx := 111) (i0 := 111) (m1 := 215) (ps := [1854, 1855, 1856]) (by decide +kernel) (by decide +kernel) (by decide) rfl ((gK_s (by decide)).trans (by decide +kernel)) (by decide) (Nat.le_of_ble_eq_true rfl) rfl h (fun y167 v166 h => ?_)
        refine xr_ic_eq (tgt := 1351) (off := 393) (by decide +kernel) (by decide) (fun hc => ?_) (fun hc => ?_)
        · replace h := h.1 hc
          refine xr_blk (lv1 := [(4, .int (x4 + (nI 6))), (0, .ref 1000000), (1, .ref 0), (2, .ref 80), (3, .ref 139)]) (st1 := []) (S1 := rt v166) (pc1 := 1354) [(.iinc 4 6, .int (nI 6), 0, 0)] [] (by decide +kernel) rfl trivial ?_
          refine xr_goto (tgt := 23) (off := -1331) (by decide +kernel) (by decide) ?_
          exact x_R.sub [1, 2, 3, 4, 0] rfl h
        · replace h := h.2 hc
          refine xr_blk (lv1 := [(0, .ref 1000000), (1, .ref 0), (2, .ref 80), (3, .ref 139), (4, .int x4)]) (st1 := [.int (nI 0)]) (S1 := rt v166) (pc1 := 962) [(.iconst 0, .int (nI 0), 0, 0)] [] (by decide +kernel) rfl trivial ?_
          exact xr_zret (by decide +kernel) rfl x_in2_0 ⟨_, _, rfl, rfl, h⟩
      · refine ⟨923, 963, by rw [hr]; decide +kernel, by decide, ?_⟩
        replace h := h.2.2.2.2.2.2.2.2.2.2.2.2.2.2.2.2.2.2.2.2.1 hr
        refine xr_blk (lv1 := [(0, .ref 1000000), (1, .ref 0), (2, .ref 80), (3, .ref 139), (4, .int x4)]) (st1 := [.int (x4 + (nI 1)), .ref 1000000, .ref 0]) (S1 := rt v) (pc1 := 969) [(.aload_n 1, .null, 0, 0), (.aload_n 0, .null, 0, 0), (.iload 4, .null, 0, 0), (.iconst 1, .int (nI 1), 0, 0), (.iadd, .null, 0, 0)] [] (by decide +kernel) rfl trivial ?_
        obtain ⟨hb168, h⟩ := h
        refine xr_sld (by decide +kernel) hb168 ?_
        refine xr_blk (lv1 := [(0, .ref 1000000), (1, .ref 0), (2, .ref 80), (3, .ref 139), (4, .int x4)]) (st1 := [.int (x4 + (nI 2)), .ref 1000000, .int (E.2 ((x4 + (nI 1))).toNatClampNeg), .ref 0]) (S1 := rt v) (pc1 := 975) [(.aload_n 0, .null, 0, 0), (.iload 4, .null, 0, 0), (.iconst 2, .int (nI 2), 0, 0), (.iadd, .null, 0, 0)] [] (by decide +kernel) rfl trivial ?_
        obtain ⟨hb169, h⟩ := h
        refine xr_sld (by decide +kernel) hb169 ?_
        refine xr_blk (lv1 := [(0, .ref 1000000), (1, .ref 0), (2, .ref 80), (3, .ref 139), (4, .int x4)]) (st1 := [.int (x4 + (nI 3)), .ref 1000000, .int (E.2 ((x4 + (nI 2))).toNatClampNeg), .int (E.2 ((x4 + (nI 1))).toNatClampNeg), .ref 0]) (S1 := rt v) (pc1 := 981) [(.aload_n 0, .null, 0, 0), (.iload 4, .null, 0, 0), (.iconst 3, .int (nI 3), 0, 0), (.iadd, .null, 0, 0)] [] (by decide +kernel) rfl trivial ?_
        obtain ⟨hb170, h⟩ := h
        refine xr_sld (by decide +kernel) hb170 ?_
        refine xr_blk (lv1 := [(0, .ref 1000000), (1, .ref 0), (2, .ref 80), (3, .ref 139), (4, .int x4)]) (st1 := [.int (x4 + (nI 4)), .ref 1000000, .int (E.2 ((x4 + (nI 3))).toNatClampNeg), .int (E.2 ((x4 + (nI 2))).toNatClampNeg), .int (E.2 ((x4 + (nI 1))).toNatClampNeg), .ref 0]) (S1 := rt v) (pc1 := 987) [(.aload_n 0, .null, 0, 0), (.iload 4, .null, 0, 0), (.iconst 4, .int (nI 4), 0, 0), (.iadd, .null, 0, 0)] [] (by decide +kernel) rfl trivial ?_
        obtain ⟨hb171, h⟩ := h
        refine xr_sld (by decide +kernel) hb171 ?_
        refine xr_blk (lv1 := [(0, .ref 1000000), (1, .ref 0), (2, .ref 80), (3, .ref 139), (4, .int x4)]) (st1 := [.int (x4 + (nI 5)), .ref 1000000, .int (E.2 ((x4 + (nI 4))).toNatClampNeg), .int (E.2 ((x4 + (nI 3))).toNatClampNeg), .int (E.2 ((x4 + (nI 2))).toNatClampNeg), .int (E.2 ((x4 + (nI 1))).toNatClampNeg), .ref 0]) (S1 := rt v) (pc1 := 993) [(.aload_n 0, .null, 0, 0), (.iload 4, .null, 0, 0), (.iconst 5, .int (nI 5), 0, 0), (.iadd, .null, 0, 0)] [] (by decide +kernel) rfl trivial ?_
        obtain ⟨hb172, h⟩ := h
        refine xr_sld (by decide +kernel) hb172 ?_
        refine xk_VI (As := [.int (E.2 ((x4 + (nI 1))).toNatClampNeg), .int (E.2 ((x4 + (nI 2))).toNatClampNeg), .int (E.2 ((x4 + (nI 3))).toNatClampNeg), .int (E.2 ((x4 + (nI 4))).toNatClampNeg), .int (E.2 ((x4 + (nI 5))).toNatClampNeg)]) (bb := 0) (rest := []) (idx := 112) (i0 := 112) (m1 := 133) (ps := [1148, 1149, 1150]) (by decide +kernel) (by decide +kernel) (by decide) rfl ((gK_s (by decide)).trans (by decide +kernel)) (by decide) (Nat.le_of_ble_eq_true rfl) rfl h (fun y174 v173 h => ?_)
        refine xr_blk (lv1 := [(0, .ref 1000000), (1, .ref 0), (2, .ref 80), (3, .ref 139), (4, .int x4)]) (st1 := [.int (x4 + (nI 1)), .ref 1000000, .ref 80, .int y174]) (S1 := rt v173) (pc1 := 1003) [(.aload_n 2, .null, 0, 0), (.aload_n 0, .null, 0, 0), (.iload 4, .null, 0, 0), (.iconst 1, .int (nI 1), 0, 0), (.iadd, .null, 0, 0)] [] (by decide +kernel) rfl trivial ?_
        obtain ⟨hb175, h⟩ := h
        refine xr_sld (by decide +kernel) hb175 ?_
        refine xr_blk (lv1 := [(0, .ref 1000000), (1, .ref 0), (2, .ref 80), (3, .ref 139), (4, .int x4)]) (st1 := [.int (x4 + (nI 2)), .ref 1000000, .int (E.2 ((x4 + (nI 1))).toNatClampNeg), .ref 80, .int y174]) (S1 := rt v173) (pc1 := 1009) [(.aload_n 0, .null, 0, 0), (.iload 4, .null, 0, 0), (.iconst 2, .int (nI 2), 0, 0), (.iadd, .null, 0, 0)] [] (by decide +kernel) rfl trivial ?_
        obtain ⟨hb176, h⟩ := h
        refine xr_sld (by decide +kernel) hb176 ?_
        refine xr_blk (lv1 := [(0, .ref 1000000), (1, .ref 0), (2, .ref 80), (3, .ref 139), (4, .int x4)]) (st1 := [.int (x4 + (nI 3)), .ref 1000000, .int (E.2 ((x4 + (nI 2))).toNatClampNeg), .int (E.2 ((x4 + (nI 1))).toNatClampNeg), .ref 80, .int y174]) (S1 := rt v173) (pc1 := 1015) [(.aload_n 0, .null, 0, 0), (.iload 4, .null, 0, 0), (.iconst 3, .int (nI 3), 0, 0), (.iadd, .null, 0, 0)] [] (by decide +kernel) rfl trivial ?_
        obtain ⟨hb177, h⟩ := h
        refine xr_sld (by decide +kernel) hb177 ?_
        refine xr_blk (lv1 := [(0, .ref 1000000), (1, .ref 0), (2, .ref 80), (3, .ref 139), (4, .int x4)]) (st1 := [.int (x4 + (nI 4)), .ref 1000000, .int (E.2 ((x4 + (nI 3))).toNatClampNeg), .int (E.2 ((x4 + (nI 2))).toNatClampNeg), .int (E.2 ((x4 + (nI 1))).toNatClampNeg), .ref 80, .int y174]) (S1 := rt v173) (pc1 := 1021) [(.aload_n 0, .null, 0, 0), (.iload 4, .null, 0, 0), (.iconst 4, .int (nI 4), 0, 0), (.iadd, .null, 0, 0)] [] (by decide +kernel) rfl trivial ?_
        obtain ⟨hb178, h⟩ := h
        refine xr_sld (by decide +kernel) hb178 ?_
        refine xr_blk (lv1 := [(0, .ref 1000000), (1, .ref 0), (2, .ref 80), (3, .ref 139), (4, .int x4)]) (st1 := [.int (x4 + (nI 5)), .ref 1000000, .int (E.2 ((x4 + (nI 4))).toNatClampNeg), .int (E.2 ((x4 + (nI 3))).toNatClampNeg), .int (E.2 ((x4 + (nI 2))).toNatClampNeg), .int (E.2 ((x4 + (nI 1))).toNatClampNeg), .ref 80, .int y174]) (S1 := rt v173) (pc1 := 1027) [(.aload_n 0, .null, 0, 0), (.iload 4, .null, 0, 0), (.iconst 5, .int (nI 5), 0, 0), (.iadd, .null, 0, 0)] [] (by decide +kernel) rfl trivial ?_
        obtain ⟨hb179, h⟩ := h
        refine xr_sld (by decide +kernel) hb179 ?_
        refine xk_VI (As := [.int (E.2 ((x4 + (nI 1))).toNatClampNeg), .int (E.2 ((x4 + (nI 2))).toNatClampNeg), .int (E.2 ((x4 + (nI 3))).toNatClampNeg), .int (E.2 ((x4 + (nI 4))).toNatClampNeg), .int (E.2 ((x4 + (nI 5))).toNatClampNeg)]) (bb := 80) (rest := [.int y174]) (idx := 115) (i0 := 115) (m1 := 197) (ps := [1795, 1796, 1797]) (by decide +kernel) (by decide +kernel) (by decide) rfl ((gK_s (by decide)).trans (by decide +kernel)) (by decide) (Nat.le_of_ble_eq_true rfl) rfl h (fun y181 v180 h => ?_)
        refine xr_ic_eq (tgt := 1351) (off := 320) (by decide +kernel) (by decide) (fun hc => ?_) (fun hc => ?_)
        · replace h := h.1 hc
          refine xr_blk (lv1 := [(4, .int (x4 + (nI 6))), (0, .ref 1000000), (1, .ref 0), (2, .ref 80), (3, .ref 139)]) (st1 := []) (S1 := rt v180) (pc1 := 1354) [(.iinc 4 6, .int (nI 6), 0, 0)] [] (by decide +kernel) rfl trivial ?_
          refine xr_goto (tgt := 23) (off := -1331) (by decide +kernel) (by decide) ?_
          exact x_R.sub [1, 2, 3, 4, 0] rfl h
        · replace h := h.2 hc
          refine xr_blk (lv1 := [(0, .ref 1000000), (1, .ref 0), (2, .ref 80), (3, .ref 139), (4, .int x4)]) (st1 := [.int (nI 0)]) (S1 := rt v180) (pc1 := 1035) [(.iconst 0, .int (nI 0), 0, 0)] [] (by decide +kernel) rfl trivial ?_
          exact xr_zret (by decide +kernel) rfl x_in2_0 ⟨_, _, rfl, rfl, h⟩
      · refine ⟨996, 1036, by rw [hr]; decide +kernel, by decide, ?_⟩
        replace h := h.2.2.2.2.2.2.2.2.2.2.2.2.2.2.2.2.2.2.2.2.2.1 hr
        refine xr_blk (lv1 := [(0, .ref 1000000), (1, .ref 0), (2, .ref 80), (3, .ref 139), (4, .int x4)]) (st1 := [.int (x4 + (nI 1)), .ref 1000000, .ref 0]) (S1 := rt v) (pc1 := 1042) [(.aload_n 1, .null, 0, 0), (.aload_n 0, .null, 0, 0), (.iload 4, .null, 0, 0), (.iconst 1, .int (nI 1), 0, 0), (.iadd, .null, 0, 0)] [] (by decide +kernel) rfl trivial ?_
        obtain ⟨hb182, h⟩ := h
        refine xr_sld (by decide +kernel) hb182 ?_
        refine xr_blk (lv1 := [(0, .ref 1000000), (1, .ref 0), (2, .ref 80), (3, .ref 139), (4, .int x4)]) (st1 := [.int (x4 + (nI 2)), .ref 1000000, .int (E.2 ((x4 + (nI 1))).toNatClampNeg), .ref 0]) (S1 := rt v) (pc1 := 1048) [(.aload_n 0, .null, 0, 0), (.iload 4, .null, 0, 0), (.iconst 2, .int (nI 2), 0, 0), (.iadd, .null, 0, 0)] [] (by decide +kernel) rfl trivial ?_
        obtain ⟨hb183, h⟩ := h
        refine xr_sld (by decide +kernel) hb183 ?_
        refine xr_blk (lv1 := [(0, .ref 1000000), (1, .ref 0), (2, .ref 80), (3, .ref 139), (4, .int x4)]) (st1 := [.int (x4 + (nI 3)), .ref 1000000, .int (E.2 ((x4 + (nI 2))).toNatClampNeg), .int (E.2 ((x4 + (nI 1))).toNatClampNeg), .ref 0]) (S1 := rt v) (pc1 := 1054) [(.aload_n 0, .null, 0, 0), (.iload 4, .null, 0, 0), (.iconst 3, .int (nI 3), 0, 0), (.iadd, .null, 0, 0)] [] (by decide +kernel) rfl trivial ?_
        obtain ⟨hb184, h⟩ := h
        refine xr_sld (by decide +kernel) hb184 ?_
        refine xr_if_eq (tgt := 1062) (off := 7) (by decide +kernel) (by decide) (fun hc => ?_) (fun hc => ?_)
        · replace h := h.1 hc
          refine xr_blk (lv1 := [(0, .ref 1000000), (1, .ref 0), (2, .ref 80), (3, .ref 139), (4, .int x4)]) (st1 := [.int (nI 0), .int (E.2 ((x4 + (nI 2))).toNatClampNeg), .int (E.2 ((x4 + (nI 1))).toNatClampNeg), .ref 0]) (S1 := rt v) (pc1 := 1063) [(.iconst 0, .int (nI 0), 0, 0)] [] (by decide +kernel) rfl trivial ?_
          refine xk_VI (As := [.int (E.2 ((x4 + (nI 1))).toNatClampNeg), .int (E.2 ((x4 + (nI 2))).toNatClampNeg), .int (nI 0)]) (bb := 0) (rest := []) (idx := 116) (i0 := 116) (m1 := 134) (ps := [1168, 1169, 1170]) (by decide +kernel) (by decide +kernel) (by decide) rfl ((gK_s (by decide)).trans (by decide +kernel)) (by decide) (Nat.le_of_ble_eq_true rfl) rfl h (fun y186 v185 h => ?_)
          refine xr_blk (lv1 := [(0, .ref 1000000), (1, .ref 0), (2, .ref 80), (3, .ref 139), (4, .int x4)]) (st1 := [.int (x4 + (nI 1)), .ref 1000000, .ref 80, .int y186]) (S1 := rt v185) (pc1 := 1072) [(.aload_n 2, .null, 0, 0), (.aload_n 0, .null, 0, 0), (.iload 4, .null, 0, 0), (.iconst 1, .int (nI 1), 0, 0), (.iadd, .null, 0, 0)] [] (by decide +kernel) rfl trivial ?_
          obtain ⟨hb187, h⟩ := h
          refine xr_sld (by decide +kernel) hb187 ?_
          refine xr_blk (lv1 := [(0, .ref 1000000), (1, .ref 0), (2, .ref 80), (3, .ref 139), (4, .int x4)]) (st1 := [.int (x4 + (nI 2)), .ref 1000000, .int (E.2 ((x4 + (nI 1))).toNatClampNeg), .ref 80, .int y186]) (S1 := rt v185) (pc1 := 1078) [(.aload_n 0, .null, 0, 0), (.iload 4, .null, 0, 0), (.iconst 2, .int (nI 2), 0, 0), (.iadd, .null, 0, 0)] [] (by decide +kernel) rfl trivial ?_
          obtain ⟨hb188, h⟩ := h
          refine xr_sld (by decide +kernel) hb188 ?_
          refine xr_blk (lv1 := [(0, .ref 1000000), (1, .ref 0), (2, .ref 80), (3, .ref 139), (4, .int x4)]) (st1 := [.int (x4 + (nI 3)), .ref 1000000, .int (E.2 ((x4 + (nI 2))).toNatClampNeg), .int (E.2 ((x4 + (nI 1))).toNatClampNeg), .ref 80, .int y186]) (S1 := rt v185) (pc1 := 1084) [(.aload_n 0, .null, 0, 0), (.iload 4, .null, 0, 0), (.iconst 3, .int (nI 3), 0, 0), (.iadd, .null, 0, 0)] [] (by decide +kernel) rfl trivial ?_
          obtain ⟨hb189, h⟩ := h
          refine xr_sld (by decide +kernel) hb189 ?_
          refine xr_if_eq (tgt := 1092) (off := 7) (by decide +kernel) (by decide) (fun hc => ?_) (fun hc => ?_)
          · replace h := h.1 hc
            refine xr_blk (lv1 := [(0, .ref 1000000), (1, .ref 0), (2, .ref 80), (3, .ref 139), (4, .int x4)]) (st1 := [.int (nI 0), .int (E.2 ((x4 + (nI 2))).toNatClampNeg), .int (E.2 ((x4 + (nI 1))).toNatClampNeg), .ref 80, .int y186]) (S1 := rt v185) (pc1 := 1093) [(.iconst 0, .int (nI 0), 0, 0)] [] (by decide +kernel) rfl trivial ?_
            refine xk_VI (As := [.int (E.2 ((x4 + (nI 1))).toNatClampNeg), .int (E.2 ((x4 + (nI 2))).toNatClampNeg), .int (nI 0)]) (bb := 80) (rest := [.int y186]) (idx := 120) (i0 := 120) (m1 := 208) (ps := [1803, 1804, 1805]) (by decide +kernel) (by decide +kernel) (by decide) rfl ((gK_s (by decide)).trans (by decide +kernel)) (by decide) (Nat.le_of_ble_eq_true rfl) rfl h (fun y191 v190 h => ?_)
            refine xr_ic_eq (tgt := 1351) (off := 255) (by decide +kernel) (by decide) (fun hc => ?_) (fun hc => ?_)
            · replace h := h.1 hc
              refine xr_blk (lv1 := [(4, .int (x4 + (nI 6))), (0, .ref 1000000), (1, .ref 0), (2, .ref 80), (3, .ref 139)]) (st1 := []) (S1 := rt v190) (pc1 := 1354) [(.iinc 4 6, .int (nI 6), 0, 0)] [] (by decide +kernel) rfl trivial ?_
              refine xr_goto (tgt := 23) (off := -1331) (by decide +kernel) (by decide) ?_
              exact x_R.sub [1, 2, 3, 4, 0] rfl h
            · replace h := h.2 hc
              refine xr_blk (lv1 := [(0, .ref 1000000), (1, .ref 0), (2, .ref 80), (3, .ref 139), (4, .int x4)]) (st1 := [.int (nI 0)]) (S1 := rt v190) (pc1 := 1100) [(.iconst 0, .int (nI 0), 0, 0)] [] (by decide +kernel) rfl trivial ?_
              exact xr_zret (by decide +kernel) rfl x_in2_0 ⟨_, _, rfl, rfl, h⟩
          · replace h := h.2 hc
            refine xr_blk (lv1 := [(0, .ref 1000000), (1, .ref 0), (2, .ref 80), (3, .ref 139), (4, .int x4)]) (st1 := [.int (nI 1), .int (E.2 ((x4 + (nI 2))).toNatClampNeg), .int (E.2 ((x4 + (nI 1))).toNatClampNeg), .ref 80, .int y186]) (S1 := rt v185) (pc1 := 1089) [(.iconst 1, .int (nI 1), 0, 0)] [] (by decide +kernel) rfl trivial ?_
            refine xr_goto (tgt := 1093) (off := 4) (by decide +kernel) (by decide) ?_
            refine xk_VI (As := [.int (E.2 ((x4 + (nI 1))).toNatClampNeg), .int (E.2 ((x4 + (nI 2))).toNatClampNeg), .int (nI 1)]) (bb := 80) (rest := [.int y186]) (idx := 120) (i0 := 120) (m1 := 208) (ps := [1803, 1804, 1805]) (by decide +kernel) (by decide +kernel) (by decide) rfl ((gK_s (by decide)).trans (by decide +kernel)) (by decide) (Nat.le_of_ble_eq_true rfl) rfl h (fun y193 v192 h => ?_)
            refine xr_ic_eq (tgt := 1351) (off := 255) (by decide +kernel) (by decide) (fun hc => ?_) (fun hc => ?_)
            · replace h := h.1 hc
              refine xr_blk (lv1 := [(4, .int (x4 + (nI 6))), (0, .ref 1000000), (1, .ref 0), (2, .ref 80), (3, .ref 139)]) (st1 := []) (S1 := rt v192) (pc1 := 1354) [(.iinc 4 6, .int (nI 6), 0, 0)] [] (by decide +kernel) rfl trivial ?_
              refine xr_goto (tgt := 23) (off := -1331) (by decide +kernel) (by decide) ?_
              exact x_R.sub [1, 2, 3, 4, 0] rfl h
            · replace h := h.2 hc
              refine xr_blk (lv1 := [(0, .ref 1000000), (1, .ref 0), (2, .ref 80), (3, .ref 139), (4, .int x4)]) (st1 := [.int (nI 0)]) (S1 := rt v192) (pc1 := 1100) [(.iconst 0, .int (nI 0), 0, 0)] [] (by decide +kernel) rfl trivial ?_
              exact xr_zret (by decide +kernel) rfl x_in2_0 ⟨_, _, rfl, rfl, h⟩
        · replace h := h.2 hc
          refine xr_blk (lv1 := [(0, .ref 1000000), (1, .ref 0), (2, .ref 80), (3, .ref 139), (4, .int x4)]) (st1 := [.int (nI 1), .int (E.2 ((x4 + (nI 2))).toNatClampNeg), .int (E.2 ((x4 + (nI 1))).toNatClampNeg), .ref 0]) (S1 := rt v) (pc1 := 1059) [(.iconst 1, .int (nI 1), 0, 0)] [] (by decide +kernel) rfl trivial ?_
          refine xr_goto (tgt := 1063) (off := 4) (by decide +kernel) (by decide) ?_
          refine xk_VI (As := [.int (E.2 ((x4 + (nI 1))).toNatClampNeg), .int (E.2 ((x4 + (nI 2))).toNatClampNeg), .int (nI 1)]) (bb := 0) (rest := []) (idx := 116) (i0 := 116) (m1 := 134) (ps := [1168, 1169, 1170]) (by decide +kernel) (by decide +kernel) (by decide) rfl ((gK_s (by decide)).trans (by decide +kernel)) (by decide) (Nat.le_of_ble_eq_true rfl) rfl h (fun y195 v194 h => ?_)
          refine xr_blk (lv1 := [(0, .ref 1000000), (1, .ref 0), (2, .ref 80), (3, .ref 139), (4, .int x4)]) (st1 := [.int (x4 + (nI 1)), .ref 1000000, .ref 80, .int y195]) (S1 := rt v194) (pc1 := 1072) [(.aload_n 2, .null, 0, 0), (.aload_n 0, .null, 0, 0), (.iload 4, .null, 0, 0), (.iconst 1, .int (nI 1), 0, 0), (.iadd, .null, 0, 0)] [] (by decide +kernel) rfl trivial ?_
          obtain ⟨hb196, h⟩ := h
          refine xr_sld (by decide +kernel) hb196 ?_
          refine xr_blk (lv1 := [(0, .ref 1000000), (1, .ref 0), (2, .ref 80), (3, .ref 139), (4, .int x4)]) (st1 := [.int (x4 + (nI 2)), .ref 1000000, .int (E.2 ((x4 + (nI 1))).toNatClampNeg), .ref 80, .int y195]) (S1 := rt v194) (pc1 := 1078) [(.aload_n 0, .null, 0, 0), (.iload 4, .null, 0, 0), (.iconst 2, .int (nI 2), 0, 0), (.iadd, .null, 0, 0)] [] (by decide +kernel) rfl trivial ?_
          obtain ⟨hb197, h⟩ := h
          refine xr_sld (by decide +kernel) hb197 ?_
          refine xr_blk (lv1 := [(0, .ref 1000000), (1, .ref 0), (2, .ref 80), (3, .ref 139), (4, .int x4)]) (st1 := [.int (x4 + (nI 3)), .ref 1000000, .int (E.2 ((x4 + (nI 2))).toNatClampNeg), .int (E.2 ((x4 + (nI 1))).toNatClampNeg), .ref 80, .int y195]) (S1 := rt v194) (pc1 := 1084) [(.aload_n 0, .null, 0, 0), (.iload 4, .null, 0, 0), (.iconst 3, .int (nI 3), 0, 0), (.iadd, .null, 0, 0)] [] (by decide +kernel) rfl trivial ?_
          obtain ⟨hb198, h⟩ := h
          refine xr_sld (by decide +kernel) hb198 ?_
          refine xr_if_eq (tgt := 1092) (off := 7) (by decide +kernel) (by decide) (fun hc => ?_) (fun hc => ?_)
          · replace h := h.1 hc
            refine xr_blk (lv1 := [(0, .ref 1000000), (1, .ref 0), (2, .ref 80), (3, .ref 139), (4, .int x4)]) (st1 := [.int (nI 0), .int (E.2 ((x4 + (nI 2))).toNatClampNeg), .int (E.2 ((x4 + (nI 1))).toNatClampNeg), .ref 80, .int y195]) (S1 := rt v194) (pc1 := 1093) [(.iconst 0, .int (nI 0), 0, 0)] [] (by decide +kernel) rfl trivial ?_
            refine xk_VI (As := [.int (E.2 ((x4 + (nI 1))).toNatClampNeg), .int (E.2 ((x4 + (nI 2))).toNatClampNeg), .int (nI 0)]) (bb := 80) (rest := [.int y195]) (idx := 120) (i0 := 120) (m1 := 208) (ps := [1803, 1804, 1805]) (by decide +kernel) (by decide +kernel) (by decide) rfl ((gK_s (by decide)).trans (by decide +kernel)) (by decide) (Nat.le_of_ble_eq_true rfl) rfl h (fun y200 v199 h => ?_)
            refine xr_ic_eq (tgt := 1351) (off := 255) (by decide +kernel) (by decide) (fun hc => ?_) (fun hc => ?_)
            · replace h := h.1 hc
              refine xr_blk (lv1 := [(4, .int (x4 + (nI 6))), (0, .ref 1000000), (1, .ref 0), (2, .ref 80), (3, .ref 139)]) (st1 := []) (S1 := rt v199) (pc1 := 1354) [(.iinc 4 6, .int (nI 6), 0, 0)] [] (by decide +kernel) rfl trivial ?_
              refine xr_goto (tgt := 23) (off := -1331) (by decide +kernel) (by decide) ?_
              exact x_R.sub [1, 2, 3, 4, 0] rfl h
            · replace h := h.2 hc
              refine xr_blk (lv1 := [(0, .ref 1000000), (1, .ref 0), (2, .ref 80), (3, .ref 139), (4, .int x4)]) (st1 := [.int (nI 0)]) (S1 := rt v199) (pc1 := 1100) [(.iconst 0, .int (nI 0), 0, 0)] [] (by decide +kernel) rfl trivial ?_
              exact xr_zret (by decide +kernel) rfl x_in2_0 ⟨_, _, rfl, rfl, h⟩
          · replace h := h.2 hc
            refine xr_blk (lv1 := [(0, .ref 1000000), (1, .ref 0), (2, .ref 80), (3, .ref 139), (4, .int x4)]) (st1 := [.int (nI 1), .int (E.2 ((x4 + (nI 2))).toNatClampNeg), .int (E.2 ((x4 + (nI 1))).toNatClampNeg), .ref 80, .int y195]) (S1 := rt v194) (pc1 := 1089) [(.iconst 1, .int (nI 1), 0, 0)] [] (by decide +kernel) rfl trivial ?_
            refine xr_goto (tgt := 1093) (off := 4) (by decide +kernel) (by decide) ?_
            refine xk_VI (As := [.int (E.2 ((x4 + (nI 1))).toNatClampNeg), .int (E.2 ((x4 + (nI 2))).toNatClampNeg), .int (nI 1)]) (bb := 80) (rest := [.int y195]) (idx := 120) (i0 := 120) (m1 := 208) (ps := [1803, 1804, 1805]) (by decide +kernel) (by decide +kernel) (by decide) rfl ((gK_s (by decide)).trans (by decide +kernel)) (by decide) (Nat.le_of_ble_eq_true rfl) rfl h (fun y202 v201 h => ?_)
            refine xr_ic_eq (tgt := 1351) (off := 255) (by decide +kernel) (by decide) (fun hc => ?_) (fun hc => ?_)
            · replace h := h.1 hc
              refine xr_blk (lv1 := [(4, .int (x4 + (nI 6))), (0, .ref 1000000), (1, .ref 0), (2, .ref 80), (3, .ref 139)]) (st1 := []) (S1 := rt v201) (pc1 := 1354) [(.iinc 4 6, .int (nI 6), 0, 0)] [] (by decide +kernel) rfl trivial ?_
              refine xr_goto (tgt := 23) (off := -1331) (by decide +kernel) (by decide) ?_
              exact x_R.sub [1, 2, 3, 4, 0] rfl h
            · replace h := h.2 hc
              refine xr_blk (lv1 := [(0, .ref 1000000), (1, .ref 0), (2, .ref 80), (3, .ref 139), (4, .int x4)]) (st1 := [.int (nI 0)]) (S1 := rt v201) (pc1 := 1100) [(.iconst 0, .int (nI 0), 0, 0)] [] (by decide +kernel) rfl trivial ?_
              exact xr_zret (by decide +kernel) rfl x_in2_0 ⟨_, _, rfl, rfl, h⟩
      · refine ⟨1061, 1101, by rw [hr]; decide +kernel, by decide, ?_⟩
        replace h := h.2.2.2.2.2.2.2.2.2.2.2.2.2.2.2.2.2.2.2.2.2.2.1 hr
        refine xr_blk (lv1 := [(0, .ref 1000000), (1, .ref 0), (2, .ref 80), (3, .ref 139), (4, .int x4)]) (st1 := [.int (x4 + (nI 1)), .ref 1000000, .ref 0]) (S1 := rt v) (pc1 := 1107) [(.aload_n 1, .null, 0, 0), (.aload_n 0, .null, 0, 0), (.iload 4, .null, 0, 0), (.iconst 1, .int (nI 1), 0, 0), (.iadd, .null, 0, 0)] [] (by decide +kernel) rfl trivial ?_
        obtain ⟨hb203, h⟩ := h
        refine xr_sld (by decide +kernel) hb203 ?_
        refine xr_blk (lv1 := [(0, .ref 1000000), (1, .ref 0), (2, .ref 80), (3, .ref 139), (4, .int x4)]) (st1 := [.int (x4 + (nI 2)), .ref 1000000, .int (E.2 ((x4 + (nI 1))).toNatClampNeg), .ref 0]) (S1 := rt v) (pc1 := 1113) [(.aload_n 0, .null, 0, 0), (.iload 4, .null, 0, 0), (.iconst 2, .int (nI 2), 0, 0), (.iadd, .null, 0, 0)] [] (by decide +kernel) rfl trivial ?_
        obtain ⟨hb204, h⟩ := h
        refine xr_sld (by decide +kernel) hb204 ?_
        refine xr_blk (lv1 := [(0, .ref 1000000), (1, .ref 0), (2, .ref 80), (3, .ref 139), (4, .int x4)]) (st1 := [.int (x4 + (nI 3)), .ref 1000000, .int (E.2 ((x4 + (nI 2))).toNatClampNeg), .int (E.2 ((x4 + (nI 1))).toNatClampNeg), .ref 0]) (S1 := rt v) (pc1 := 1119) [(.aload_n 0, .null, 0, 0), (.iload 4, .null, 0, 0), (.iconst 3, .int (nI 3), 0, 0), (.iadd, .null, 0, 0)] [] (by decide +kernel) rfl trivial ?_
        obtain ⟨hb205, h⟩ := h
        refine xr_sld (by decide +kernel) hb205 ?_
        refine xr_blk (lv1 := [(0, .ref 1000000), (1, .ref 0), (2, .ref 80), (3, .ref 139), (4, .int x4)]) (st1 := [.int (x4 + (nI 4)), .ref 1000000, .int (E.2 ((x4 + (nI 3))).toNatClampNeg), .int (E.2 ((x4 + (nI 2))).toNatClampNeg), .int (E.2 ((x4 + (nI 1))).toNatClampNeg), .ref 0]) (S1 := rt v) (pc1 := 1125) [(.aload_n 0, .null, 0, 0), (.iload 4, .null, 0, 0), (.iconst 4, .int (nI 4), 0, 0), (.iadd, .null, 0, 0)] [] (by decide +kernel) rfl trivial ?_
        obtain ⟨hb206, h⟩ := h
        refine xr_sld (by decide +kernel) hb206 ?_
        refine xr_if_eq (tgt := 1133) (off := 7) (by decide +kernel) (by decide) (fun hc => ?_) (fun hc => ?_)
        · replace h := h.1 hc
          refine xr_blk (lv1 := [(0, .ref 1000000), (1, .ref 0), (2, .ref 80), (3, .ref 139), (4, .int x4)]) (st1 := [.int (nI 0), .int (E.2 ((x4 + (nI 3))).toNatClampNeg), .int (E.2 ((x4 + (nI 2))).toNatClampNeg), .int (E.2 ((x4 + (nI 1))).toNatClampNeg), .ref 0]) (S1 := rt v) (pc1 := 1134) [(.iconst 0, .int (nI 0), 0, 0)] [] (by decide +kernel) rfl trivial ?_
          refine xk_VI (As := [.int (E.2 ((x4 + (nI 1))).toNatClampNeg), .int (E.2 ((x4 + (nI 2))).toNatClampNeg), .int (E.2 ((x4 + (nI 3))).toNatClampNeg), .int (nI 0)]) (bb := 0) (rest := []) (idx := 121) (i0 := 121) (m1 := 135) (ps := [1176, 1177, 1178]) (by decide +kernel) (by decide +kernel) (by decide) rfl ((gK_s (by decide)).trans (by decide +kernel)) (by decide) (Nat.le_of_ble_eq_true rfl) rfl h (fun y208 v207 h => ?_)
          refine xr_blk (lv1 := [(0, .ref 1000000), (1, .ref 0), (2, .ref 80), (3, .ref 139), (4, .int x4)]) (st1 := [.int (x4 + (nI 1)), .ref 1000000, .ref 80, .int y208]) (S1 := rt v207) (pc1 := 1143) [(.aload_n 2, .null, 0, 0), (.aload_n 0, .null, 0, 0), (.iload 4, .null, 0, 0), (.iconst 1, .int (nI 1), 0, 0), (.iadd, .null, 0, 0)] [] (by decide +kernel) rfl trivial ?_
          obtain ⟨hb209, h⟩ := h
          refine xr_sld (by decide +kernel) hb209 ?_
          refine xr_blk (lv1 := [(0, .ref 1000000), (1, .ref 0), (2, .ref 80), (3, .ref 139), (4, .int x4)]) (st1 := [.int (x4 + (nI 2)), .ref 1000000, .int (E.2 ((x4 + (nI 1))).toNatClampNeg), .ref 80, .int y208]) (S1 := rt v207) (pc1 := 1149) [(.aload_n 0, .null, 0, 0), (.iload 4, .null, 0, 0), (.iconst 2, .int (nI 2), 0, 0), (.iadd, .null, 0, 0)] [] (by decide +kernel) rfl trivial ?_
          obtain ⟨hb210, h⟩ := h
          refine xr_sld (by decide +kernel) hb210 ?_
          refine xr_blk (lv1 := [(0, .ref 1000000), (1, .ref 0), (2, .ref 80), (3, .ref 139), (4, .int x4)]) (st1 := [.int (x4 + (nI 3)), .ref 1000000, .int (E.2 ((x4 + (nI 2))).toNatClampNeg), .int (E.2 ((x4 + (nI 1))).toNatClampNeg), .ref 80, .int y208]) (S1 := rt v207) (pc1 := 1155) [(.aload_n 0, .null, 0, 0), (.iload 4, .null, 0, 0), (.iconst 3, .int (nI 3), 0, 0), (.iadd, .null, 0, 0)] [] (by decide +kernel) rfl trivial ?_
          obtain ⟨hb211, h⟩ := h
          refine xr_sld (by decide +kernel) hb211 ?_
          refine xr_blk (lv1 := [(0, .ref 1000000), (1, .ref 0), (2, .ref 80), (3, .ref 139), (4, .int x4)]) (st1 := [.int (x4 + (nI 4)), .ref 1000000, .int (E.2 ((x4 + (nI 3))).toNatClampNeg), .int (E.2 ((x4 + (nI 2))).toNatClampNeg), .int (E.2 ((x4 + (nI 1))).toNatClampNeg), .ref 80, .int y208]) (S1 := rt v207) (pc1 := 1161) [(.aload_n 0, .null, 0, 0), (.iload 4, .null, 0, 0), (.iconst 4, .int (nI 4), 0, 0), (.iadd, .null, 0, 0)] [] (by decide +kernel) rfl trivial ?_
          obtain ⟨hb212, h⟩ := h
          refine xr_sld (by decide +kernel) hb212 ?_
          refine xr_if_eq (tgt := 1169) (off := 7) (by decide +kernel) (by decide) (fun hc => ?_) (fun hc => ?_)
          · replace h := h.1 hc
            refine xr_blk (lv1 := [(0, .ref 1000000), (1, .ref 0), (2, .ref 80), (3, .ref 139), (4, .int x4)]) (st1 := [.int (nI 0), .int (E.2 ((x4 + (nI 3))).toNatClampNeg), .int (E.2 ((x4 + (nI 2))).toNatClampNeg), .int (E.2 ((x4 + (nI 1))).toNatClampNeg), .ref 80, .int y208]) (S1 := rt v207) (pc1 := 1170) [(.iconst 0, .int (nI 0), 0, 0)] [] (by decide +kernel) rfl trivial ?_
            refine xk_VI (As := [.int (E.2 ((x4 + (nI 1))).toNatClampNeg), .int (E.2 ((x4 + (nI 2))).toNatClampNeg), .int (E.2 ((x4 + (nI 3))).toNatClampNeg), .int (nI 0)]) (bb := 80) (rest := [.int y208]) (idx := 125) (i0 := 125) (m1 := 209) (ps := [1846, 1847, 1848]) (by decide +kernel) (by decide +kernel) (by decide) rfl ((gK_s (by decide)).trans (by decide +kernel)) (by decide) (Nat.le_of_ble_eq_true rfl) rfl h (fun y214 v213 h => ?_)
            refine xr_ic_eq (tgt := 1351) (off := 178) (by decide +kernel) (by decide) (fun hc => ?_) (fun hc => ?_)
            · replace h := h.1 hc
              refine xr_blk (lv1 := [(4, .int (x4 + (nI 6))), (0, .ref 1000000), (1, .ref 0), (2, .ref 80), (3, .ref 139)]) (st1 := []) (S1 := rt v213) (pc1 := 1354) [(.iinc 4 6, .int (nI 6), 0, 0)] [] (by decide +kernel) rfl trivial ?_
              refine xr_goto (tgt := 23) (off := -1331) (by decide +kernel) (by decide) ?_
              exact x_R.sub [1, 2, 3, 4, 0] rfl h
            · replace h := h.2 hc
              refine xr_blk (lv1 := [(0, .ref 1000000), (1, .ref 0), (2, .ref 80), (3, .ref 139), (4, .int x4)]) (st1 := [.int (nI 0)]) (S1 := rt v213) (pc1 := 1177) [(.iconst 0, .int (nI 0), 0, 0)] [] (by decide +kernel) rfl trivial ?_
              exact xr_zret (by decide +kernel) rfl x_in2_0 ⟨_, _, rfl, rfl, h⟩
          · replace h := h.2 hc
            refine xr_blk (lv1 := [(0, .ref 1000000), (1, .ref 0), (2, .ref 80), (3, .ref 139), (4, .int x4)]) (st1 := [.int (nI 1), .int (E.2 ((x4 + (nI 3))).toNatClampNeg), .int (E.2 ((x4 + (nI 2))).toNatClampNeg), .int (E.2 ((x4 + (nI 1))).toNatClampNeg), .ref 80, .int y208]) (S1 := rt v207) (pc1 := 1166) [(.iconst 1, .int (nI 1), 0, 0)] [] (by decide +kernel) rfl trivial ?_
            refine xr_goto (tgt := 1170) (off := 4) (by decide +kernel) (by decide) ?_
            refine xk_VI (As := [.int (E.2 ((x4 + (nI 1))).toNatClampNeg), .int (E.2 ((x4 + (nI 2))).toNatClampNeg), .int (E.2 ((x4 + (nI 3))).toNatClampNeg), .int (nI 1)]) (bb := 80) (rest := [.int y208]) (idx := 125) (i0 := 125) (m1 := 209) (ps := [1846, 1847, 1848]) (by decide +kernel) (by decide +kernel) (by decide) rfl ((gK_s (by decide)).trans (by decide +kernel)) (by decide) (Nat.le_of_ble_eq_true rfl) rfl h (fun y216 v215 h => ?_)
            refine xr_ic_eq (tgt := 1351) (off := 178) (by decide +kernel) (by decide) (fun hc => ?_) (fun hc => ?_)
            · replace h := h.1 hc
              refine xr_blk (lv1 := [(4, .int (x4 + (nI 6))), (0, .ref 1000000), (1, .ref 0), (2, .ref 80), (3, .ref 139)]) (st1 := []) (S1 := rt v215) (pc1 := 1354) [(.iinc 4 6, .int (nI 6), 0, 0)] [] (by decide +kernel) rfl trivial ?_
              refine xr_goto (tgt := 23) (off := -1331) (by decide +kernel) (by decide) ?_
              exact x_R.sub [1, 2, 3, 4, 0] rfl h
            · replace h := h.2 hc
              refine xr_blk (lv1 := [(0, .ref 1000000), (1, .ref 0), (2, .ref 80), (3, .ref 139), (4, .int x4)]) (st1 := [.int (nI 0)]) (S1 := rt v215) (pc1 := 1177) [(.iconst 0, .int (nI 0), 0, 0)] [] (by decide +kernel) rfl trivial ?_
              exact xr_zret (by decide +kernel) rfl x_in2_0 ⟨_, _, rfl, rfl, h⟩
        · replace h := h.2 hc
          refine xr_blk (lv1 := [(0, .ref 1000000), (1, .ref 0), (2, .ref 80), (3, .ref 139), (4, .int x4)]) (st1 := [.int (nI 1), .int (E.2 ((x4 + (nI 3))).toNatClampNeg), .int (E.2 ((x4 + (nI 2))).toNatClampNeg), .int (E.2 ((x4 + (nI 1))).toNatClampNeg), .ref 0]) (S1 := rt v) (pc1 := 1130) [(.iconst 1, .int (nI 1), 0, 0)] [] (by decide +kernel) rfl trivial ?_
          refine xr_goto (tgt := 1134) (off := 4) (by decide +kernel) (by decide) ?_
          refine xk_VI (As := [.int (E.2 ((x4 + (nI 1))).toNatClampNeg), .int (E.2 ((x4 + (nI 2))).toNatClampNeg), .int (E.2 ((x4 + (nI 3))).toNatClampNeg), .int (nI 1)]) (bb := 0) (rest := []) (idx := 121) (i0 := 121) (m1 := 135) (ps := [1176, 1177, 1178]) (by decide +kernel) (by decide +kernel) (by decide) rfl ((gK_s (by decide)).trans (by decide +kernel)) (by decide) (Nat.le_of_ble_eq_true rfl) rfl h (fun y218 v217 h => ?_)
          refine xr_blk (lv1 := [(0, .ref 1000000), (1, .ref 0), (2, .ref 80), (3, .ref 139), (4, .int x4)]) (st1 := [.int (x4 + (nI 1)), .ref 1000000, .ref 80, .int y218]) (S1 := rt v217) (pc1 := 1143) [(.aload_n 2, .null, 0, 0), (.aload_n 0, .null, 0, 0), (.iload 4, .null, 0, 0), (.iconst 1, .int (nI 1), 0, 0), (.iadd, .null, 0, 0)] [] (by decide +kernel) rfl trivial ?_
          obtain ⟨hb219, h⟩ := h
          refine xr_sld (by decide +kernel) hb219 ?_
          refine xr_blk (lv1 := [(0, .ref 1000000), (1, .ref 0), (2, .ref 80), (3, .ref 139), (4, .int x4)]) (st1 := [.int (x4 + (nI 2)), .ref 1000000, .int (E.2 ((x4 + (nI 1))).toNatClampNeg), .ref 80, .int y218]) (S1 := rt v217) (pc1 := 1149) [(.aload_n 0, .null, 0, 0), (.iload 4, .null, 0, 0), (.iconst 2, .int (nI 2), 0, 0), (.iadd, .null, 0, 0)] [] (by decide +kernel) rfl trivial ?_
          obtain ⟨hb220, h⟩ := h
          refine xr_sld (by decide +kernel) hb220 ?_
          refine xr_blk (lv1 := [(0, .ref 1000000), (1, .ref 0), (2, .ref 80), (3, .ref 139), (4, .int x4)]) (st1 := [.int (x4 + (nI 3)), .ref 1000000, .int (E.2 ((x4 + (nI 2))).toNatClampNeg), .int (E.2 ((x4 + (nI 1))).toNatClampNeg), .ref 80, .int y218]) (S1 := rt v217) (pc1 := 1155) [(.aload_n 0, .null, 0, 0), (.iload 4, .null, 0, 0), (.iconst 3, .int (nI 3), 0, 0), (.iadd, .null, 0, 0)] [] (by decide +kernel) rfl trivial ?_
          obtain ⟨hb221, h⟩ := h
          refine xr_sld (by decide +kernel) hb221 ?_
          refine xr_blk (lv1 := [(0, .ref 1000000), (1, .ref 0), (2, .ref 80), (3, .ref 139), (4, .int x4)]) (st1 := [.int (x4 + (nI 4)), .ref 1000000, .int (E.2 ((x4 + (nI 3))).toNatClampNeg), .int (E.2 ((x4 + (nI 2))).toNatClampNeg), .int (E.2 ((x4 + (nI 1))).toNatClampNeg), .ref 80, .int y218]) (S1 := rt v217) (pc1 := 1161) [(.aload_n 0, .null, 0, 0), (.iload 4, .null, 0, 0), (.iconst 4, .int (nI 4), 0, 0), (.iadd, .null, 0, 0)] [] (by decide +kernel) rfl trivial ?_
          obtain ⟨hb222, h⟩ := h
          refine xr_sld (by decide +kernel) hb222 ?_
          refine xr_if_eq (tgt := 1169) (off := 7) (by decide +kernel) (by decide) (fun hc => ?_) (fun hc => ?_)
          · replace h := h.1 hc
            refine xr_blk (lv1 := [(0, .ref 1000000), (1, .ref 0), (2, .ref 80), (3, .ref 139), (4, .int x4)]) (st1 := [.int (nI 0), .int (E.2 ((x4 + (nI 3))).toNatClampNeg), .int (E.2 ((x4 + (nI 2))).toNatClampNeg), .int (E.2 ((x4 + (nI 1))).toNatClampNeg), .ref 80, .int y218]) (S1 := rt v217) (pc1 := 1170) [(.iconst 0, .int (nI 0), 0, 0)] [] (by decide +kernel) rfl trivial ?_
            refine xk_VI (As := [.int (E.2 ((x4 + (nI 1))).toNatClampNeg), .int (E.2 ((x4 + (nI 2))).toNatClampNeg), .int (E.2 ((x4 + (nI 3))).toNatClampNeg), .int (nI 0)]) (bb := 80) (rest := [.int y218]) (idx := 125) (i0 := 125) (m1 := 209) (ps := [1846, 1847, 1848]) (by decide +kernel) (by decide +kernel) (by decide) rfl ((gK_s (by decide)).trans (by decide +kernel)) (by decide) (Nat.le_of_ble_eq_true rfl) rfl h (fun y224 v223 h => ?_)
            refine xr_ic_eq (tgt := 1351) (off := 178) (by decide +kernel) (by decide) (fun hc => ?_) (fun hc => ?_)
            · replace h := h.1 hc
              refine xr_blk (lv1 := [(4, .int (x4 + (nI 6))), (0, .ref 1000000), (1, .ref 0), (2, .ref 80), (3, .ref 139)]) (st1 := []) (S1 := rt v223) (pc1 := 1354) [(.iinc 4 6, .int (nI 6), 0, 0)] [] (by decide +kernel) rfl trivial ?_
              refine xr_goto (tgt := 23) (off := -1331) (by decide +kernel) (by decide) ?_
              exact x_R.sub [1, 2, 3, 4, 0] rfl h
            · replace h := h.2 hc
              refine xr_blk (lv1 := [(0, .ref 1000000), (1, .ref 0), (2, .ref 80), (3, .ref 139), (4, .int x4)]) (st1 := [.int (nI 0)]) (S1 := rt v223) (pc1 := 1177) [(.iconst 0, .int (nI 0), 0, 0)] [] (by decide +kernel) rfl trivial ?_
              exact xr_zret (by decide +kernel) rfl x_in2_0 ⟨_, _, rfl, rfl, h⟩
          · replace h := h.2 hc
            refine xr_blk (lv1 := [(0, .ref 1000000), (1, .ref 0), (2, .ref 80), (3, .ref 139), (4, .int x4)]) (st1 := [.int (nI 1), .int (E.2 ((x4 + (nI 3))).toNatClampNeg), .int (E.2 ((x4 + (nI 2))).toNatClampNeg), .int (E.2 ((x4 + (nI 1))).toNatClampNeg), .ref 80, .int y218]) (S1 := rt v217) (pc1 := 1166) [(.iconst 1, .int (nI 1), 0, 0)] [] (by decide +kernel) rfl trivial ?_
            refine xr_goto (tgt := 1170) (off := 4) (by decide +kernel) (by decide) ?_
            refine xk_VI (As := [.int (E.2 ((x4 + (nI 1))).toNatClampNeg), .int (E.2 ((x4 + (nI 2))).toNatClampNeg), .int (E.2 ((x4 + (nI 3))).toNatClampNeg), .int (nI 1)]) (bb := 80) (rest := [.int y218]) (idx := 125) (i0 := 125) (m1 := 209) (ps := [1846, 1847, 1848]) (by decide +kernel) (by decide +kernel) (by decide) rfl ((gK_s (by decide)).trans (by decide +kernel)) (by decide) (Nat.le_of_ble_eq_true rfl) rfl h (fun y226 v225 h => ?_)
            refine xr_ic_eq (tgt := 1351) (off := 178) (by decide +kernel) (by decide) (fun hc => ?_) (fun hc => ?_)
            · replace h := h.1 hc
              refine xr_blk (lv1 := [(4, .int (x4 + (nI 6))), (0, .ref 1000000), (1, .ref 0), (2, .ref 80), (3, .ref 139)]) (st1 := []) (S1 := rt v225) (pc1 := 1354) [(.iinc 4 6, .int (nI 6), 0, 0)] [] (by decide +kernel) rfl trivial ?_
              refine xr_goto (tgt := 23) (off := -1331) (by decide +kernel) (by decide) ?_
              exact x_R.sub [1, 2, 3, 4, 0] rfl h
            · replace h := h.2 hc
              refine xr_blk (lv1 := [(0, .ref 1000000), (1, .ref 0), (2, .ref 80), (3, .ref 139), (4, .int x4)]) (st1 := [.int (nI 0)]) (S1 := rt v225) (pc1 := 1177) [(.iconst 0, .int (nI 0), 0, 0)] [] (by decide +kernel) rfl trivial ?_
              exact xr_zret (by decide +kernel) rfl x_in2_0 ⟨_, _, rfl, rfl, h⟩
      · refine ⟨1138, 1178, by rw [hr]; decide +kernel, by decide, ?_⟩
        replace h := h.2.2.2.2.2.2.2.2.2.2.2.2.2.2.2.2.2.2.2.2.2.2.2.1 hr
        refine xr_blk (lv1 := [(0, .ref 1000000), (1, .ref 0), (2, .ref 80), (3, .ref 139), (4, .int x4)]) (st1 := [.int (x4 + (nI 1)), .ref 1000000, .ref 0]) (S1 := rt v) (pc1 := 1184) [(.aload_n 1, .null, 0, 0), (.aload_n 0, .null, 0, 0), (.iload 4, .null, 0, 0), (.iconst 1, .int (nI 1), 0, 0), (.iadd, .null, 0, 0)] [] (by decide +kernel) rfl trivial ?_
        obtain ⟨hb227, h⟩ := h
        refine xr_sld (by decide +kernel) hb227 ?_
        refine xk_VI (As := [.int (E.2 ((x4 + (nI 1))).toNatClampNeg)]) (bb := 0) (rest := []) (idx := 126) (i0 := 126) (m1 := 136) (ps := [1181, 1182, 1183]) (by decide +kernel) (by decide +kernel) (by decide) rfl ((gK_s (by decide)).trans (by decide +kernel)) (by decide) (Nat.le_of_ble_eq_true rfl) rfl h (fun y229 v228 h => ?_)
        refine xr_blk (lv1 := [(0, .ref 1000000), (1, .ref 0), (2, .ref 80), (3, .ref 139), (4, .int x4)]) (st1 := [.int (x4 + (nI 1)), .ref 1000000, .ref 80, .int y229]) (S1 := rt v228) (pc1 := 1194) [(.aload_n 2, .null, 0, 0), (.aload_n 0, .null, 0, 0), (.iload 4, .null, 0, 0), (.iconst 1, .int (nI 1), 0, 0), (.iadd, .null, 0, 0)] [] (by decide +kernel) rfl trivial ?_
        obtain ⟨hb230, h⟩ := h
        refine xr_sld (by decide +kernel) hb230 ?_
        refine xk_VI (As := [.int (E.2 ((x4 + (nI 1))).toNatClampNeg)]) (bb := 80) (rest := [.int y229]) (idx := 129) (i0 := 129) (m1 := 210) (ps := [1850, 1851, 1852]) (by decide +kernel) (by decide +kernel) (by decide) rfl ((gK_s (by decide)).trans (by decide +kernel)) (by decide) (Nat.le_of_ble_eq_true rfl) rfl h (fun y232 v231 h => ?_)
        refine xr_ic_eq (tgt := 1351) (off := 153) (by decide +kernel) (by decide) (fun hc => ?_) (fun hc => ?_)
        · replace h := h.1 hc
          refine xr_blk (lv1 := [(4, .int (x4 + (nI 6))), (0, .ref 1000000), (1, .ref 0), (2, .ref 80), (3, .ref 139)]) (st1 := []) (S1 := rt v231) (pc1 := 1354) [(.iinc 4 6, .int (nI 6), 0, 0)] [] (by decide +kernel) rfl trivial ?_
          refine xr_goto (tgt := 23) (off := -1331) (by decide +kernel) (by decide) ?_
          exact x_R.sub [1, 2, 3, 4, 0] rfl h
        · replace h := h.2 hc
          refine xr_blk (lv1 := [(0, .ref 1000000), (1, .ref 0), (2, .ref 80), (3, .ref 139), (4, .int x4)]) (st1 := [.int (nI 0)]) (S1 := rt v231) (pc1 := 1202) [(.iconst 0, .int (nI 0), 0, 0)] [] (by decide +kernel) rfl trivial ?_
          exact xr_zret (by decide +kernel) rfl x_in2_0 ⟨_, _, rfl, rfl, h⟩
      · refine ⟨1163, 1203, by rw [hr]; decide +kernel, by decide, ?_⟩
        replace h := h.2.2.2.2.2.2.2.2.2.2.2.2.2.2.2.2.2.2.2.2.2.2.2.2.1 hr
        refine xr_blk (lv1 := [(0, .ref 1000000), (1, .ref 0), (2, .ref 80), (3, .ref 139), (4, .int x4)]) (st1 := [.int (x4 + (nI 1)), .ref 1000000, .ref 0]) (S1 := rt v) (pc1 := 1209) [(.aload_n 1, .null, 0, 0), (.aload_n 0, .null, 0, 0), (.iload 4, .null, 0, 0), (.iconst 1, .int (nI 1), 0, 0), (.iadd, .null, 0, 0)] [] (by decide +kernel) rfl trivial ?_
        obtain ⟨hb233, h⟩ := h
        refine xr_sld (by decide +kernel) hb233 ?_
        refine xr_blk (lv1 := [(0, .ref 1000000), (1, .ref 0), (2, .ref 80), (3, .ref 139), (4, .int x4)]) (st1 := [.int (x4 + (nI 2)), .ref 1000000, .int (E.2 ((x4 + (nI 1))).toNatClampNeg), .ref 0]) (S1 := rt v) (pc1 := 1215) [(.aload_n 0, .null, 0, 0), (.iload 4, .null, 0, 0), (.iconst 2, .int (nI 2), 0, 0), (.iadd, .null, 0, 0)] [] (by decide +kernel) rfl trivial ?_
        obtain ⟨hb234, h⟩ := h
        refine xr_sld (by decide +kernel) hb234 ?_
        refine xk_VI (As := [.int (E.2 ((x4 + (nI 1))).toNatClampNeg), .int (E.2 ((x4 + (nI 2))).toNatClampNeg)]) (bb := 0) (rest := []) (idx := 130) (i0 := 130) (m1 := 137) (ps := [1189, 1190, 1191]) (by decide +kernel) (by decide +kernel) (by decide) rfl ((gK_s (by decide)).trans (by decide +kernel)) (by decide) (Nat.le_of_ble_eq_true rfl) rfl h (fun y236 v235 h => ?_)
        refine xr_blk (lv1 := [(0, .ref 1000000), (1, .ref 0), (2, .ref 80), (3, .ref 139), (4, .int x4)]) (st1 := [.int (x4 + (nI 1)), .ref 1000000, .ref 80, .int y236]) (S1 := rt v235) (pc1 := 1225) [(.aload_n 2, .null, 0, 0), (.aload_n 0, .null, 0, 0), (.iload 4, .null, 0, 0), (.iconst 1, .int (nI 1), 0, 0), (.iadd, .null, 0, 0)] [] (by decide +kernel) rfl trivial ?_
        obtain ⟨hb237, h⟩ := h
        refine xr_sld (by decide +kernel) hb237 ?_
        refine xr_blk (lv1 := [(0, .ref 1000000), (1, .ref 0), (2, .ref 80), (3, .ref 139), (4, .int x4)]) (st1 := [.int (x4 + (nI 2)), .ref 1000000, .int (E.2 ((x4 + (nI 1))).toNatClampNeg), .ref 80, .int y236]) (S1 := rt v235) (pc1 := 1231) [(.aload_n 0, .null, 0, 0), (.iload 4, .null, 0, 0), (.iconst 2, .int (nI 2), 0, 0), (.iadd, .null, 0, 0)] [] (by decide +kernel) rfl trivial ?_
        obtain ⟨hb238, h⟩ := h
        refine xr_sld (by decide +kernel) hb238 ?_
        refine xk_VI (As := [.int (E.2 ((x4 + (nI 1))).toNatClampNeg), .int (E.2 ((x4 + (nI 2))).toNatClampNeg)]) (bb := 80) (rest := [.int y236]) (idx := 133) (i0 := 133) (m1 := 220) (ps := [1874, 1875, 1876]) (by decide +kernel) (by decide +kernel) (by decide) rfl ((gK_s (by decide)).trans (by decide +kernel)) (by decide) (Nat.le_of_ble_eq_true rfl) rfl h (fun y240 v239 h => ?_)
        refine xr_ic_eq (tgt := 1351) (off := 116) (by decide +kernel) (by decide) (fun hc => ?_) (fun hc => ?_)
        · replace h := h.1 hc
          refine xr_blk (lv1 := [(4, .int (x4 + (nI 6))), (0, .ref 1000000), (1, .ref 0), (2, .ref 80), (3, .ref 139)]) (st1 := []) (S1 := rt v239) (pc1 := 1354) [(.iinc 4 6, .int (nI 6), 0, 0)] [] (by decide +kernel) rfl trivial ?_
          refine xr_goto (tgt := 23) (off := -1331) (by decide +kernel) (by decide) ?_
          exact x_R.sub [1, 2, 3, 4, 0] rfl h
        · replace h := h.2 hc
          refine xr_blk (lv1 := [(0, .ref 1000000), (1, .ref 0), (2, .ref 80), (3, .ref 139), (4, .int x4)]) (st1 := [.int (nI 0)]) (S1 := rt v239) (pc1 := 1239) [(.iconst 0, .int (nI 0), 0, 0)] [] (by decide +kernel) rfl trivial ?_
          exact xr_zret (by decide +kernel) rfl x_in2_0 ⟨_, _, rfl, rfl, h⟩
      · refine ⟨1200, 1240, by rw [hr]; decide +kernel, by decide, ?_⟩
        replace h := h.2.2.2.2.2.2.2.2.2.2.2.2.2.2.2.2.2.2.2.2.2.2.2.2.2.1 hr
        refine xr_blk (lv1 := [(0, .ref 1000000), (1, .ref 0), (2, .ref 80), (3, .ref 139), (4, .int x4)]) (st1 := [.int (x4 + (nI 1)), .ref 1000000, .ref 0]) (S1 := rt v) (pc1 := 1246) [(.aload_n 1, .null, 0, 0), (.aload_n 0, .null, 0, 0), (.iload 4, .null, 0, 0), (.iconst 1, .int (nI 1), 0, 0), (.iadd, .null, 0, 0)] [] (by decide +kernel) rfl trivial ?_
        obtain ⟨hb241, h⟩ := h
        refine xr_sld (by decide +kernel) hb241 ?_
        refine xr_blk (lv1 := [(0, .ref 1000000), (1, .ref 0), (2, .ref 80), (3, .ref 139), (4, .int x4)]) (st1 := [.int (x4 + (nI 2)), .ref 1000000, .int (E.2 ((x4 + (nI 1))).toNatClampNeg), .ref 0]) (S1 := rt v) (pc1 := 1252) [(.aload_n 0, .null, 0, 0), (.iload 4, .null, 0, 0), (.iconst 2, .int (nI 2), 0, 0), (.iadd, .null, 0, 0)] [] (by decide +kernel) rfl trivial ?_
        obtain ⟨hb242, h⟩ := h
        refine xr_sld (by decide +kernel) hb242 ?_
        refine xk_VI (As := [.int (E.2 ((x4 + (nI 1))).toNatClampNeg), .int (E.2 ((x4 + (nI 2))).toNatClampNeg)]) (bb := 0) (rest := []) (idx := 134) (i0 := 134) (m1 := 138) (ps := [1218, 1219, 1220]) (by decide +kernel) (by decide +kernel) (by decide) rfl ((gK_s (by decide)).trans (by decide +kernel)) (by decide) (Nat.le_of_ble_eq_true rfl) rfl h (fun y244 v243 h => ?_)
        refine xr_blk (lv1 := [(0, .ref 1000000), (1, .ref 0), (2, .ref 80), (3, .ref 139), (4, .int x4)]) (st1 := [.int (x4 + (nI 1)), .ref 1000000, .ref 80, .int y244]) (S1 := rt v243) (pc1 := 1262) [(.aload_n 2, .null, 0, 0), (.aload_n 0, .null, 0, 0), (.iload 4, .null, 0, 0), (.iconst 1, .int (nI 1), 0, 0), (.iadd, .null, 0, 0)] [] (by decide +kernel) rfl trivial ?_
        obtain ⟨hb245, h⟩ := h
        refine xr_sld (by decide +kernel) hb245 ?_
        refine xr_blk (lv1 := [(0, .ref 1000000), (1, .ref 0), (2, .ref 80), (3, .ref 139), (4, .int x4)]) (st1 := [.int (x4 + (nI 2)), .ref 1000000, .int (E.2 ((x4 + (nI 1))).toNatClampNeg), .ref 80, .int y244]) (S1 := rt v243) (pc1 := 1268) [(.aload_n 0, .null, 0, 0), (.iload 4, .null, 0, 0), (.iconst 2, .int (nI 2), 0, 0), (.iadd, .null, 0, 0)] [] (by decide +kernel) rfl trivial ?_
        obtain ⟨hb246, h⟩ := h
        refine xr_sld (by decide +kernel) hb246 ?_
        refine xk_VI (As := [.int (E.2 ((x4 + (nI 1))).toNatClampNeg), .int (E.2 ((x4 + (nI 2))).toNatClampNeg)]) (bb := 80) (rest := [.int y244]) (idx := 137) (i0 := 137) (m1 := 221) (ps := [1894, 1895, 1896]) (by decide +kernel) (by decide +kernel) (by decide) rfl ((gK_s (by decide)).trans (by decide +kernel)) (by decide) (Nat.le_of_ble_eq_true rfl) rfl h (fun y248 v247 h => ?_)
        refine xr_ic_eq (tgt := 1351) (off := 79) (by decide +kernel) (by decide) (fun hc => ?_) (fun hc => ?_)
        · replace h := h.1 hc
          refine xr_blk (lv1 := [(4, .int (x4 + (nI 6))), (0, .ref 1000000), (1, .ref 0), (2, .ref 80), (3, .ref 139)]) (st1 := []) (S1 := rt v247) (pc1 := 1354) [(.iinc 4 6, .int (nI 6), 0, 0)] [] (by decide +kernel) rfl trivial ?_
          refine xr_goto (tgt := 23) (off := -1331) (by decide +kernel) (by decide) ?_
          exact x_R.sub [1, 2, 3, 4, 0] rfl h
        · replace h := h.2 hc
          refine xr_blk (lv1 := [(0, .ref 1000000), (1, .ref 0), (2, .ref 80), (3, .ref 139), (4, .int x4)]) (st1 := [.int (nI 0)]) (S1 := rt v247) (pc1 := 1276) [(.iconst 0, .int (nI 0), 0, 0)] [] (by decide +kernel) rfl trivial ?_
          exact xr_zret (by decide +kernel) rfl x_in2_0 ⟨_, _, rfl, rfl, h⟩
      · refine ⟨1237, 1277, by rw [hr]; decide +kernel, by decide, ?_⟩
        replace h := h.2.2.2.2.2.2.2.2.2.2.2.2.2.2.2.2.2.2.2.2.2.2.2.2.2.2.1 hr
        refine xr_blk (lv1 := [(0, .ref 1000000), (1, .ref 0), (2, .ref 80), (3, .ref 139), (4, .int x4)]) (st1 := [.int (x4 + (nI 1)), .ref 1000000, .ref 0]) (S1 := rt v) (pc1 := 1283) [(.aload_n 1, .null, 0, 0), (.aload_n 0, .null, 0, 0), (.iload 4, .null, 0, 0), (.iconst 1, .int (nI 1), 0, 0), (.iadd, .null, 0, 0)] [] (by decide +kernel) rfl trivial ?_
        obtain ⟨hb249, h⟩ := h
        refine xr_sld (by decide +kernel) hb249 ?_
        refine xr_blk (lv1 := [(0, .ref 1000000), (1, .ref 0), (2, .ref 80), (3, .ref 139), (4, .int x4)]) (st1 := [.int (x4 + (nI 2)), .ref 1000000, .int (E.2 ((x4 + (nI 1))).toNatClampNeg), .ref 0]) (S1 := rt v) (pc1 := 1289) [(.aload_n 0, .null, 0, 0), (.iload 4, .null, 0, 0), (.iconst 2, .int (nI 2), 0, 0), (.iadd, .null, 0, 0)] [] (by decide +kernel) rfl trivial ?_
        obtain ⟨hb250, h⟩ := h
        refine xr_sld (by decide +kernel) hb250 ?_
        refine xr_blk (lv1 := [(0, .ref 1000000), (1, .ref 0), (2, .ref 80), (3, .ref 139), (4, .int x4)]) (st1 := [.int (x4 + (nI 3)), .ref 1000000, .int (E.2 ((x4 + (nI 2))).toNatClampNeg), .int (E.2 ((x4 + (nI 1))).toNatClampNeg), .ref 0]) (S1 := rt v) (pc1 := 1295) [(.aload_n 0, .null, 0, 0), (.iload 4, .null, 0, 0), (.iconst 3, .int (nI 3), 0, 0), (.iadd, .null, 0, 0)] [] (by decide +kernel) rfl trivial ?_
        obtain ⟨hb251, h⟩ := h
        refine xr_sld (by decide +kernel) hb251 ?_
        refine xk_VI (As := [.int (E.2 ((x4 + (nI 1))).toNatClampNeg), .int (E.2 ((x4 + (nI 2))).toNatClampNeg), .int (E.2 ((x4 + (nI 3))).toNatClampNeg)]) (bb := 0) (rest := []) (idx := 138) (i0 := 138) (m1 := 139) (ps := [1226, 1227, 1228]) (by decide +kernel) (by decide +kernel) (by decide) rfl ((gK_s (by decide)).trans (by decide +kernel)) (by decide) (Nat.le_of_ble_eq_true rfl) rfl h (fun y253 v252 h => ?_)
        refine xr_blk (lv1 := [(0, .ref 1000000), (1, .ref 0), (2, .ref 80), (3, .ref 139), (4, .int x4)]) (st1 := [.int (x4 + (nI 1)), .ref 1000000, .ref 80, .int y253]) (S1 := rt v252) (pc1 := 1305) [(.aload_n 2, .null, 0, 0), (.aload_n 0, .null, 0, 0), (.iload 4, .null, 0, 0), (.iconst 1, .int (nI 1), 0, 0), (.iadd, .null, 0, 0)] [] (by decide +kernel) rfl trivial ?_
        obtain ⟨hb254, h⟩ := h
        refine xr_sld (by decide +kernel) hb254 ?_
        refine xr_blk (lv1 := [(0, .ref 1000000), (1, .ref 0), (2, .ref 80), (3, .ref 139), (4, .int x4)]) (st1 := [.int (x4 + (nI 2)), .ref 1000000, .int (E.2 ((x4 + (nI 1))).toNatClampNeg), .ref 80, .int y253]) (S1 := rt v252) (pc1 := 1311) [(.aload_n 0, .null, 0, 0), (.iload 4, .null, 0, 0), (.iconst 2, .int (nI 2), 0, 0), (.iadd, .null, 0, 0)] [] (by decide +kernel) rfl trivial ?_
        obtain ⟨hb255, h⟩ := h
        refine xr_sld (by decide +kernel) hb255 ?_
        refine xr_blk (lv1 := [(0, .ref 1000000), (1, .ref 0), (2, .ref 80), (3, .ref 139), (4, .int x4)]) (st1 := [.int (x4 + (nI 3)), .ref 1000000, .int (E.2 ((x4 + (nI 2))).toNatClampNeg), .int (E.2 ((x4 + (nI 1))).toNatClampNeg), .ref 80, .int y253]) (S1 := rt v252) (pc1 := 1317) [(.aload_n 0, .null, 0, 0), (.iload 4, .null, 0, 0), (.iconst 3, .int (nI 3), 0, 0), (.iadd, .null, 0, 0)] [] (by decide +kernel) rfl trivial ?_
        obtain ⟨hb256, h⟩ := h
        refine xr_sld (by decide +kernel) hb256 ?_
        refine xk_VI (As := [.int (E.2 ((x4 + (nI 1))).toNatClampNeg), .int (E.2 ((x4 + (nI 2))).toNatClampNeg), .int (E.2 ((x4 + (nI 3))).toNatClampNeg)]) (bb := 80) (rest := [.int y253]) (idx := 141) (i0 := 141) (m1 := 223) (ps := [1898, 1899, 1900]) (by decide +kernel) (by decide +kernel) (by decide) rfl ((gK_s (by decide)).trans (by decide +kernel)) (by decide) (Nat.le_of_ble_eq_true rfl) rfl h (fun y258 v257 h => ?_)
        refine xr_ic_eq (tgt := 1351) (off := 30) (by decide +kernel) (by decide) (fun hc => ?_) (fun hc => ?_)
        · replace h := h.1 hc
          refine xr_blk (lv1 := [(4, .int (x4 + (nI 6))), (0, .ref 1000000), (1, .ref 0), (2, .ref 80), (3, .ref 139)]) (st1 := []) (S1 := rt v257) (pc1 := 1354) [(.iinc 4 6, .int (nI 6), 0, 0)] [] (by decide +kernel) rfl trivial ?_
          refine xr_goto (tgt := 23) (off := -1331) (by decide +kernel) (by decide) ?_
          exact x_R.sub [1, 2, 3, 4, 0] rfl h
        · replace h := h.2 hc
          refine xr_blk (lv1 := [(0, .ref 1000000), (1, .ref 0), (2, .ref 80), (3, .ref 139), (4, .int x4)]) (st1 := [.int (nI 0)]) (S1 := rt v257) (pc1 := 1325) [(.iconst 0, .int (nI 0), 0, 0)] [] (by decide +kernel) rfl trivial ?_
          exact xr_zret (by decide +kernel) rfl x_in2_0 ⟨_, _, rfl, rfl, h⟩
      · refine ⟨1286, 1326, by rw [hr]; decide +kernel, by decide, ?_⟩
        replace h := h.2.2.2.2.2.2.2.2.2.2.2.2.2.2.2.2.2.2.2.2.2.2.2.2.2.2.2 hr
        refine xr_blk (lv1 := [(0, .ref 1000000), (1, .ref 0), (2, .ref 80), (3, .ref 139), (4, .int x4)]) (st1 := [.int (x4 + (nI 1)), .ref 1000000, .ref 0]) (S1 := rt v) (pc1 := 1332) [(.aload_n 1, .null, 0, 0), (.aload_n 0, .null, 0, 0), (.iload 4, .null, 0, 0), (.iconst 1, .int (nI 1), 0, 0), (.iadd, .null, 0, 0)] [] (by decide +kernel) rfl trivial ?_
        obtain ⟨hb259, h⟩ := h
        refine xr_sld (by decide +kernel) hb259 ?_
        refine xk_VI (As := [.int (E.2 ((x4 + (nI 1))).toNatClampNeg)]) (bb := 0) (rest := []) (idx := 142) (i0 := 142) (m1 := 140) (ps := [1250, 1251, 1252]) (by decide +kernel) (by decide +kernel) (by decide) rfl ((gK_s (by decide)).trans (by decide +kernel)) (by decide) (Nat.le_of_ble_eq_true rfl) rfl h (fun y261 v260 h => ?_)
        refine xr_blk (lv1 := [(0, .ref 1000000), (1, .ref 0), (2, .ref 80), (3, .ref 139), (4, .int x4)]) (st1 := [.int (x4 + (nI 1)), .ref 1000000, .ref 80, .int y261]) (S1 := rt v260) (pc1 := 1342) [(.aload_n 2, .null, 0, 0), (.aload_n 0, .null, 0, 0), (.iload 4, .null, 0, 0), (.iconst 1, .int (nI 1), 0, 0), (.iadd, .null, 0, 0)] [] (by decide +kernel) rfl trivial ?_
        obtain ⟨hb262, h⟩ := h
        refine xr_sld (by decide +kernel) hb262 ?_
        refine xk_VI (As := [.int (E.2 ((x4 + (nI 1))).toNatClampNeg)]) (bb := 80) (rest := [.int y261]) (idx := 145) (i0 := 145) (m1 := 224) (ps := [1906, 1907, 1908]) (by decide +kernel) (by decide +kernel) (by decide) rfl ((gK_s (by decide)).trans (by decide +kernel)) (by decide) (Nat.le_of_ble_eq_true rfl) rfl h (fun y264 v263 h => ?_)
        refine xr_ic_eq (tgt := 1351) (off := 5) (by decide +kernel) (by decide) (fun hc => ?_) (fun hc => ?_)
        · replace h := h.1 hc
          refine xr_blk (lv1 := [(4, .int (x4 + (nI 6))), (0, .ref 1000000), (1, .ref 0), (2, .ref 80), (3, .ref 139)]) (st1 := []) (S1 := rt v263) (pc1 := 1354) [(.iinc 4 6, .int (nI 6), 0, 0)] [] (by decide +kernel) rfl trivial ?_
          refine xr_goto (tgt := 23) (off := -1331) (by decide +kernel) (by decide) ?_
          exact x_R.sub [1, 2, 3, 4, 0] rfl h
        · replace h := h.2 hc
          refine xr_blk (lv1 := [(0, .ref 1000000), (1, .ref 0), (2, .ref 80), (3, .ref 139), (4, .int x4)]) (st1 := [.int (nI 0)]) (S1 := rt v263) (pc1 := 1350) [(.iconst 0, .int (nI 0), 0, 0)] [] (by decide +kernel) rfl trivial ?_
          exact xr_zret (by decide +kernel) rfl x_in2_0 ⟨_, _, rfl, rfl, h⟩

/-! octet: words -/
abbrev xo_N : String := "java/util/NoSuchElementException"
abbrev xo_Y : MethodName := ⟨"ScrawlHouseLaw", "octet", "(LScrawlHouse;I[J)I"⟩
theorem ok_128 : x_mOK 128 := ⟨x_tm5 (List.mem_of_getElem? (i := 201) rfl) rfl, 101, by decide +kernel⟩
abbrev xo_R : String := "java/lang/RuntimeException"
abbrev xo_E : String := "java/lang/Exception"
abbrev xo_ch : List Cond := Bundle.passSAtoms xo_N xo_R 13 prog_29_method_4_code ++ Bundle.chainSAtoms xo_R [xo_E]
/-- the words of the throw: NoSuchElementException's constructor links at 13 -/
def xo_own (own : String) (ic : Nat) : List Cond :=
  Bundle.throwableAtoms ++ (Bundle.throwableSAtoms ++ (xo_ch ++
  [.methodLink own ic (Bundle.initS xo_N), .instantiable xo_N 6, .castable xo_N xo_N, .selects xo_N Bundle.tFill0 Bundle.tFill0, .selects xo_N Bundle.tFill Bundle.tFill,
   .lays xo_N Bundle.tN "cause" "Ljava/lang/Throwable;", .lays xo_N Bundle.tN "stackTrace" Bundle.steD, .lays xo_N Bundle.tN "suppressedExceptions" Bundle.listD, .lays xo_N Bundle.tN "detailMessage" "Ljava/lang/String;",
   .isRef (.static Bundle.tN "UNASSIGNED_STACK" Bundle.steD), .isRef (.static Bundle.tN "SUPPRESSED_SENTINEL" Bundle.listD),
   .fieldLink Bundle.tN 198 Bundle.tN "backtrace" "Ljava/lang/Object;", .lays Bundle.tN Bundle.tN "backtrace" "Ljava/lang/Object;", .lays xo_N Bundle.tN "backtrace" "Ljava/lang/Object;"]))
theorem xo_x (l : List Cond) (h : l.all (fun w => decide (w ∈ lw_tbl) && goodWord w) = true) : ∀ w ∈ l, w ∈ x_tbl := fun w hw => by
  have h1 := List.all_eq_true.mp h w hw
  simp only [Bool.and_eq_true, decide_eq_true_eq] at h1
  exact List.mem_filter.mpr ⟨h1.1, h1.2⟩
theorem xo_ma : ∀ w ∈ Bundle.throwableAtoms.filter vx_no, w ∈ x_tbl := xo_x _ (by decide +kernel)
theorem xo_mb : ∀ w ∈ Bundle.throwableSAtoms.filter vx_no, w ∈ x_tbl := xo_x _ (by decide +kernel)
theorem xo_mc : ∀ w ∈ [Cond.instanceMethod (Bundle.initS xo_N), .code (Bundle.initS xo_N) prog_29_method_4_code 2 none, .methodLink xo_N 13 (Bundle.initS xo_R), .instanceMethod (Bundle.initS xo_R), .code (Bundle.initS xo_R) Bundle.six 2 none, .methodLink xo_R 7 (Bundle.initS xo_E), .instanceMethod (Bundle.initS xo_E), .code (Bundle.initS xo_E) Bundle.six 2 none, .methodLink xo_E 7 (Bundle.initS Bundle.tN), .instanceMethod (Bundle.initS Bundle.tN), .code (Bundle.initS Bundle.tN) LibCode.Throwable.InitS.code 2 none], w ∈ x_tbl := xo_x _ (by decide +kernel)
theorem xo_md : ∀ w ∈ [Cond.methodLink "ScrawlHouse" 197 (Bundle.initS xo_N), .instantiable xo_N 6, .selects xo_N Bundle.tFill0 Bundle.tFill0, .selects xo_N Bundle.tFill Bundle.tFill, .lays xo_N Bundle.tN "cause" "Ljava/lang/Throwable;", .lays xo_N Bundle.tN "stackTrace" Bundle.steD, .lays xo_N Bundle.tN "suppressedExceptions" Bundle.listD, .lays xo_N Bundle.tN "detailMessage" "Ljava/lang/String;", .fieldLink Bundle.tN 198 Bundle.tN "backtrace" "Ljava/lang/Object;", .lays Bundle.tN Bundle.tN "backtrace" "Ljava/lang/Object;", .lays xo_N Bundle.tN "backtrace" "Ljava/lang/Object;"], w ∈ x_tbl := xo_x _ (by decide +kernel)
theorem xo_m2 : ∀ w ∈ [Cond.classLink "ScrawlHouse" 193 xo_N, .initialized xo_N, .methodLink "ScrawlHouseLaw" 87 xo_Y, .static xo_Y, .initialized "ScrawlHouseLaw", .codeWith xo_Y method_3_code 4 (some .int) [(0, 9, 12, 13)], .classLink "ScrawlHouseLaw" 13 xo_N, .methodLink "ScrawlHouseLaw" 7 (x_mY 128), .instanceMethod (x_mY 128), .selects "ScrawlHouse" (x_mY 128) (x_mY 128), .initialized "ScrawlHouse"], w ∈ x_tbl := by decide +kernel
theorem xo_decl {args : Array Value} {s : State} {y : MethodName} {b : ByteArray} {n : Nat} {r : Option FieldType} (h1 : (Cond.instanceMethod y).before args s = true) (h2 : (Cond.code y b n r).before args s = true) : (Cond.declares y).before args s = true := by
  obtain ⟨mk, meth, hn, hm, hst, hab⟩ := Cond.instanceMethod_spec h1
  obtain ⟨meth', c, hm', -, -, -, -, -, -, hsig⟩ := Cond.code_spec hn h2
  cases hm.symm.trans hm'
  simp [Cond.before, Cond.holds, Cond.value, hn, hm, hst, hsig]
theorem xo_cast {args : Array Value} {s : State} {own X : String} {k : Nat} {cid : ClassId} (hown : s.vm.findClass own = some cid) (h : (Cond.classLink own k X).before args s = true) : (Cond.castable X X).before args s = true := by
  obtain ⟨c', hc', -⟩ := Cond.classLink_spec hown h ({} : Platform) rfl
  simp [Cond.before, Cond.holds, Cond.value, hc', Vm.assignable_self]
/-- the words of the throw hold where the tables' words hold -/
theorem xo_words {args : Array Value} {s : State} {cid : ClassId} (hown : s.vm.findClass "ScrawlHouse" = some cid) (h : ∀ w ∈ x_tbl, w.before args s = true) : ∀ w ∈ (xo_own "ScrawlHouse" 197).filter vx_no, w.before args s = true := by
  intro w hw
  obtain ⟨h1, h2⟩ := List.mem_filter.mp hw
  have c := fun w hw => h w (xo_mc w hw)
  have d := fun w hw => h w (xo_md w hw)
  have z := fun w hw => h w (xo_m2 w hw)
  have dR : (Cond.declares (Bundle.initS xo_R)).before args s = true := xo_decl (c _ (by simp)) (c (.code (Bundle.initS xo_R) Bundle.six 2 none) (by simp))
  have dE : (Cond.declares (Bundle.initS xo_E)).before args s = true := xo_decl (c _ (by simp)) (c (.code (Bundle.initS xo_E) Bundle.six 2 none) (by simp))
  have dT : (Cond.declares (Bundle.initS Bundle.tN)).before args s = true := xo_decl (c _ (by simp)) (c (.code (Bundle.initS Bundle.tN) LibCode.Throwable.InitS.code 2 none) (by simp))
  have kC : (Cond.castable xo_N xo_N).before args s = true := xo_cast hown (z (.classLink "ScrawlHouse" 193 xo_N) (by simp))
  unfold xo_own at h1
  rcases List.mem_append.mp h1 with q | h1
  · exact h w (xo_ma w (List.mem_filter.mpr ⟨q, h2⟩))
  rcases List.mem_append.mp h1 with q | h1
  · exact h w (xo_mb w (List.mem_filter.mpr ⟨q, h2⟩))
  rcases List.mem_append.mp h1 with q | q
  · simp only [xo_ch, Bundle.passSAtoms, Bundle.chainSAtoms, List.mem_append, List.mem_cons, List.not_mem_nil, or_false] at q
    rcases q with (q | q | q | q | q) | (q | q | q | q | q) | (q | q | q | q | q)
    · rw [q]; exact c _ (by simp)
    · rw [q]; exact c _ (by simp)
    · rw [q]; exact c _ (by simp)
    · rw [q]; exact c _ (by simp)
    · rw [q]; exact dR
    · rw [q]; exact c _ (by simp)
    · rw [q]; exact c _ (by simp)
    · rw [q]; exact c _ (by simp)
    · rw [q]; exact c _ (by simp)
    · rw [q]; exact dE
    · rw [q]; exact c _ (by simp)
    · rw [q]; exact c _ (by simp)
    · rw [q]; exact c _ (by simp)
    · rw [q]; exact c _ (by simp)
    · rw [q]; exact dT
  · simp only [List.mem_cons, List.not_mem_nil, or_false] at q
    rcases q with q | q | q | q | q | q | q | q | q | q | q | q | q | q
    · rw [q]; exact d _ (by simp)
    · rw [q]; exact d _ (by simp)
    · rw [q]; exact kC
    · rw [q]; exact d _ (by simp)
    · rw [q]; exact d _ (by simp)
    · rw [q]; exact d _ (by simp)
    · rw [q]; exact d _ (by simp)
    · rw [q]; exact d _ (by simp)
    · rw [q]; exact d _ (by simp)
    · rw [q] at h2
      exact absurd h2 (by decide)
    · rw [q] at h2
      exact absurd h2 (by decide)
    · rw [q]; exact d _ (by simp)
    · rw [q]; exact d _ (by simp)
    · rw [q]; exact d _ (by simp)
theorem xo_ot : ∀ w ∈ Cond.classLink "ScrawlHouse" 193 xo_N :: Cond.initialized xo_N :: (xo_own "ScrawlHouse" 197).filter vx_no, vx_ot w = true := by
  intro w hw
  rcases List.mem_cons.mp hw with q | hw
  · rw [q]; rfl
  rcases List.mem_cons.mp hw with q | hw
  · rw [q]; rfl
  obtain ⟨h1, h2⟩ := List.mem_filter.mp hw
  have gd : ∀ w, w ∈ x_tbl → vx_ot w = true := fun w hw => by
    unfold vx_ot
    rw [(List.mem_filter.mp hw).2, Bool.or_true]
  unfold xo_own at h1
  rcases List.mem_append.mp h1 with q | h1
  · exact gd w (xo_ma w (List.mem_filter.mpr ⟨q, h2⟩))
  rcases List.mem_append.mp h1 with q | h1
  · exact gd w (xo_mb w (List.mem_filter.mpr ⟨q, h2⟩))
  rcases List.mem_append.mp h1 with q | q
  · simp only [xo_ch, Bundle.passSAtoms, Bundle.chainSAtoms, List.mem_append, List.mem_cons, List.not_mem_nil, or_false] at q
    rcases q with (q | q | q | q | q) | (q | q | q | q | q) | (q | q | q | q | q) <;> (rw [q]; rfl)
  · simp only [List.mem_cons, List.not_mem_nil, or_false] at q
    rcases q with q | q | q | q | q | q | q | q | q | q | q | q | q | q
    all_goals first | (rw [q]; rfl) | (rw [q] at h2; exact absurd h2 (by decide))

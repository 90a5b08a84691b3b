theorem oi_1 : Int32.ofInt 1 = 1 := by decide
theorem oi_m1 : Int32.ofInt (-1) = -1 := by decide
theorem r_iincN {l : Launch} {D : va_G} {c0 : Nat → ClassId} {K : KT} {own : String} {cc : ByteArray} {nL : Nat} {ret : Option FieldType} {rm : Room} {rq : Option Value} {wo : va_W} {pc : Nat} {lv : List (Nat × Value)} {st : List Value} {ws : va_W} (h : OKm D c0 K own cc nL ret rm rq wo) {i : Nat} {z : Int} {x : Int32} (j : Nat) (v : Int32) (lv' : Int32 → List (Nat × Value)) {n : Nat} {α : Type} {g : Int32 → Option α} {q : α} (hf : nm v g = some q) (hd : decode cc pc = .ok (.iinc i z, 3)) (hj : lv[j]? = some (i, .int x)) (hz : x + Int32.ofInt z = v) (hlt : i < nL) (hv : ∀ y : Int32, lset1 lv i (.int y) = lv' y) (hn : pc + 3 = n) (kk : ∀ y : Int32, g y = some q → WW l D K nL n (lv' y) st ws) : WW l D K nL pc lv st ws :=
  r_iinc h j v (lv' v) hd hj hz hlt (hv v) hn (kk v hf)
def wX0_T_T (c : Nat → ClassId) (a0 a1 a2 a3 a4 a5 a6 a7 a8 a9 a10 a11 a12 : Nat) (many : Int32) (goesAt liftedForThese rowAt leastRowAt proof inRow frontGoesAt longestFrom : Nat → Int32) (leastLifted : Int32) (q0_bytes : Nat → Int32) (q0_size q0_faultAt q0_known q0_bits : Int32) (q1_bytes : Nat → Int32) (q1_size q1_faultAt q1_known q1_bits : Int32) : va_W := [(a0, .inr (0, [.int many, .ref a1, .ref a2, .ref a3, .ref a4, .ref a5, .ref a6, .ref a7, .ref a8, .int leastLifted])), (a1, .inl (c 0, 10, .inl goesAt)), (a2, .inl (c 0, 10, .inl liftedForThese)), (a3, .inl (c 0, 10, .inl rowAt)), (a4, .inl (c 0, 7, .inl leastRowAt)), (a5, .inl (c 0, 10, .inl proof)), (a6, .inl (c 0, 10, .inl inRow)), (a7, .inl (c 0, 10, .inl frontGoesAt)), (a8, .inl (c 0, 10, .inl longestFrom)), (a9, .inr (4, [.ref a10, .int q0_size, .int q0_faultAt, .int q0_known, .int q0_bits])), (a10, .inl (c 0, 10, .inl q0_bytes)), (a11, .inr (4, [.ref a12, .int q1_size, .int q1_faultAt, .int q1_known, .int q1_bits])), (a12, .inl (c 0, 10, .inl q1_bytes))]
def wX0 (c : Nat → ClassId) (a0 a1 a2 a3 a4 a5 a6 a7 a8 : Nat) (many : Int32) (goesAt liftedForThese rowAt leastRowAt proof inRow frontGoesAt longestFrom : Nat → Int32) (leastLifted : Int32) : va_W := [(a0, .inr (0, [.int many, .ref a1, .ref a2, .ref a3, .ref a4, .ref a5, .ref a6, .ref a7, .ref a8, .int leastLifted])), (a1, .inl (c 0, 10, .inl goesAt)), (a2, .inl (c 0, 10, .inl liftedForThese)), (a3, .inl (c 0, 10, .inl rowAt)), (a4, .inl (c 0, 7, .inl leastRowAt)), (a5, .inl (c 0, 10, .inl proof)), (a6, .inl (c 0, 10, .inl inRow)), (a7, .inl (c 0, 10, .inl frontGoesAt)), (a8, .inl (c 0, 10, .inl longestFrom))]
def wX0_T (c : Nat → ClassId) (a0 a1 a2 a3 a4 a5 a6 a7 a8 a9 a10 : Nat) (many : Int32) (goesAt liftedForThese rowAt leastRowAt proof inRow frontGoesAt longestFrom : Nat → Int32) (leastLifted : Int32) (q_bytes : Nat → Int32) (q_size q_faultAt q_known q_bits : Int32) : va_W := [(a0, .inr (0, [.int many, .ref a1, .ref a2, .ref a3, .ref a4, .ref a5, .ref a6, .ref a7, .ref a8, .int leastLifted])), (a1, .inl (c 0, 10, .inl goesAt)), (a2, .inl (c 0, 10, .inl liftedForThese)), (a3, .inl (c 0, 10, .inl rowAt)), (a4, .inl (c 0, 7, .inl leastRowAt)), (a5, .inl (c 0, 10, .inl proof)), (a6, .inl (c 0, 10, .inl inRow)), (a7, .inl (c 0, 10, .inl frontGoesAt)), (a8, .inl (c 0, 10, .inl longestFrom)), (a9, .inr (4, [.ref a10, .int q_size, .int q_faultAt, .int q_known, .int q_bits])), (a10, .inl (c 0, 10, .inl q_bytes))]
theorem fl_X0_36 : Cond.fieldLink RX0 36 (TX4 3).1 (TX4 3).2.1 (TX4 3).2.2.1 ∈ tbl := by decide +kernel
theorem fl_X0_42 : Cond.fieldLink RX0 42 (TX0 0).1 (TX0 0).2.1 (TX0 0).2.2.1 ∈ tbl := by decide +kernel
theorem fl_X0_15 : Cond.fieldLink RX0 15 (TX0 2).1 (TX0 2).2.1 (TX0 2).2.2.1 ∈ tbl := by decide +kernel
theorem fl_X0_9 : Cond.fieldLink RX0 9 (TX0 1).1 (TX0 1).2.1 (TX0 1).2.2.1 ∈ tbl := by decide +kernel
theorem mn_X0_49 : Cond.methodLinkNest RX0 49 yX6_bit "ShoesHall" ∈ nests := by decide +kernel
theorem mi_X4_placeOf : MI yX4_placeOf cX4_placeOf 3 (some .int) 1 := ⟨by decide +kernel, by decide +kernel, by decide +kernel, by decide +kernel, by decide +kernel⟩
theorem mv_X4_placeOf : MV yX4_placeOf := ⟨by decide +kernel, by decide +kernel⟩
theorem ml_X0_45 : Cond.methodLink RX0 45 yX4_placeOf ∈ tbl := by decide +kernel
theorem ml_X0_52 : Cond.methodLink RX0 52 Lib.Math.min.name ∈ tbl := by decide +kernel
theorem fl_X0_27 : Cond.fieldLink RX0 27 (TX0 6).1 (TX0 6).2.1 (TX0 6).2.2.1 ∈ tbl := by decide +kernel
theorem fl_X0_30 : Cond.fieldLink RX0 30 (TX0 7).1 (TX0 7).2.1 (TX0 7).2.2.1 ∈ tbl := by decide +kernel
theorem ml_X0_70 : Cond.methodLink RX0 70 yJ6_bitCount_0f7a4 ∈ tbl := by decide +kernel
theorem mi_X0_emptyRows : MI yX0_emptyRows cX0_emptyRows 2 (none) 0 := ⟨by decide +kernel, by decide +kernel, by decide +kernel, by decide +kernel, by decide +kernel⟩
theorem mv_X0_emptyRows : MV yX0_emptyRows := ⟨by decide +kernel, by decide +kernel⟩
theorem ml_X0_58 : Cond.methodLink RX0 58 yX0_emptyRows ∈ tbl := by decide +kernel
theorem mi_X0_liftedWith : MI yX0_liftedWith cX0_liftedWith 3 (some .int) 2 := ⟨by decide +kernel, by decide +kernel, by decide +kernel, by decide +kernel, by decide +kernel⟩
theorem mv_X0_liftedWith : MV yX0_liftedWith := ⟨by decide +kernel, by decide +kernel⟩
theorem ml_X0_67 : Cond.methodLink RX0 67 yX0_liftedWith ∈ tbl := by decide +kernel
theorem fl_X0_18 : Cond.fieldLink RX0 18 (TX0 3).1 (TX0 3).2.1 (TX0 3).2.2.1 ∈ tbl := by decide +kernel
theorem mi_X0_rowGoingSoonest : MI yX0_rowGoingSoonest cX0_rowGoingSoonest 7 (some .int) 2 := ⟨by decide +kernel, by decide +kernel, by decide +kernel, by decide +kernel, by decide +kernel⟩
theorem mv_X0_rowGoingSoonest : MV yX0_rowGoingSoonest := ⟨by decide +kernel, by decide +kernel⟩
theorem ml_X0_64 : Cond.methodLink RX0 64 yX0_rowGoingSoonest ∈ tbl := by decide +kernel
theorem mi_X0_rowWithFewest : MI yX0_rowWithFewest cX0_rowWithFewest 4 (some .int) 1 := ⟨by decide +kernel, by decide +kernel, by decide +kernel, by decide +kernel, by decide +kernel⟩
theorem mv_X0_rowWithFewest : MV yX0_rowWithFewest := ⟨by decide +kernel, by decide +kernel⟩
theorem ml_X0_61 : Cond.methodLink RX0 61 yX0_rowWithFewest ∈ tbl := by decide +kernel
theorem ml_X0_75 : Cond.methodLink RX0 75 Lib.Math.max.name ∈ tbl := by decide +kernel
theorem mi_X0_layByRule : MI yX0_layByRule cX0_layByRule 7 (some .int) 3 := ⟨by decide +kernel, by decide +kernel, by decide +kernel, by decide +kernel, by decide +kernel⟩
theorem mv_X0_layByRule : MV yX0_layByRule := ⟨by decide +kernel, by decide +kernel⟩
theorem ml_X0_78 : Cond.methodLink RX0 78 yX0_layByRule ∈ tbl := by decide +kernel
theorem fl_X0_33 : Cond.fieldLink RX0 33 (TX0 8).1 (TX0 8).2.1 (TX0 8).2.2.1 ∈ tbl := by decide +kernel
theorem ml_X0_86 : Cond.methodLink RX0 86 yX4_guestAt ∈ tbl := by decide +kernel
theorem mi_X0_leastLetterBehind : MI yX0_leastLetterBehind cX0_leastLetterBehind 7 (some .int) 3 := ⟨by decide +kernel, by decide +kernel, by decide +kernel, by decide +kernel, by decide +kernel⟩
theorem mv_X0_leastLetterBehind : MV yX0_leastLetterBehind := ⟨by decide +kernel, by decide +kernel⟩
theorem ml_X0_82 : Cond.methodLink RX0 82 yX0_leastLetterBehind ∈ tbl := by decide +kernel
theorem fl_X0_24 : Cond.fieldLink RX0 24 (TX0 5).1 (TX0 5).2.1 (TX0 5).2.2.1 ∈ tbl := by decide +kernel
theorem fl_X0_89 : Cond.fieldLink RX0 89 (TX0 9).1 (TX0 9).2.1 (TX0 9).2.2.1 ∈ tbl := by decide +kernel
theorem fl_X0_21 : Cond.fieldLink RX0 21 (TX0 4).1 (TX0 4).2.1 (TX0 4).2.2.1 ∈ tbl := by decide +kernel
theorem mi_X0_firstOnes : MI yX0_firstOnes cX0_firstOnes 1 (some .int) 0 := ⟨by decide +kernel, by decide +kernel, by decide +kernel, by decide +kernel, by decide +kernel⟩
theorem mv_X0_firstOnes : MV yX0_firstOnes := ⟨by decide +kernel, by decide +kernel⟩
theorem ml_X0_96 : Cond.methodLink RX0 96 yX0_firstOnes ∈ tbl := by decide +kernel
theorem mi_X0_tryRows : MI yX0_tryRows cX0_tryRows 7 (none) 5 := ⟨by decide +kernel, by decide +kernel, by decide +kernel, by decide +kernel, by decide +kernel⟩
theorem ms_X0_tryRows : Cond.static yX0_tryRows ∈ tbl := by decide +kernel
theorem ml_X0_92 : Cond.methodLink RX0 92 yX0_tryRows ∈ tbl := by decide +kernel
theorem mi_X0_keepLeast : MI yX0_keepLeast cX0_keepLeast 3 (none) 1 := ⟨by decide +kernel, by decide +kernel, by decide +kernel, by decide +kernel, by decide +kernel⟩
theorem mv_X0_keepLeast : MV yX0_keepLeast := ⟨by decide +kernel, by decide +kernel⟩
theorem ml_X0_100 : Cond.methodLink RX0 100 yX0_keepLeast ∈ tbl := by decide +kernel
section
variable {l : Launch} {D : va_G} {c0 : Nat → ClassId} {K : KT} {N : Nat} {R : (Int32 × (Nat → Int32) × (Nat → Int32))} {a0 a1 a2 a3 a4 a5 a6 a7 a8 a9 a10 a11 a12 : Nat} {many : Int32} {goesAt liftedForThese rowAt leastRowAt proof inRow frontGoesAt longestFrom : Nat → Int32} {leastLifted : Int32} {q0_bytes : Nat → Int32} {q0_size q0_faultAt q0_known q0_bits : Int32} {q1_bytes : Nat → Int32} {q1_size q1_faultAt q1_known q1_bits : Int32}
def bX0_order_148 (N : Nat) (q0_bytes : Nat → Int32) (q0_known : Int32) (q1_bytes : Nat → Int32) (q1_known : Int32) (many : Int32) (goesAt : Nat → Int32) (v4 : Int32) (k89 : (Int32 × (Nat → Int32)) → Option (Int32 × (Nat → Int32) × (Nat → Int32))) (k109 : (Int32 × (Nat → Int32)) → Option (Int32 × (Nat → Int32) × (Nat → Int32))) (v5 : Int32) (liftedForThese : Nat → Int32) : Option (Int32 × (Nat → Int32) × (Nat → Int32)) :=
  k109 ((v5 + (1 : Int32)), liftedForThese)
theorem tX0_order_148 {many : Int32} {goesAt : Nat → Int32} {v4 : Int32} {k89 : (Int32 × (Nat → Int32)) → Option (Int32 × (Nat → Int32) × (Nat → Int32))} {k109 : (Int32 × (Nat → Int32)) → Option (Int32 × (Nat → Int32) × (Nat → Int32))} (h : OKm D c0 K RX0 cX0_order 7 (none) (rmF 3 65) none (wX0_T_T c0 a0 a1 a2 a3 a4 a5 a6 a7 a8 a9 a10 a11 a12 R.1 R.2.1 R.2.2 rowAt leastRowAt proof inRow frontGoesAt longestFrom leastLifted q0_bytes q0_size q0_faultAt q0_known q0_bits q1_bytes q1_size q1_faultAt q1_known q1_bits))  (hk89 : ∀ s : (Int32 × (Nat → Int32)), k89 s = some R → WW l D K 7 89 [(0, .ref a0), (4, .int s.1)] [] (wX0_T_T c0 a0 a1 a2 a3 a4 a5 a6 a7 a8 a9 a10 a11 a12 many goesAt s.2 rowAt leastRowAt proof inRow frontGoesAt longestFrom leastLifted q0_bytes q0_size q0_faultAt q0_known q0_bits q1_bytes q1_size q1_faultAt q1_known q1_bits)) (hk109 : ∀ s : (Int32 × (Nat → Int32)), k109 s = some R → WW l D K 7 109 [(0, .ref a0), (4, .int v4), (5, .int s.1)] [] (wX0_T_T c0 a0 a1 a2 a3 a4 a5 a6 a7 a8 a9 a10 a11 a12 many goesAt s.2 rowAt leastRowAt proof inRow frontGoesAt longestFrom leastLifted q0_bytes q0_size q0_faultAt q0_known q0_bits q1_bytes q1_size q1_faultAt q1_known q1_bits)) (v5 : Int32) (liftedForThese : Nat → Int32) (hf : bX0_order_148 N q0_bytes q0_known q1_bytes q1_known many goesAt v4 k89 k109 v5 liftedForThese = some R) : WW l D K 7 148 [(0, .ref a0), (4, .int v4), (5, .int v5)] [] (wX0_T_T c0 a0 a1 a2 a3 a4 a5 a6 a7 a8 a9 a10 a11 a12 many goesAt liftedForThese rowAt leastRowAt proof inRow frontGoesAt longestFrom leastLifted q0_bytes q0_size q0_faultAt q0_known q0_bits q1_bytes q1_size q1_faultAt q1_known q1_bits) := by
  unfold bX0_order_148 at hf
  refine r_iinc (n := 151) h 2 (v5 + (1 : Int32)) [(0, .ref a0), (4, .int v4), (5, .int (v5 + (1 : Int32)))] dX0_order_148 rfl (congrArg (fun z => v5 + z) oi_1) (by decide) rfl rfl ?_
  refine r_goto h 109 dX0_order_151 (by decide) ?_
  exact hk109 ((v5 + (1 : Int32)), liftedForThese) hf
def bX0_order_109 (N : Nat) (q0_bytes : Nat → Int32) (q0_known : Int32) (q1_bytes : Nat → Int32) (q1_known : Int32) (many : Int32) (goesAt : Nat → Int32) (k89 : (Int32 × (Nat → Int32)) → Option (Int32 × (Nat → Int32) × (Nat → Int32))) (v4 : Int32) (k109 : (Int32 × (Nat → Int32)) → Option (Int32 × (Nat → Int32) × (Nat → Int32))) (s : (Int32 × (Nat → Int32))) : Option (Int32 × (Nat → Int32) × (Nat → Int32)) :=
  (if v4 ≤ s.1 then k89 ((v4 + (1 : Int32)), s.2) else if chk s.1 10 = true then if chk v4 10 = true then (if (goesAt (Int32.toNatClampNeg v4)) ≤ (goesAt (Int32.toNatClampNeg s.1)) then bX0_order_148 N q0_bytes q0_known q1_bytes q1_known many goesAt v4 k89 k109 s.1 s.2 else if chk v4 10 = true then (fX6_bit s.1).bind (fun u9 => if chk v4 10 = true then bX0_order_148 N q0_bytes q0_known q1_bytes q1_known many goesAt v4 k89 k109 s.1 (upd s.2 (Int32.toNatClampNeg v4) ((s.2 (Int32.toNatClampNeg v4)) ||| u9)) else none) else none) else none else none)
theorem tX0_order_109 {many : Int32} {goesAt : Nat → Int32} {k89 : (Int32 × (Nat → Int32)) → Option (Int32 × (Nat → Int32) × (Nat → Int32))} {v4 : Int32} (h : OKm D c0 K RX0 cX0_order 7 (none) (rmF 3 65) none (wX0_T_T c0 a0 a1 a2 a3 a4 a5 a6 a7 a8 a9 a10 a11 a12 R.1 R.2.1 R.2.2 rowAt leastRowAt proof inRow frontGoesAt longestFrom leastLifted q0_bytes q0_size q0_faultAt q0_known q0_bits q1_bytes q1_size q1_faultAt q1_known q1_bits))  (hk89 : ∀ s : (Int32 × (Nat → Int32)), k89 s = some R → WW l D K 7 89 [(0, .ref a0), (4, .int s.1)] [] (wX0_T_T c0 a0 a1 a2 a3 a4 a5 a6 a7 a8 a9 a10 a11 a12 many goesAt s.2 rowAt leastRowAt proof inRow frontGoesAt longestFrom leastLifted q0_bytes q0_size q0_faultAt q0_known q0_bits q1_bytes q1_size q1_faultAt q1_known q1_bits)) : ∀ (n : Nat) (s : (Int32 × (Nat → Int32))), lp (bX0_order_109 N q0_bytes q0_known q1_bytes q1_known many goesAt k89 v4) n s = some R → WW l D K 7 109 [(0, .ref a0), (4, .int v4), (5, .int s.1)] [] (wX0_T_T c0 a0 a1 a2 a3 a4 a5 a6 a7 a8 a9 a10 a11 a12 many goesAt s.2 rowAt leastRowAt proof inRow frontGoesAt longestFrom leastLifted q0_bytes q0_size q0_faultAt q0_known q0_bits q1_bytes q1_size q1_faultAt q1_known q1_bits) := by
  refine lp_ind (fun k109 hk109 s hf => ?_)
  unfold bX0_order_109 at hf
  refine r_iload (n := 111) h 2 dX0_order_109 rfl rfl ?_
  refine r_iload (n := 113) h 1 dX0_order_111 rfl rfl ?_
  refine r_icmp_ge (n := 116) h 154 dX0_order_113 (by decide) rfl (fun hc4 => ?_) (fun hc4 => ?_)
  · have hf := h_pos hc4 hf
    refine r_iinc (n := 157) h 1 (v4 + (1 : Int32)) [(0, .ref a0), (4, .int (v4 + (1 : Int32))), (5, .int s.1)] dX0_order_154 rfl (congrArg (fun z => v4 + z) oi_1) (by decide) rfl rfl ?_
    refine r_goto h 89 dX0_order_157 (by decide) ?_
    refine r_lv [0, 1] (lv' := [(0, .ref a0), (4, .int (v4 + (1 : Int32)))]) rfl ?_
    exact hk89 ((v4 + (1 : Int32)), s.2) hf
  · have hf := h_neg hc4 hf
    refine r_aload_n (n := 117) h 0 dX0_order_116 rfl rfl rfl ?_
    refine r_get (n := 120) h cf0 0 1 (v := .ref a1) fl_X0_9 rfl (by decide) rfl dX0_order_117 rfl ?_
    refine r_iload (n := 122) h 2 dX0_order_120 rfl rfl ?_
    obtain ⟨hi5, hf⟩ := h_chk hf
    refine r_iald (n := 123) h 1 rfl hi5 dX0_order_122 rfl ?_
    refine r_aload_n (n := 124) h 0 dX0_order_123 rfl rfl rfl ?_
    refine r_get (n := 127) h cf0 0 1 (v := .ref a1) fl_X0_9 rfl (by decide) rfl dX0_order_124 rfl ?_
    refine r_iload (n := 129) h 1 dX0_order_127 rfl rfl ?_
    obtain ⟨hi6, hf⟩ := h_chk hf
    refine r_iald (n := 130) h 1 rfl hi6 dX0_order_129 rfl ?_
    refine r_icmp_ge (n := 133) h 148 dX0_order_130 (by decide) rfl (fun hc7 => ?_) (fun hc7 => ?_)
    · have hf := h_pos hc7 hf
      exact tX0_order_148 h hk89 hk109 s.1 s.2 hf
    · have hf := h_neg hc7 hf
      refine r_aload_n (n := 134) h 0 dX0_order_133 rfl rfl rfl ?_
      refine r_get (n := 137) h cf0 0 2 (v := .ref a2) fl_X0_15 rfl (by decide) rfl dX0_order_134 rfl ?_
      refine r_iload (n := 139) h 1 dX0_order_137 rfl rfl ?_
      refine r_dup2 (n := 140) h dX0_order_139 rfl rfl rfl ?_
      obtain ⟨hi8, hf⟩ := h_chk hf
      refine r_iald (n := 141) h 2 rfl hi8 dX0_order_140 rfl ?_
      refine r_iload (n := 143) h 2 dX0_order_141 rfl rfl ?_
      obtain ⟨u9, hu10, hf⟩ := h_bind hf
      refine r_callN (n := 146) h mi_X6_bit ms_X6_bit mn_X0_49 (kX6_bit l D c0 s.1 hu10) [] (wX0_T_T c0 a0 a1 a2 a3 a4 a5 a6 a7 a8 a9 a10 a11 a12 many goesAt s.2 rowAt leastRowAt proof inRow frontGoesAt longestFrom leastLifted q0_bytes q0_size q0_faultAt q0_known q0_bits q1_bytes q1_size q1_faultAt q1_known q1_bits) (ws := (wX0_T_T c0 a0 a1 a2 a3 a4 a5 a6 a7 a8 a9 a10 a11 a12 many goesAt s.2 rowAt leastRowAt proof inRow frontGoesAt longestFrom leastLifted q0_bytes q0_size q0_faultAt q0_known q0_bits q1_bytes q1_size q1_faultAt q1_known q1_bits)) (st := [.int (s.2 (Int32.toNatClampNeg v4)), .int v4, .ref a2]) (st1 := [.int u9, .int (s.2 (Int32.toNatClampNeg v4)), .int v4, .ref a2]) rfl rfl rfl rfl rfl rfl ⟨rfl, rfl, by decide, by decide⟩ rfl rfl (Nat.le_of_ble_eq_true rfl) dX0_order_143 rfl ?_
      refine r_ior (n := 147) h dX0_order_146 rfl ?_
      obtain ⟨hi11, hf⟩ := h_chk hf
      refine r_iast (n := 148) h 2 (wX0_T_T c0 a0 a1 a2 a3 a4 a5 a6 a7 a8 a9 a10 a11 a12 many goesAt (upd s.2 (Int32.toNatClampNeg v4) ((s.2 (Int32.toNatClampNeg v4)) ||| u9)) rowAt leastRowAt proof inRow frontGoesAt longestFrom leastLifted q0_bytes q0_size q0_faultAt q0_known q0_bits q1_bytes q1_size q1_faultAt q1_known q1_bits) rfl hi11 rfl dX0_order_147 rfl ?_
      exact tX0_order_148 h hk89 hk109 s.1 (upd s.2 (Int32.toNatClampNeg v4) ((s.2 (Int32.toNatClampNeg v4)) ||| u9)) hf
def bX0_order_89 (N : Nat) (q0_bytes : Nat → Int32) (q0_known : Int32) (q1_bytes : Nat → Int32) (q1_known : Int32) (many : Int32) (goesAt : Nat → Int32) (k89 : (Int32 × (Nat → Int32)) → Option (Int32 × (Nat → Int32) × (Nat → Int32))) (s : (Int32 × (Nat → Int32))) : Option (Int32 × (Nat → Int32) × (Nat → Int32)) :=
  (if many ≤ s.1 then some (many, goesAt, s.2) else if chk s.1 10 = true then lp (bX0_order_109 N q0_bytes q0_known q1_bytes q1_known many goesAt k89 s.1) N ((0 : Int32), (upd s.2 (Int32.toNatClampNeg s.1) (0 : Int32))) else none)
theorem tX0_order_89 {many : Int32} {goesAt : Nat → Int32} (h : OKm D c0 K RX0 cX0_order 7 (none) (rmF 3 65) none (wX0_T_T c0 a0 a1 a2 a3 a4 a5 a6 a7 a8 a9 a10 a11 a12 R.1 R.2.1 R.2.2 rowAt leastRowAt proof inRow frontGoesAt longestFrom leastLifted q0_bytes q0_size q0_faultAt q0_known q0_bits q1_bytes q1_size q1_faultAt q1_known q1_bits))  : ∀ (n : Nat) (s : (Int32 × (Nat → Int32))), lp (bX0_order_89 N q0_bytes q0_known q1_bytes q1_known many goesAt) n s = some R → WW l D K 7 89 [(0, .ref a0), (4, .int s.1)] [] (wX0_T_T c0 a0 a1 a2 a3 a4 a5 a6 a7 a8 a9 a10 a11 a12 many goesAt s.2 rowAt leastRowAt proof inRow frontGoesAt longestFrom leastLifted q0_bytes q0_size q0_faultAt q0_known q0_bits q1_bytes q1_size q1_faultAt q1_known q1_bits) := by
  refine lp_ind (fun k89 hk89 s hf => ?_)
  unfold bX0_order_89 at hf
  refine r_iload (n := 91) h 1 dX0_order_89 rfl rfl ?_
  refine r_aload_n (n := 92) h 0 dX0_order_91 rfl rfl rfl ?_
  refine r_get (n := 95) h cf0 0 0 (v := .int many) fl_X0_42 rfl (by decide) rfl dX0_order_92 rfl ?_
  refine r_icmp_ge (n := 98) h 160 dX0_order_95 (by decide) rfl (fun hc2 => ?_) (fun hc2 => ?_)
  · have hf := h_pos hc2 hf
    have hf := Option.some.inj hf
    subst hf
    exact r_vret h dX0_order_160
  · have hf := h_neg hc2 hf
    refine r_aload_n (n := 99) h 0 dX0_order_98 rfl rfl rfl ?_
    refine r_get (n := 102) h cf0 0 2 (v := .ref a2) fl_X0_15 rfl (by decide) rfl dX0_order_99 rfl ?_
    refine r_iload (n := 104) h 1 dX0_order_102 rfl rfl ?_
    refine r_iconst (n := 105) h (0 : Int32) dX0_order_104 (by decide) rfl ?_
    obtain ⟨hi3, hf⟩ := h_chk hf
    refine r_iast (n := 106) h 2 (wX0_T_T c0 a0 a1 a2 a3 a4 a5 a6 a7 a8 a9 a10 a11 a12 many goesAt (upd s.2 (Int32.toNatClampNeg s.1) (0 : Int32)) rowAt leastRowAt proof inRow frontGoesAt longestFrom leastLifted q0_bytes q0_size q0_faultAt q0_known q0_bits q1_bytes q1_size q1_faultAt q1_known q1_bits) rfl hi3 rfl dX0_order_105 rfl ?_
    refine r_iconst (n := 107) h (0 : Int32) dX0_order_106 (by decide) rfl ?_
    refine r_istore (n := 109) h [(0, .ref a0), (4, .int s.1), (5, .int (0 : Int32))] dX0_order_107 (by decide) rfl rfl ?_
    exact tX0_order_109 h hk89 N ((0 : Int32), (upd s.2 (Int32.toNatClampNeg s.1) (0 : Int32))) hf
def bX0_order_80 (N : Nat) (q0_bytes : Nat → Int32) (q0_known : Int32) (q1_bytes : Nat → Int32) (q1_known : Int32) (many : Int32) (liftedForThese : Nat → Int32) (k16 : (Int32 × Int32 × (Nat → Int32)) → Option (Int32 × (Nat → Int32) × (Nat → Int32))) (v3 : Int32) (v4 : Int32) (goesAt : Nat → Int32) : Option (Int32 × (Nat → Int32) × (Nat → Int32)) :=
  k16 (v3, (v4 + (1 : Int32)), goesAt)
theorem tX0_order_80 {many : Int32} {liftedForThese : Nat → Int32} {k16 : (Int32 × Int32 × (Nat → Int32)) → Option (Int32 × (Nat → Int32) × (Nat → Int32))} (h : OKm D c0 K RX0 cX0_order 7 (none) (rmF 3 65) none (wX0_T_T c0 a0 a1 a2 a3 a4 a5 a6 a7 a8 a9 a10 a11 a12 R.1 R.2.1 R.2.2 rowAt leastRowAt proof inRow frontGoesAt longestFrom leastLifted q0_bytes q0_size q0_faultAt q0_known q0_bits q1_bytes q1_size q1_faultAt q1_known q1_bits))  (hk16 : ∀ s : (Int32 × Int32 × (Nat → Int32)), k16 s = some R → WW l D K 7 16 [(0, .ref a0), (1, .ref a9), (2, .ref a11), (3, .int s.1), (4, .int s.2.1)] [] (wX0_T_T c0 a0 a1 a2 a3 a4 a5 a6 a7 a8 a9 a10 a11 a12 many s.2.2 liftedForThese rowAt leastRowAt proof inRow frontGoesAt longestFrom leastLifted q0_bytes q0_size q0_faultAt q0_known q0_bits q1_bytes q1_size q1_faultAt q1_known q1_bits)) (v3 : Int32) (v4 : Int32) (goesAt : Nat → Int32) (hf : bX0_order_80 N q0_bytes q0_known q1_bytes q1_known many liftedForThese k16 v3 v4 goesAt = some R) : WW l D K 7 80 [(0, .ref a0), (1, .ref a9), (2, .ref a11), (3, .int v3), (4, .int v4)] [] (wX0_T_T c0 a0 a1 a2 a3 a4 a5 a6 a7 a8 a9 a10 a11 a12 many goesAt liftedForThese rowAt leastRowAt proof inRow frontGoesAt longestFrom leastLifted q0_bytes q0_size q0_faultAt q0_known q0_bits q1_bytes q1_size q1_faultAt q1_known q1_bits) := by
  unfold bX0_order_80 at hf
  refine r_iinc (n := 83) h 4 (v4 + (1 : Int32)) [(0, .ref a0), (1, .ref a9), (2, .ref a11), (3, .int v3), (4, .int (v4 + (1 : Int32)))] dX0_order_80 rfl (congrArg (fun z => v4 + z) oi_1) (by decide) rfl rfl ?_
  refine r_goto h 16 dX0_order_83 (by decide) ?_
  exact hk16 (v3, (v4 + (1 : Int32)), goesAt) hf
def bX0_order_63 (N : Nat) (q0_bytes : Nat → Int32) (q0_known : Int32) (q1_bytes : Nat → Int32) (q1_known : Int32) (many : Int32) (liftedForThese : Nat → Int32) (k16 : (Int32 × Int32 × (Nat → Int32)) → Option (Int32 × (Nat → Int32) × (Nat → Int32))) (v3 : Int32) (v4 : Int32) (v5 : Int32) (goesAt : Nat → Int32) : Option (Int32 × (Nat → Int32) × (Nat → Int32)) :=
  (if v5 = (-1 : Int32) then bX0_order_80 N q0_bytes q0_known q1_bytes q1_known many liftedForThese k16 v3 v4 goesAt else if chk v5 10 = true then bX0_order_80 N q0_bytes q0_known q1_bytes q1_known many liftedForThese k16 (v3 + (1 : Int32)) v4 (upd goesAt (Int32.toNatClampNeg v5) v3) else none)
theorem tX0_order_63 {many : Int32} {liftedForThese : Nat → Int32} {k16 : (Int32 × Int32 × (Nat → Int32)) → Option (Int32 × (Nat → Int32) × (Nat → Int32))} (h : OKm D c0 K RX0 cX0_order 7 (none) (rmF 3 65) none (wX0_T_T c0 a0 a1 a2 a3 a4 a5 a6 a7 a8 a9 a10 a11 a12 R.1 R.2.1 R.2.2 rowAt leastRowAt proof inRow frontGoesAt longestFrom leastLifted q0_bytes q0_size q0_faultAt q0_known q0_bits q1_bytes q1_size q1_faultAt q1_known q1_bits))  (hk16 : ∀ s : (Int32 × Int32 × (Nat → Int32)), k16 s = some R → WW l D K 7 16 [(0, .ref a0), (1, .ref a9), (2, .ref a11), (3, .int s.1), (4, .int s.2.1)] [] (wX0_T_T c0 a0 a1 a2 a3 a4 a5 a6 a7 a8 a9 a10 a11 a12 many s.2.2 liftedForThese rowAt leastRowAt proof inRow frontGoesAt longestFrom leastLifted q0_bytes q0_size q0_faultAt q0_known q0_bits q1_bytes q1_size q1_faultAt q1_known q1_bits)) (v3 : Int32) (v4 : Int32) (v5 : Int32) (goesAt : Nat → Int32) (hf : bX0_order_63 N q0_bytes q0_known q1_bytes q1_known many liftedForThese k16 v3 v4 v5 goesAt = some R) : WW l D K 7 63 [(0, .ref a0), (1, .ref a9), (2, .ref a11), (3, .int v3), (4, .int v4), (5, .int v5)] [] (wX0_T_T c0 a0 a1 a2 a3 a4 a5 a6 a7 a8 a9 a10 a11 a12 many goesAt liftedForThese rowAt leastRowAt proof inRow frontGoesAt longestFrom leastLifted q0_bytes q0_size q0_faultAt q0_known q0_bits q1_bytes q1_size q1_faultAt q1_known q1_bits) := by
  unfold bX0_order_63 at hf
  refine r_iload (n := 65) h 5 dX0_order_63 rfl rfl ?_
  refine r_iconst (n := 66) h (-1 : Int32) dX0_order_65 (by decide) rfl ?_
  refine r_icmp_eq (n := 69) h 80 dX0_order_66 (by decide) rfl (fun hc17 => ?_) (fun hc17 => ?_)
  · have hf := h_pos hc17 hf
    refine r_lv [0, 1, 2, 3, 4] (lv' := [(0, .ref a0), (1, .ref a9), (2, .ref a11), (3, .int v3), (4, .int v4)]) rfl ?_
    exact tX0_order_80 h hk16 v3 v4 goesAt hf
  · have hf := h_neg hc17 hf
    refine r_aload_n (n := 70) h 0 dX0_order_69 rfl rfl rfl ?_
    refine r_get (n := 73) h cf0 0 1 (v := .ref a1) fl_X0_9 rfl (by decide) rfl dX0_order_70 rfl ?_
    refine r_iload (n := 75) h 5 dX0_order_73 rfl rfl ?_
    refine r_iload_n (n := 76) h 3 dX0_order_75 rfl rfl rfl ?_
    obtain ⟨hi18, hf⟩ := h_chk hf
    refine r_iast (n := 77) h 1 (wX0_T_T c0 a0 a1 a2 a3 a4 a5 a6 a7 a8 a9 a10 a11 a12 many (upd goesAt (Int32.toNatClampNeg v5) v3) liftedForThese rowAt leastRowAt proof inRow frontGoesAt longestFrom leastLifted q0_bytes q0_size q0_faultAt q0_known q0_bits q1_bytes q1_size q1_faultAt q1_known q1_bits) rfl hi18 rfl dX0_order_76 rfl ?_
    refine r_iinc (n := 80) h 3 (v3 + (1 : Int32)) [(0, .ref a0), (1, .ref a9), (2, .ref a11), (3, .int (v3 + (1 : Int32))), (4, .int v4), (5, .int v5)] dX0_order_77 rfl (congrArg (fun z => v3 + z) oi_1) (by decide) rfl rfl ?_
    refine r_lv [0, 1, 2, 3, 4] (lv' := [(0, .ref a0), (1, .ref a9), (2, .ref a11), (3, .int (v3 + (1 : Int32))), (4, .int v4)]) rfl ?_
    exact tX0_order_80 h hk16 (v3 + (1 : Int32)) v4 (upd goesAt (Int32.toNatClampNeg v5) v3) hf
def bX0_order_16 (N : Nat) (q0_bytes : Nat → Int32) (q0_known : Int32) (q1_bytes : Nat → Int32) (q1_known : Int32) (many : Int32) (liftedForThese : Nat → Int32) (k16 : (Int32 × Int32 × (Nat → Int32)) → Option (Int32 × (Nat → Int32) × (Nat → Int32))) (s : (Int32 × Int32 × (Nat → Int32))) : Option (Int32 × (Nat → Int32) × (Nat → Int32)) :=
  (if (10 : Int32) ≤ s.2.1 then lp (bX0_order_89 N q0_bytes q0_known q1_bytes q1_known many s.2.2) N ((0 : Int32), liftedForThese) else (fX4_placeOf N q0_bytes q0_known s.2.1).bind (fun u12 => (fX4_placeOf N q1_bytes q1_known s.2.1).bind (fun u14 => (if u12 = (-1 : Int32) then bX0_order_63 N q0_bytes q0_known q1_bytes q1_known many liftedForThese k16 s.1 s.2.1 u12 s.2.2 else (if u14 = (-1 : Int32) then bX0_order_63 N q0_bytes q0_known q1_bytes q1_known many liftedForThese k16 s.1 s.2.1 u12 s.2.2 else if chk u12 10 = true then bX0_order_80 N q0_bytes q0_known q1_bytes q1_known many liftedForThese k16 s.1 s.2.1 (upd s.2.2 (Int32.toNatClampNeg u12) u14) else none)))))
theorem tX0_order_16 {many : Int32} {liftedForThese : Nat → Int32} (h : OKm D c0 K RX0 cX0_order 7 (none) (rmF 3 65) none (wX0_T_T c0 a0 a1 a2 a3 a4 a5 a6 a7 a8 a9 a10 a11 a12 R.1 R.2.1 R.2.2 rowAt leastRowAt proof inRow frontGoesAt longestFrom leastLifted q0_bytes q0_size q0_faultAt q0_known q0_bits q1_bytes q1_size q1_faultAt q1_known q1_bits))  : ∀ (n : Nat) (s : (Int32 × Int32 × (Nat → Int32))), lp (bX0_order_16 N q0_bytes q0_known q1_bytes q1_known many liftedForThese) n s = some R → WW l D K 7 16 [(0, .ref a0), (1, .ref a9), (2, .ref a11), (3, .int s.1), (4, .int s.2.1)] [] (wX0_T_T c0 a0 a1 a2 a3 a4 a5 a6 a7 a8 a9 a10 a11 a12 many s.2.2 liftedForThese rowAt leastRowAt proof inRow frontGoesAt longestFrom leastLifted q0_bytes q0_size q0_faultAt q0_known q0_bits q1_bytes q1_size q1_faultAt q1_known q1_bits) := by
  refine lp_ind (fun k16 hk16 s hf => ?_)
  unfold bX0_order_16 at hf
  refine r_iload (n := 18) h 4 dX0_order_16 rfl rfl ?_
  refine r_bipush (n := 20) h (10 : Int32) dX0_order_18 (by decide) rfl ?_
  refine r_icmp_ge (n := 23) h 86 dX0_order_20 (by decide) rfl (fun hc1 => ?_) (fun hc1 => ?_)
  · have hf := h_pos hc1 hf
    refine r_iconst (n := 87) h (0 : Int32) dX0_order_86 (by decide) rfl ?_
    refine r_istore (n := 89) h [(0, .ref a0), (1, .ref a9), (2, .ref a11), (3, .int s.1), (4, .int (0 : Int32))] dX0_order_87 (by decide) rfl rfl ?_
    refine r_lv [0, 4] (lv' := [(0, .ref a0), (4, .int (0 : Int32))]) rfl ?_
    exact tX0_order_89 h  N ((0 : Int32), liftedForThese) hf
  · have hf := h_neg hc1 hf
    refine r_aload_n (n := 24) h 1 dX0_order_23 rfl rfl rfl ?_
    refine r_iload (n := 26) h 4 dX0_order_24 rfl rfl ?_
    obtain ⟨u12, hu13, hf⟩ := h_bind hf
    refine r_callV (n := 29) h mi_X4_placeOf mv_X4_placeOf ml_X0_45 (kX4_placeOf l D c0 a9 a10 q0_bytes q0_size q0_faultAt q0_known q0_bits s.2.1 hu13) [9, 10] (wX0_T_T c0 a0 a1 a2 a3 a4 a5 a6 a7 a8 a9 a10 a11 a12 many s.2.2 liftedForThese rowAt leastRowAt proof inRow frontGoesAt longestFrom leastLifted q0_bytes q0_size q0_faultAt q0_known q0_bits q1_bytes q1_size q1_faultAt q1_known q1_bits) (ws := (wX0_T_T c0 a0 a1 a2 a3 a4 a5 a6 a7 a8 a9 a10 a11 a12 many s.2.2 liftedForThese rowAt leastRowAt proof inRow frontGoesAt longestFrom leastLifted q0_bytes q0_size q0_faultAt q0_known q0_bits q1_bytes q1_size q1_faultAt q1_known q1_bits)) (st := []) (st1 := [.int u12]) rfl rfl rfl rfl rfl rfl rfl rfl rfl ⟨rfl, rfl, by decide, by decide⟩ rfl rfl (Nat.le_of_ble_eq_true rfl) dX0_order_26 rfl ?_
    refine r_istore (n := 31) h [(0, .ref a0), (1, .ref a9), (2, .ref a11), (3, .int s.1), (4, .int s.2.1), (5, .int u12)] dX0_order_29 (by decide) rfl rfl ?_
    refine r_aload_n (n := 32) h 2 dX0_order_31 rfl rfl rfl ?_
    refine r_iload (n := 34) h 4 dX0_order_32 rfl rfl ?_
    obtain ⟨u14, hu15, hf⟩ := h_bind hf
    refine r_callV (n := 37) h mi_X4_placeOf mv_X4_placeOf ml_X0_45 (kX4_placeOf l D c0 a11 a12 q1_bytes q1_size q1_faultAt q1_known q1_bits s.2.1 hu15) [11, 12] (wX0_T_T c0 a0 a1 a2 a3 a4 a5 a6 a7 a8 a9 a10 a11 a12 many s.2.2 liftedForThese rowAt leastRowAt proof inRow frontGoesAt longestFrom leastLifted q0_bytes q0_size q0_faultAt q0_known q0_bits q1_bytes q1_size q1_faultAt q1_known q1_bits) (ws := (wX0_T_T c0 a0 a1 a2 a3 a4 a5 a6 a7 a8 a9 a10 a11 a12 many s.2.2 liftedForThese rowAt leastRowAt proof inRow frontGoesAt longestFrom leastLifted q0_bytes q0_size q0_faultAt q0_known q0_bits q1_bytes q1_size q1_faultAt q1_known q1_bits)) (st := []) (st1 := [.int u14]) rfl rfl rfl rfl rfl rfl rfl rfl rfl ⟨rfl, rfl, by decide, by decide⟩ rfl rfl (Nat.le_of_ble_eq_true rfl) dX0_order_34 rfl ?_
    refine r_istore (n := 39) h [(0, .ref a0), (1, .ref a9), (2, .ref a11), (3, .int s.1), (4, .int s.2.1), (5, .int u12), (6, .int u14)] dX0_order_37 (by decide) rfl rfl ?_
    refine r_iload (n := 41) h 5 dX0_order_39 rfl rfl ?_
    refine r_iconst (n := 42) h (-1 : Int32) dX0_order_41 (by decide) rfl ?_
    refine r_icmp_eq (n := 45) h 63 dX0_order_42 (by decide) rfl (fun hc16 => ?_) (fun hc16 => ?_)
    · have hf := h_pos hc16 hf
      refine r_lv [0, 1, 2, 3, 4, 5] (lv' := [(0, .ref a0), (1, .ref a9), (2, .ref a11), (3, .int s.1), (4, .int s.2.1), (5, .int u12)]) rfl ?_
      exact tX0_order_63 h hk16 s.1 s.2.1 u12 s.2.2 hf
    · have hf := h_neg hc16 hf
      refine r_iload (n := 47) h 6 dX0_order_45 rfl rfl ?_
      refine r_iconst (n := 48) h (-1 : Int32) dX0_order_47 (by decide) rfl ?_
      refine r_icmp_eq (n := 51) h 63 dX0_order_48 (by decide) rfl (fun hc19 => ?_) (fun hc19 => ?_)
      · have hf := h_pos hc19 hf
        refine r_lv [0, 1, 2, 3, 4, 5] (lv' := [(0, .ref a0), (1, .ref a9), (2, .ref a11), (3, .int s.1), (4, .int s.2.1), (5, .int u12)]) rfl ?_
        exact tX0_order_63 h hk16 s.1 s.2.1 u12 s.2.2 hf
      · have hf := h_neg hc19 hf
        refine r_aload_n (n := 52) h 0 dX0_order_51 rfl rfl rfl ?_
        refine r_get (n := 55) h cf0 0 1 (v := .ref a1) fl_X0_9 rfl (by decide) rfl dX0_order_52 rfl ?_
        refine r_iload (n := 57) h 5 dX0_order_55 rfl rfl ?_
        refine r_iload (n := 59) h 6 dX0_order_57 rfl rfl ?_
        obtain ⟨hi20, hf⟩ := h_chk hf
        refine r_iast (n := 60) h 1 (wX0_T_T c0 a0 a1 a2 a3 a4 a5 a6 a7 a8 a9 a10 a11 a12 many (upd s.2.2 (Int32.toNatClampNeg u12) u14) liftedForThese rowAt leastRowAt proof inRow frontGoesAt longestFrom leastLifted q0_bytes q0_size q0_faultAt q0_known q0_bits q1_bytes q1_size q1_faultAt q1_known q1_bits) rfl hi20 rfl dX0_order_59 rfl ?_
        refine r_goto h 80 dX0_order_60 (by decide) ?_
        refine r_lv [0, 1, 2, 3, 4] (lv' := [(0, .ref a0), (1, .ref a9), (2, .ref a11), (3, .int s.1), (4, .int s.2.1)]) rfl ?_
        exact tX0_order_80 h hk16 s.1 s.2.1 (upd s.2.2 (Int32.toNatClampNeg u12) u14) hf
def fX0_order (N : Nat) (many : Int32) (goesAt liftedForThese q0_bytes : Nat → Int32) (q0_known : Int32) (q1_bytes : Nat → Int32) (q1_known : Int32) : Option (Int32 × (Nat → Int32) × (Nat → Int32)) :=
  lp (bX0_order_16 N q0_bytes q0_known q1_bytes q1_known q0_known liftedForThese) N (q1_known, (0 : Int32), goesAt)
theorem kX0_order (l : Launch) (D : va_G) (c0 : Nat → ClassId) (a0 a1 a2 a3 a4 a5 a6 a7 a8 a9 a10 a11 a12 : Nat) (many : Int32) (goesAt liftedForThese rowAt leastRowAt proof inRow frontGoesAt longestFrom : Nat → Int32) (leastLifted : Int32) (q0_bytes : Nat → Int32) (q0_size q0_faultAt q0_known q0_bits : Int32) (q1_bytes : Nat → Int32) (q1_size q1_faultAt q1_known q1_bits : Int32) {N : Nat} {R : (Int32 × (Nat → Int32) × (Nat → Int32))} (hf : fX0_order N many goesAt liftedForThese q0_bytes q0_known q1_bytes q1_known = some R) : Ct l D c0 yX0_order cX0_order 7 (none) (rmF 3 65) [.ref a0, .ref a9, .ref a11] (wX0_T_T c0 a0 a1 a2 a3 a4 a5 a6 a7 a8 a9 a10 a11 a12 many goesAt liftedForThese rowAt leastRowAt proof inRow frontGoesAt longestFrom leastLifted q0_bytes q0_size q0_faultAt q0_known q0_bits q1_bytes q1_size q1_faultAt q1_known q1_bits) none (wX0_T_T c0 a0 a1 a2 a3 a4 a5 a6 a7 a8 a9 a10 a11 a12 R.1 R.2.1 R.2.2 rowAt leastRowAt proof inRow frontGoesAt longestFrom leastLifted q0_bytes q0_size q0_faultAt q0_known q0_bits q1_bytes q1_size q1_faultAt q1_known q1_bits) := by
  refine Ct.mk (own := RX0) [(0, .ref a0), (1, .ref a9), (2, .ref a11)] rfl pl_X0 rfl (Nat.le_of_ble_eq_true rfl) (fun K h  => ?_)
  unfold fX0_order at hf
  refine r_aload_n (n := 1) h 0 dX0_order_0 rfl rfl rfl ?_
  refine r_aload_n (n := 2) h 1 dX0_order_1 rfl rfl rfl ?_
  refine r_get (n := 5) h cf4 9 3 (v := .int q0_known) fl_X0_36 rfl (by decide) rfl dX0_order_2 rfl ?_
  refine r_put (n := 8) h cf0 0 0 (wX0_T_T c0 a0 a1 a2 a3 a4 a5 a6 a7 a8 a9 a10 a11 a12 q0_known goesAt liftedForThese rowAt leastRowAt proof inRow frontGoesAt longestFrom leastLifted q0_bytes q0_size q0_faultAt q0_known q0_bits q1_bytes q1_size q1_faultAt q1_known q1_bits) fl_X0_42 rfl (by decide) rfl rfl rfl (Nat.le_of_ble_eq_true rfl) rfl dX0_order_5 rfl ?_
  refine r_aload_n (n := 9) h 2 dX0_order_8 rfl rfl rfl ?_
  refine r_get (n := 12) h cf4 11 3 (v := .int q1_known) fl_X0_36 rfl (by decide) rfl dX0_order_9 rfl ?_
  refine r_istore_n (n := 13) h [(0, .ref a0), (1, .ref a9), (2, .ref a11), (3, .int q1_known)] dX0_order_12 rfl (by decide) rfl rfl ?_
  refine r_iconst (n := 14) h (0 : Int32) dX0_order_13 (by decide) rfl ?_
  refine r_istore (n := 16) h [(0, .ref a0), (1, .ref a9), (2, .ref a11), (3, .int q1_known), (4, .int (0 : Int32))] dX0_order_14 (by decide) rfl rfl ?_
  exact tX0_order_16 h  N (q1_known, (0 : Int32), goesAt) hf
end
section
variable {l : Launch} {D : va_G} {c0 : Nat → ClassId} {K : KT} {N : Nat} {R : Int32} {a0 a1 a2 a3 a4 a5 a6 a7 a8 : Nat} {many : Int32} {goesAt liftedForThese rowAt leastRowAt proof inRow frontGoesAt longestFrom : Nat → Int32} {leastLifted : Int32}
def fX0_firstOnes (many : Int32) : Option Int32 :=
  some (if (7 : Int32) < many then (7 : Int32) else many)
theorem kX0_firstOnes (l : Launch) (D : va_G) (c0 : Nat → ClassId) (a0 a1 a2 a3 a4 a5 a6 a7 a8 : Nat) (many : Int32) (goesAt liftedForThese rowAt leastRowAt proof inRow frontGoesAt longestFrom : Nat → Int32) (leastLifted : Int32)  {R : Int32} (hf : fX0_firstOnes many = some R) : Ct l D c0 yX0_firstOnes cX0_firstOnes 1 (some .int) (rmF 1 21) [.ref a0] (wX0 c0 a0 a1 a2 a3 a4 a5 a6 a7 a8 many goesAt liftedForThese rowAt leastRowAt proof inRow frontGoesAt longestFrom leastLifted) (some (.int R)) (wX0 c0 a0 a1 a2 a3 a4 a5 a6 a7 a8 many goesAt liftedForThese rowAt leastRowAt proof inRow frontGoesAt longestFrom leastLifted) := by
  refine Ct.mk (own := RX0) [(0, .ref a0)] rfl pl_X0 rfl (Nat.le_of_ble_eq_true rfl) (fun K h  => ?_)
  unfold fX0_firstOnes at hf
  refine r_aload_n (n := 1) h 0 dX0_firstOnes_0 rfl rfl rfl ?_
  refine r_get (n := 4) h cf0 0 0 (v := .int many) fl_X0_42 rfl (by decide) rfl dX0_firstOnes_1 rfl ?_
  refine r_bipush (n := 6) h (7 : Int32) dX0_firstOnes_4 (by decide) rfl ?_
  refine r_mmin (n := 9) h ml_X0_52 (by decide) (Nat.le_of_ble_eq_true rfl) dX0_firstOnes_6 rfl ?_
  have hf := Option.some.inj hf
  subst hf
  exact r_iret h dX0_firstOnes_9
end
section
variable {l : Launch} {D : va_G} {c0 : Nat → ClassId} {K : KT} {N : Nat} {R : ((Nat → Int32) × (Nat → Int32))} {a0 a1 a2 a3 a4 a5 a6 a7 a8 : Nat} {many : Int32} {goesAt liftedForThese rowAt leastRowAt proof inRow frontGoesAt longestFrom : Nat → Int32} {leastLifted : Int32}
def bX0_emptyRows_2 (N : Nat) (k2 : (Int32 × (Nat → Int32) × (Nat → Int32)) → Option ((Nat → Int32) × (Nat → Int32))) (s : (Int32 × (Nat → Int32) × (Nat → Int32))) : Option ((Nat → Int32) × (Nat → Int32)) :=
  (if (10 : Int32) ≤ s.1 then some (s.2.1, s.2.2) else if chk s.1 10 = true then if chk s.1 10 = true then k2 ((s.1 + (1 : Int32)), (upd s.2.1 (Int32.toNatClampNeg s.1) (0 : Int32)), (upd s.2.2 (Int32.toNatClampNeg s.1) (10 : Int32))) else none else none)
theorem tX0_emptyRows_2  (h : OKm D c0 K RX0 cX0_emptyRows 2 (none) (rmF 0 0) none (wX0 c0 a0 a1 a2 a3 a4 a5 a6 a7 a8 many goesAt liftedForThese rowAt leastRowAt proof R.1 R.2 longestFrom leastLifted))  : ∀ (n : Nat) (s : (Int32 × (Nat → Int32) × (Nat → Int32))), lp (bX0_emptyRows_2 N) n s = some R → WW l D K 2 2 [(0, .ref a0), (1, .int s.1)] [] (wX0 c0 a0 a1 a2 a3 a4 a5 a6 a7 a8 many goesAt liftedForThese rowAt leastRowAt proof s.2.1 s.2.2 longestFrom leastLifted) := by
  refine lp_ind (fun k2 hk2 s hf => ?_)
  unfold bX0_emptyRows_2 at hf
  refine r_iload_n (n := 3) h 1 dX0_emptyRows_2 rfl rfl rfl ?_
  refine r_bipush (n := 5) h (10 : Int32) dX0_emptyRows_3 (by decide) rfl ?_
  refine r_icmp_ge (n := 8) h 29 dX0_emptyRows_5 (by decide) rfl (fun hc1 => ?_) (fun hc1 => ?_)
  · have hf := h_pos hc1 hf
    have hf := Option.some.inj hf
    subst hf
    exact r_vret h dX0_emptyRows_29
  · have hf := h_neg hc1 hf
    refine r_aload_n (n := 9) h 0 dX0_emptyRows_8 rfl rfl rfl ?_
    refine r_get (n := 12) h cf0 0 6 (v := .ref a6) fl_X0_27 rfl (by decide) rfl dX0_emptyRows_9 rfl ?_
    refine r_iload_n (n := 13) h 1 dX0_emptyRows_12 rfl rfl rfl ?_
    refine r_iconst (n := 14) h (0 : Int32) dX0_emptyRows_13 (by decide) rfl ?_
    obtain ⟨hi2, hf⟩ := h_chk hf
    refine r_iast (n := 15) h 6 (wX0 c0 a0 a1 a2 a3 a4 a5 a6 a7 a8 many goesAt liftedForThese rowAt leastRowAt proof (upd s.2.1 (Int32.toNatClampNeg s.1) (0 : Int32)) s.2.2 longestFrom leastLifted) rfl hi2 rfl dX0_emptyRows_14 rfl ?_
    refine r_aload_n (n := 16) h 0 dX0_emptyRows_15 rfl rfl rfl ?_
    refine r_get (n := 19) h cf0 0 7 (v := .ref a7) fl_X0_30 rfl (by decide) rfl dX0_emptyRows_16 rfl ?_
    refine r_iload_n (n := 20) h 1 dX0_emptyRows_19 rfl rfl rfl ?_
    refine r_bipush (n := 22) h (10 : Int32) dX0_emptyRows_20 (by decide) rfl ?_
    obtain ⟨hi3, hf⟩ := h_chk hf
    refine r_iast (n := 23) h 7 (wX0 c0 a0 a1 a2 a3 a4 a5 a6 a7 a8 many goesAt liftedForThese rowAt leastRowAt proof (upd s.2.1 (Int32.toNatClampNeg s.1) (0 : Int32)) (upd s.2.2 (Int32.toNatClampNeg s.1) (10 : Int32)) longestFrom leastLifted) rfl hi3 rfl dX0_emptyRows_22 rfl ?_
    refine r_iinc (n := 26) h 1 (s.1 + (1 : Int32)) [(0, .ref a0), (1, .int (s.1 + (1 : Int32)))] dX0_emptyRows_23 rfl (congrArg (fun z => s.1 + z) oi_1) (by decide) rfl rfl ?_
    refine r_goto h 2 dX0_emptyRows_26 (by decide) ?_
    exact hk2 ((s.1 + (1 : Int32)), (upd s.2.1 (Int32.toNatClampNeg s.1) (0 : Int32)), (upd s.2.2 (Int32.toNatClampNeg s.1) (10 : Int32))) hf
def fX0_emptyRows (N : Nat) (inRow frontGoesAt : Nat → Int32) : Option ((Nat → Int32) × (Nat → Int32)) :=
  lp (bX0_emptyRows_2 N) N ((0 : Int32), inRow, frontGoesAt)
theorem kX0_emptyRows (l : Launch) (D : va_G) (c0 : Nat → ClassId) (a0 a1 a2 a3 a4 a5 a6 a7 a8 : Nat) (many : Int32) (goesAt liftedForThese rowAt leastRowAt proof inRow frontGoesAt longestFrom : Nat → Int32) (leastLifted : Int32) {N : Nat} {R : ((Nat → Int32) × (Nat → Int32))} (hf : fX0_emptyRows N inRow frontGoesAt = some R) : Ct l D c0 yX0_emptyRows cX0_emptyRows 2 (none) (rmF 0 0) [.ref a0] (wX0 c0 a0 a1 a2 a3 a4 a5 a6 a7 a8 many goesAt liftedForThese rowAt leastRowAt proof inRow frontGoesAt longestFrom leastLifted) none (wX0 c0 a0 a1 a2 a3 a4 a5 a6 a7 a8 many goesAt liftedForThese rowAt leastRowAt proof R.1 R.2 longestFrom leastLifted) := by
  refine Ct.mk (own := RX0) [(0, .ref a0)] rfl pl_X0 rfl (Nat.le_of_ble_eq_true rfl) (fun K h  => ?_)
  unfold fX0_emptyRows at hf
  refine r_iconst (n := 1) h (0 : Int32) dX0_emptyRows_0 (by decide) rfl ?_
  refine r_istore_n (n := 2) h [(0, .ref a0), (1, .int (0 : Int32))] dX0_emptyRows_1 rfl (by decide) rfl rfl ?_
  exact tX0_emptyRows_2 h  N ((0 : Int32), inRow, frontGoesAt) hf
end
section
variable {l : Launch} {D : va_G} {c0 : Nat → ClassId} {K : KT} {N : Nat} {R : Int32} {a0 a1 a2 a3 a4 a5 a6 a7 a8 : Nat} {many : Int32} {goesAt liftedForThese rowAt leastRowAt proof inRow frontGoesAt longestFrom : Nat → Int32} {leastLifted : Int32} {p1 : Int32}
def bX0_rowWithFewest_32 (N : Nat) (inRow : Nat → Int32) (p1 : Int32) (k4 : (Int32 × Int32) → Option Int32) (v2 : Int32) (v3 : Int32) : Option Int32 :=
  k4 (v2, (v3 + (1 : Int32)))
theorem tX0_rowWithFewest_32 {k4 : (Int32 × Int32) → Option Int32} (h : OKm D c0 K RX0 cX0_rowWithFewest 4 (some .int) (rmF 1 20) (some (.int R)) (wX0 c0 a0 a1 a2 a3 a4 a5 a6 a7 a8 many goesAt liftedForThese rowAt leastRowAt proof inRow frontGoesAt longestFrom leastLifted))  (hk4 : ∀ s : (Int32 × Int32), k4 s = some R → WW l D K 4 4 [(0, .ref a0), (1, .int p1), (2, .int s.1), (3, .int s.2)] [] (wX0 c0 a0 a1 a2 a3 a4 a5 a6 a7 a8 many goesAt liftedForThese rowAt leastRowAt proof inRow frontGoesAt longestFrom leastLifted)) (v2 : Int32) (v3 : Int32) (hf : bX0_rowWithFewest_32 N inRow p1 k4 v2 v3 = some R) : WW l D K 4 32 [(0, .ref a0), (1, .int p1), (2, .int v2), (3, .int v3)] [] (wX0 c0 a0 a1 a2 a3 a4 a5 a6 a7 a8 many goesAt liftedForThese rowAt leastRowAt proof inRow frontGoesAt longestFrom leastLifted) := by
  unfold bX0_rowWithFewest_32 at hf
  refine r_iinc (n := 35) h 3 (v3 + (1 : Int32)) [(0, .ref a0), (1, .int p1), (2, .int v2), (3, .int (v3 + (1 : Int32)))] dX0_rowWithFewest_32 rfl (congrArg (fun z => v3 + z) oi_1) (by decide) rfl rfl ?_
  refine r_goto h 4 dX0_rowWithFewest_35 (by decide) ?_
  exact hk4 (v2, (v3 + (1 : Int32))) hf
def bX0_rowWithFewest_4 (N : Nat) (inRow : Nat → Int32) (p1 : Int32) (k4 : (Int32 × Int32) → Option Int32) (s : (Int32 × Int32)) : Option Int32 :=
  (if p1 ≤ s.2 then some s.1 else if chk s.2 10 = true then (fJ6_bitCount_0f7a4 (inRow (Int32.toNatClampNeg s.2))).bind (fun u3 => if chk s.1 10 = true then (fJ6_bitCount_0f7a4 (inRow (Int32.toNatClampNeg s.1))).bind (fun u6 => (if u6 ≤ u3 then bX0_rowWithFewest_32 N inRow p1 k4 s.1 s.2 else bX0_rowWithFewest_32 N inRow p1 k4 s.2 s.2)) else none) else none)
theorem tX0_rowWithFewest_4  (h : OKm D c0 K RX0 cX0_rowWithFewest 4 (some .int) (rmF 1 20) (some (.int R)) (wX0 c0 a0 a1 a2 a3 a4 a5 a6 a7 a8 many goesAt liftedForThese rowAt leastRowAt proof inRow frontGoesAt longestFrom leastLifted))  : ∀ (n : Nat) (s : (Int32 × Int32)), lp (bX0_rowWithFewest_4 N inRow p1) n s = some R → WW l D K 4 4 [(0, .ref a0), (1, .int p1), (2, .int s.1), (3, .int s.2)] [] (wX0 c0 a0 a1 a2 a3 a4 a5 a6 a7 a8 many goesAt liftedForThese rowAt leastRowAt proof inRow frontGoesAt longestFrom leastLifted) := by
  refine lp_ind (fun k4 hk4 s hf => ?_)
  unfold bX0_rowWithFewest_4 at hf
  refine r_iload_n (n := 5) h 3 dX0_rowWithFewest_4 rfl rfl rfl ?_
  refine r_iload_n (n := 6) h 1 dX0_rowWithFewest_5 rfl rfl rfl ?_
  refine r_icmp_ge (n := 9) h 38 dX0_rowWithFewest_6 (by decide) rfl (fun hc1 => ?_) (fun hc1 => ?_)
  · have hf := h_pos hc1 hf
    refine r_iload_n (n := 39) h 2 dX0_rowWithFewest_38 rfl rfl rfl ?_
    have hf := Option.some.inj hf
    subst hf
    exact r_iret h dX0_rowWithFewest_39
  · have hf := h_neg hc1 hf
    refine r_aload_n (n := 10) h 0 dX0_rowWithFewest_9 rfl rfl rfl ?_
    refine r_get (n := 13) h cf0 0 6 (v := .ref a6) fl_X0_27 rfl (by decide) rfl dX0_rowWithFewest_10 rfl ?_
    refine r_iload_n (n := 14) h 3 dX0_rowWithFewest_13 rfl rfl rfl ?_
    obtain ⟨hi2, hf⟩ := h_chk hf
    refine r_iald (n := 15) h 6 rfl hi2 dX0_rowWithFewest_14 rfl ?_
    obtain ⟨u3, hu4, hf⟩ := h_bind hf
    refine r_callS (n := 18) h mi_J6_bitCount_0f7a4 ms_J6_bitCount_0f7a4 ml_X0_70 (kJ6_bitCount_0f7a4 l D c0 (inRow (Int32.toNatClampNeg s.2)) hu4) [] (wX0 c0 a0 a1 a2 a3 a4 a5 a6 a7 a8 many goesAt liftedForThese rowAt leastRowAt proof inRow frontGoesAt longestFrom leastLifted) (ws := (wX0 c0 a0 a1 a2 a3 a4 a5 a6 a7 a8 many goesAt liftedForThese rowAt leastRowAt proof inRow frontGoesAt longestFrom leastLifted)) (st := []) (st1 := [.int u3]) rfl rfl rfl rfl rfl rfl ⟨rfl, rfl, by decide, by decide⟩ rfl rfl (Nat.le_of_ble_eq_true rfl) dX0_rowWithFewest_15 rfl ?_
    refine r_aload_n (n := 19) h 0 dX0_rowWithFewest_18 rfl rfl rfl ?_
    refine r_get (n := 22) h cf0 0 6 (v := .ref a6) fl_X0_27 rfl (by decide) rfl dX0_rowWithFewest_19 rfl ?_
    refine r_iload_n (n := 23) h 2 dX0_rowWithFewest_22 rfl rfl rfl ?_
    obtain ⟨hi5, hf⟩ := h_chk hf
    refine r_iald (n := 24) h 6 rfl hi5 dX0_rowWithFewest_23 rfl ?_
    obtain ⟨u6, hu7, hf⟩ := h_bind hf
    refine r_callS (n := 27) h mi_J6_bitCount_0f7a4 ms_J6_bitCount_0f7a4 ml_X0_70 (kJ6_bitCount_0f7a4 l D c0 (inRow (Int32.toNatClampNeg s.1)) hu7) [] (wX0 c0 a0 a1 a2 a3 a4 a5 a6 a7 a8 many goesAt liftedForThese rowAt leastRowAt proof inRow frontGoesAt longestFrom leastLifted) (ws := (wX0 c0 a0 a1 a2 a3 a4 a5 a6 a7 a8 many goesAt liftedForThese rowAt leastRowAt proof inRow frontGoesAt longestFrom leastLifted)) (st := [.int u3]) (st1 := [.int u6, .int u3]) rfl rfl rfl rfl rfl rfl ⟨rfl, rfl, by decide, by decide⟩ rfl rfl (Nat.le_of_ble_eq_true rfl) dX0_rowWithFewest_24 rfl ?_
    refine r_icmp_ge (n := 30) h 32 dX0_rowWithFewest_27 (by decide) rfl (fun hc8 => ?_) (fun hc8 => ?_)
    · have hf := h_pos hc8 hf
      exact tX0_rowWithFewest_32 h hk4 s.1 s.2 hf
    · have hf := h_neg hc8 hf
      refine r_iload_n (n := 31) h 3 dX0_rowWithFewest_30 rfl rfl rfl ?_
      refine r_istore_n (n := 32) h [(0, .ref a0), (1, .int p1), (2, .int s.2), (3, .int s.2)] dX0_rowWithFewest_31 rfl (by decide) rfl rfl ?_
      exact tX0_rowWithFewest_32 h hk4 s.2 s.2 hf
def fX0_rowWithFewest (N : Nat) (inRow : Nat → Int32) (p1 : Int32) : Option Int32 :=
  lp (bX0_rowWithFewest_4 N inRow p1) N ((0 : Int32), (1 : Int32))
theorem kX0_rowWithFewest (l : Launch) (D : va_G) (c0 : Nat → ClassId) (a0 a1 a2 a3 a4 a5 a6 a7 a8 : Nat) (many : Int32) (goesAt liftedForThese rowAt leastRowAt proof inRow frontGoesAt longestFrom : Nat → Int32) (leastLifted : Int32) (p1 : Int32) {N : Nat} {R : Int32} (hf : fX0_rowWithFewest N inRow p1 = some R) : Ct l D c0 yX0_rowWithFewest cX0_rowWithFewest 4 (some .int) (rmF 1 20) [.ref a0, .int p1] (wX0 c0 a0 a1 a2 a3 a4 a5 a6 a7 a8 many goesAt liftedForThese rowAt leastRowAt proof inRow frontGoesAt longestFrom leastLifted) (some (.int R)) (wX0 c0 a0 a1 a2 a3 a4 a5 a6 a7 a8 many goesAt liftedForThese rowAt leastRowAt proof inRow frontGoesAt longestFrom leastLifted) := by
  refine Ct.mk (own := RX0) [(0, .ref a0), (1, .int p1)] rfl pl_X0 rfl (Nat.le_of_ble_eq_true rfl) (fun K h  => ?_)
  unfold fX0_rowWithFewest at hf
  refine r_iconst (n := 1) h (0 : Int32) dX0_rowWithFewest_0 (by decide) rfl ?_
  refine r_istore_n (n := 2) h [(0, .ref a0), (1, .int p1), (2, .int (0 : Int32))] dX0_rowWithFewest_1 rfl (by decide) rfl rfl ?_
  refine r_iconst (n := 3) h (1 : Int32) dX0_rowWithFewest_2 (by decide) rfl ?_
  refine r_istore_n (n := 4) h [(0, .ref a0), (1, .int p1), (2, .int (0 : Int32)), (3, .int (1 : Int32))] dX0_rowWithFewest_3 rfl (by decide) rfl rfl ?_
  exact tX0_rowWithFewest_4 h  N ((0 : Int32), (1 : Int32)) hf
end
section
variable {l : Launch} {D : va_G} {c0 : Nat → ClassId} {K : KT} {N : Nat} {R : Int32} {a0 a1 a2 a3 a4 a5 a6 a7 a8 : Nat} {many : Int32} {goesAt liftedForThese rowAt leastRowAt proof inRow frontGoesAt longestFrom : Nat → Int32} {leastLifted : Int32} {p1 : Int32} {p2 : Int32}
def bX0_rowGoingSoonest_64 (N : Nat) (frontGoesAt : Nat → Int32) (p1 : Int32) (p2 : Int32) (k8 : (Int32 × Int32 × Int32) → Option Int32) (v3 : Int32) (v4 : Int32) (v5 : Int32) : Option Int32 :=
  k8 (v3, v4, (v5 + (1 : Int32)))
theorem tX0_rowGoingSoonest_64 {k8 : (Int32 × Int32 × Int32) → Option Int32} (h : OKm D c0 K RX0 cX0_rowGoingSoonest 7 (some .int) (rmF 0 0) (some (.int R)) (wX0 c0 a0 a1 a2 a3 a4 a5 a6 a7 a8 many goesAt liftedForThese rowAt leastRowAt proof inRow frontGoesAt longestFrom leastLifted))  (hk8 : ∀ s : (Int32 × Int32 × Int32), k8 s = some R → WW l D K 7 8 [(0, .ref a0), (1, .int p1), (2, .int p2), (3, .int s.1), (4, .int s.2.1), (5, .int s.2.2)] [] (wX0 c0 a0 a1 a2 a3 a4 a5 a6 a7 a8 many goesAt liftedForThese rowAt leastRowAt proof inRow frontGoesAt longestFrom leastLifted)) (v3 : Int32) (v4 : Int32) (v5 : Int32) (hf : bX0_rowGoingSoonest_64 N frontGoesAt p1 p2 k8 v3 v4 v5 = some R) : WW l D K 7 64 [(0, .ref a0), (1, .int p1), (2, .int p2), (3, .int v3), (4, .int v4), (5, .int v5)] [] (wX0 c0 a0 a1 a2 a3 a4 a5 a6 a7 a8 many goesAt liftedForThese rowAt leastRowAt proof inRow frontGoesAt longestFrom leastLifted) := by
  unfold bX0_rowGoingSoonest_64 at hf
  refine r_iinc (n := 67) h 5 (v5 + (1 : Int32)) [(0, .ref a0), (1, .int p1), (2, .int p2), (3, .int v3), (4, .int v4), (5, .int (v5 + (1 : Int32)))] dX0_rowGoingSoonest_64 rfl (congrArg (fun z => v5 + z) oi_1) (by decide) rfl rfl ?_
  refine r_goto h 8 dX0_rowGoingSoonest_67 (by decide) ?_
  exact hk8 (v3, v4, (v5 + (1 : Int32))) hf
def bX0_rowGoingSoonest_48 (N : Nat) (frontGoesAt : Nat → Int32) (p1 : Int32) (p2 : Int32) (k8 : (Int32 × Int32 × Int32) → Option Int32) (v3 : Int32) (v4 : Int32) (v5 : Int32) (v6 : Int32) : Option Int32 :=
  if chk v4 10 = true then (if v6 ≤ (frontGoesAt (Int32.toNatClampNeg v4)) then bX0_rowGoingSoonest_64 N frontGoesAt p1 p2 k8 v3 v4 v5 else bX0_rowGoingSoonest_64 N frontGoesAt p1 p2 k8 v3 v5 v5) else none
theorem tX0_rowGoingSoonest_48 {k8 : (Int32 × Int32 × Int32) → Option Int32} (h : OKm D c0 K RX0 cX0_rowGoingSoonest 7 (some .int) (rmF 0 0) (some (.int R)) (wX0 c0 a0 a1 a2 a3 a4 a5 a6 a7 a8 many goesAt liftedForThese rowAt leastRowAt proof inRow frontGoesAt longestFrom leastLifted))  (hk8 : ∀ s : (Int32 × Int32 × Int32), k8 s = some R → WW l D K 7 8 [(0, .ref a0), (1, .int p1), (2, .int p2), (3, .int s.1), (4, .int s.2.1), (5, .int s.2.2)] [] (wX0 c0 a0 a1 a2 a3 a4 a5 a6 a7 a8 many goesAt liftedForThese rowAt leastRowAt proof inRow frontGoesAt longestFrom leastLifted)) (v3 : Int32) (v4 : Int32) (v5 : Int32) (v6 : Int32) (hf : bX0_rowGoingSoonest_48 N frontGoesAt p1 p2 k8 v3 v4 v5 v6 = some R) : WW l D K 7 48 [(0, .ref a0), (1, .int p1), (2, .int p2), (3, .int v3), (4, .int v4), (5, .int v5), (6, .int v6)] [] (wX0 c0 a0 a1 a2 a3 a4 a5 a6 a7 a8 many goesAt liftedForThese rowAt leastRowAt proof inRow frontGoesAt longestFrom leastLifted) := by
  unfold bX0_rowGoingSoonest_48 at hf
  refine r_iload (n := 50) h 6 dX0_rowGoingSoonest_48 rfl rfl ?_
  refine r_aload_n (n := 51) h 0 dX0_rowGoingSoonest_50 rfl rfl rfl ?_
  refine r_get (n := 54) h cf0 0 7 (v := .ref a7) fl_X0_30 rfl (by decide) rfl dX0_rowGoingSoonest_51 rfl ?_
  refine r_iload (n := 56) h 4 dX0_rowGoingSoonest_54 rfl rfl ?_
  obtain ⟨hi5, hf⟩ := h_chk hf
  refine r_iald (n := 57) h 7 rfl hi5 dX0_rowGoingSoonest_56 rfl ?_
  refine r_icmp_le (n := 60) h 64 dX0_rowGoingSoonest_57 (by decide) rfl (fun hc6 => ?_) (fun hc6 => ?_)
  · have hf := h_pos hc6 hf
    refine r_lv [0, 1, 2, 3, 4, 5] (lv' := [(0, .ref a0), (1, .int p1), (2, .int p2), (3, .int v3), (4, .int v4), (5, .int v5)]) rfl ?_
    exact tX0_rowGoingSoonest_64 h hk8 v3 v4 v5 hf
  · have hf := h_neg hc6 hf
    refine r_iload (n := 62) h 5 dX0_rowGoingSoonest_60 rfl rfl ?_
    refine r_istore (n := 64) h [(0, .ref a0), (1, .int p1), (2, .int p2), (3, .int v3), (4, .int v5), (5, .int v5), (6, .int v6)] dX0_rowGoingSoonest_62 (by decide) rfl rfl ?_
    refine r_lv [0, 1, 2, 3, 4, 5] (lv' := [(0, .ref a0), (1, .int p1), (2, .int p2), (3, .int v3), (4, .int v5), (5, .int v5)]) rfl ?_
    exact tX0_rowGoingSoonest_64 h hk8 v3 v5 v5 hf
def bX0_rowGoingSoonest_8 (N : Nat) (frontGoesAt : Nat → Int32) (p1 : Int32) (p2 : Int32) (k8 : (Int32 × Int32 × Int32) → Option Int32) (s : (Int32 × Int32 × Int32)) : Option Int32 :=
  (if p1 ≤ s.2.2 then (if s.1 = (-1 : Int32) then some s.2.1 else some s.1) else if chk s.2.2 10 = true then (if (frontGoesAt (Int32.toNatClampNeg s.2.2)) ≤ p2 then bX0_rowGoingSoonest_48 N frontGoesAt p1 p2 k8 s.1 s.2.1 s.2.2 (frontGoesAt (Int32.toNatClampNeg s.2.2)) else (if s.1 = (-1 : Int32) then bX0_rowGoingSoonest_48 N frontGoesAt p1 p2 k8 s.2.2 s.2.1 s.2.2 (frontGoesAt (Int32.toNatClampNeg s.2.2)) else if chk s.1 10 = true then (if (frontGoesAt (Int32.toNatClampNeg s.1)) ≤ (frontGoesAt (Int32.toNatClampNeg s.2.2)) then bX0_rowGoingSoonest_48 N frontGoesAt p1 p2 k8 s.1 s.2.1 s.2.2 (frontGoesAt (Int32.toNatClampNeg s.2.2)) else bX0_rowGoingSoonest_48 N frontGoesAt p1 p2 k8 s.2.2 s.2.1 s.2.2 (frontGoesAt (Int32.toNatClampNeg s.2.2))) else none)) else none)
theorem tX0_rowGoingSoonest_8  (h : OKm D c0 K RX0 cX0_rowGoingSoonest 7 (some .int) (rmF 0 0) (some (.int R)) (wX0 c0 a0 a1 a2 a3 a4 a5 a6 a7 a8 many goesAt liftedForThese rowAt leastRowAt proof inRow frontGoesAt longestFrom leastLifted))  : ∀ (n : Nat) (s : (Int32 × Int32 × Int32)), lp (bX0_rowGoingSoonest_8 N frontGoesAt p1 p2) n s = some R → WW l D K 7 8 [(0, .ref a0), (1, .int p1), (2, .int p2), (3, .int s.1), (4, .int s.2.1), (5, .int s.2.2)] [] (wX0 c0 a0 a1 a2 a3 a4 a5 a6 a7 a8 many goesAt liftedForThese rowAt leastRowAt proof inRow frontGoesAt longestFrom leastLifted) := by
  refine lp_ind (fun k8 hk8 s hf => ?_)
  unfold bX0_rowGoingSoonest_8 at hf
  refine r_iload (n := 10) h 5 dX0_rowGoingSoonest_8 rfl rfl ?_
  refine r_iload_n (n := 11) h 1 dX0_rowGoingSoonest_10 rfl rfl rfl ?_
  refine r_icmp_ge (n := 14) h 70 dX0_rowGoingSoonest_11 (by decide) rfl (fun hc1 => ?_) (fun hc1 => ?_)
  · have hf := h_pos hc1 hf
    refine r_iload_n (n := 71) h 3 dX0_rowGoingSoonest_70 rfl rfl rfl ?_
    refine r_iconst (n := 72) h (-1 : Int32) dX0_rowGoingSoonest_71 (by decide) rfl ?_
    refine r_icmp_ne (n := 75) h 80 dX0_rowGoingSoonest_72 (by decide) rfl (fun hc2 => ?_) (fun hc2 => ?_)
    · have hf := h_neg hc2 hf
      refine r_iload_n (n := 81) h 3 dX0_rowGoingSoonest_80 rfl rfl rfl ?_
      have hf := Option.some.inj hf
      subst hf
      exact r_iret h dX0_rowGoingSoonest_81
    · have hf := h_pos hc2 hf
      refine r_iload (n := 77) h 4 dX0_rowGoingSoonest_75 rfl rfl ?_
      refine r_goto h 81 dX0_rowGoingSoonest_77 (by decide) ?_
      have hf := Option.some.inj hf
      subst hf
      exact r_iret h dX0_rowGoingSoonest_81
  · have hf := h_neg hc1 hf
    refine r_aload_n (n := 15) h 0 dX0_rowGoingSoonest_14 rfl rfl rfl ?_
    refine r_get (n := 18) h cf0 0 7 (v := .ref a7) fl_X0_30 rfl (by decide) rfl dX0_rowGoingSoonest_15 rfl ?_
    refine r_iload (n := 20) h 5 dX0_rowGoingSoonest_18 rfl rfl ?_
    obtain ⟨hi3, hf⟩ := h_chk hf
    refine r_iald (n := 21) h 7 rfl hi3 dX0_rowGoingSoonest_20 rfl ?_
    refine r_istore (n := 23) h [(0, .ref a0), (1, .int p1), (2, .int p2), (3, .int s.1), (4, .int s.2.1), (5, .int s.2.2), (6, .int (frontGoesAt (Int32.toNatClampNeg s.2.2)))] dX0_rowGoingSoonest_21 (by decide) rfl rfl ?_
    refine r_iload (n := 25) h 6 dX0_rowGoingSoonest_23 rfl rfl ?_
    refine r_iload_n (n := 26) h 2 dX0_rowGoingSoonest_25 rfl rfl rfl ?_
    refine r_icmp_le (n := 29) h 48 dX0_rowGoingSoonest_26 (by decide) rfl (fun hc4 => ?_) (fun hc4 => ?_)
    · have hf := h_pos hc4 hf
      exact tX0_rowGoingSoonest_48 h hk8 s.1 s.2.1 s.2.2 (frontGoesAt (Int32.toNatClampNeg s.2.2)) hf
    · have hf := h_neg hc4 hf
      refine r_iload_n (n := 30) h 3 dX0_rowGoingSoonest_29 rfl rfl rfl ?_
      refine r_iconst (n := 31) h (-1 : Int32) dX0_rowGoingSoonest_30 (by decide) rfl ?_
      refine r_icmp_eq (n := 34) h 45 dX0_rowGoingSoonest_31 (by decide) rfl (fun hc7 => ?_) (fun hc7 => ?_)
      · have hf := h_pos hc7 hf
        refine r_iload (n := 47) h 5 dX0_rowGoingSoonest_45 rfl rfl ?_
        refine r_istore_n (n := 48) h [(0, .ref a0), (1, .int p1), (2, .int p2), (3, .int s.2.2), (4, .int s.2.1), (5, .int s.2.2), (6, .int (frontGoesAt (Int32.toNatClampNeg s.2.2)))] dX0_rowGoingSoonest_47 rfl (by decide) rfl rfl ?_
        exact tX0_rowGoingSoonest_48 h hk8 s.2.2 s.2.1 s.2.2 (frontGoesAt (Int32.toNatClampNeg s.2.2)) hf
      · have hf := h_neg hc7 hf
        refine r_iload (n := 36) h 6 dX0_rowGoingSoonest_34 rfl rfl ?_
        refine r_aload_n (n := 37) h 0 dX0_rowGoingSoonest_36 rfl rfl rfl ?_
        refine r_get (n := 40) h cf0 0 7 (v := .ref a7) fl_X0_30 rfl (by decide) rfl dX0_rowGoingSoonest_37 rfl ?_
        refine r_iload_n (n := 41) h 3 dX0_rowGoingSoonest_40 rfl rfl rfl ?_
        obtain ⟨hi8, hf⟩ := h_chk hf
        refine r_iald (n := 42) h 7 rfl hi8 dX0_rowGoingSoonest_41 rfl ?_
        refine r_icmp_ge (n := 45) h 48 dX0_rowGoingSoonest_42 (by decide) rfl (fun hc9 => ?_) (fun hc9 => ?_)
        · have hf := h_pos hc9 hf
          exact tX0_rowGoingSoonest_48 h hk8 s.1 s.2.1 s.2.2 (frontGoesAt (Int32.toNatClampNeg s.2.2)) hf
        · have hf := h_neg hc9 hf
          refine r_iload (n := 47) h 5 dX0_rowGoingSoonest_45 rfl rfl ?_
          refine r_istore_n (n := 48) h [(0, .ref a0), (1, .int p1), (2, .int p2), (3, .int s.2.2), (4, .int s.2.1), (5, .int s.2.2), (6, .int (frontGoesAt (Int32.toNatClampNeg s.2.2)))] dX0_rowGoingSoonest_47 rfl (by decide) rfl rfl ?_
          exact tX0_rowGoingSoonest_48 h hk8 s.2.2 s.2.1 s.2.2 (frontGoesAt (Int32.toNatClampNeg s.2.2)) hf
def fX0_rowGoingSoonest (N : Nat) (frontGoesAt : Nat → Int32) (p1 : Int32) (p2 : Int32) : Option Int32 :=
  lp (bX0_rowGoingSoonest_8 N frontGoesAt p1 p2) N ((-1 : Int32), (0 : Int32), (0 : Int32))
theorem kX0_rowGoingSoonest (l : Launch) (D : va_G) (c0 : Nat → ClassId) (a0 a1 a2 a3 a4 a5 a6 a7 a8 : Nat) (many : Int32) (goesAt liftedForThese rowAt leastRowAt proof inRow frontGoesAt longestFrom : Nat → Int32) (leastLifted : Int32) (p1 : Int32) (p2 : Int32) {N : Nat} {R : Int32} (hf : fX0_rowGoingSoonest N frontGoesAt p1 p2 = some R) : Ct l D c0 yX0_rowGoingSoonest cX0_rowGoingSoonest 7 (some .int) (rmF 0 0) [.ref a0, .int p1, .int p2] (wX0 c0 a0 a1 a2 a3 a4 a5 a6 a7 a8 many goesAt liftedForThese rowAt leastRowAt proof inRow frontGoesAt longestFrom leastLifted) (some (.int R)) (wX0 c0 a0 a1 a2 a3 a4 a5 a6 a7 a8 many goesAt liftedForThese rowAt leastRowAt proof inRow frontGoesAt longestFrom leastLifted) := by
  refine Ct.mk (own := RX0) [(0, .ref a0), (1, .int p1), (2, .int p2)] rfl pl_X0 rfl (Nat.le_of_ble_eq_true rfl) (fun K h  => ?_)
  unfold fX0_rowGoingSoonest at hf
  refine r_iconst (n := 1) h (-1 : Int32) dX0_rowGoingSoonest_0 (by decide) rfl ?_
  refine r_istore_n (n := 2) h [(0, .ref a0), (1, .int p1), (2, .int p2), (3, .int (-1 : Int32))] dX0_rowGoingSoonest_1 rfl (by decide) rfl rfl ?_
  refine r_iconst (n := 3) h (0 : Int32) dX0_rowGoingSoonest_2 (by decide) rfl ?_
  refine r_istore (n := 5) h [(0, .ref a0), (1, .int p1), (2, .int p2), (3, .int (-1 : Int32)), (4, .int (0 : Int32))] dX0_rowGoingSoonest_3 (by decide) rfl rfl ?_
  refine r_iconst (n := 6) h (0 : Int32) dX0_rowGoingSoonest_5 (by decide) rfl ?_
  refine r_istore (n := 8) h [(0, .ref a0), (1, .int p1), (2, .int p2), (3, .int (-1 : Int32)), (4, .int (0 : Int32)), (5, .int (0 : Int32))] dX0_rowGoingSoonest_6 (by decide) rfl rfl ?_
  exact tX0_rowGoingSoonest_8 h  N ((-1 : Int32), (0 : Int32), (0 : Int32)) hf
end
section
variable {l : Launch} {D : va_G} {c0 : Nat → ClassId} {K : KT} {N : Nat} {R : Int32} {a0 a1 a2 a3 a4 a5 a6 a7 a8 : Nat} {many : Int32} {goesAt liftedForThese rowAt leastRowAt proof inRow frontGoesAt longestFrom : Nat → Int32} {leastLifted : Int32} {p1 : Int32} {p2 : Int32}
def fX0_liftedWith (liftedForThese inRow : Nat → Int32) (p1 : Int32) (p2 : Int32) : Option Int32 :=
  if chk p1 10 = true then if chk p2 10 = true then (fJ6_bitCount_0f7a4 ((liftedForThese (Int32.toNatClampNeg p1)) &&& (inRow (Int32.toNatClampNeg p2)))).bind (fun u3 => some u3) else none else none
theorem kX0_liftedWith (l : Launch) (D : va_G) (c0 : Nat → ClassId) (a0 a1 a2 a3 a4 a5 a6 a7 a8 : Nat) (many : Int32) (goesAt liftedForThese rowAt leastRowAt proof inRow frontGoesAt longestFrom : Nat → Int32) (leastLifted : Int32) (p1 : Int32) (p2 : Int32) {R : Int32} (hf : fX0_liftedWith liftedForThese inRow p1 p2 = some R) : Ct l D c0 yX0_liftedWith cX0_liftedWith 3 (some .int) (rmF 1 20) [.ref a0, .int p1, .int p2] (wX0 c0 a0 a1 a2 a3 a4 a5 a6 a7 a8 many goesAt liftedForThese rowAt leastRowAt proof inRow frontGoesAt longestFrom leastLifted) (some (.int R)) (wX0 c0 a0 a1 a2 a3 a4 a5 a6 a7 a8 many goesAt liftedForThese rowAt leastRowAt proof inRow frontGoesAt longestFrom leastLifted) := by
  refine Ct.mk (own := RX0) [(0, .ref a0), (1, .int p1), (2, .int p2)] rfl pl_X0 rfl (Nat.le_of_ble_eq_true rfl) (fun K h  => ?_)
  unfold fX0_liftedWith at hf
  refine r_aload_n (n := 1) h 0 dX0_liftedWith_0 rfl rfl rfl ?_
  refine r_get (n := 4) h cf0 0 2 (v := .ref a2) fl_X0_15 rfl (by decide) rfl dX0_liftedWith_1 rfl ?_
  refine r_iload_n (n := 5) h 1 dX0_liftedWith_4 rfl rfl rfl ?_
  obtain ⟨hi1, hf⟩ := h_chk hf
  refine r_iald (n := 6) h 2 rfl hi1 dX0_liftedWith_5 rfl ?_
  refine r_aload_n (n := 7) h 0 dX0_liftedWith_6 rfl rfl rfl ?_
  refine r_get (n := 10) h cf0 0 6 (v := .ref a6) fl_X0_27 rfl (by decide) rfl dX0_liftedWith_7 rfl ?_
  refine r_iload_n (n := 11) h 2 dX0_liftedWith_10 rfl rfl rfl ?_
  obtain ⟨hi2, hf⟩ := h_chk hf
  refine r_iald (n := 12) h 6 rfl hi2 dX0_liftedWith_11 rfl ?_
  refine r_iand (n := 13) h dX0_liftedWith_12 rfl ?_
  obtain ⟨u3, hu4, hf⟩ := h_bind hf
  refine r_callS (n := 16) h mi_J6_bitCount_0f7a4 ms_J6_bitCount_0f7a4 ml_X0_70 (kJ6_bitCount_0f7a4 l D c0 ((liftedForThese (Int32.toNatClampNeg p1)) &&& (inRow (Int32.toNatClampNeg p2))) hu4) [] (wX0 c0 a0 a1 a2 a3 a4 a5 a6 a7 a8 many goesAt liftedForThese rowAt leastRowAt proof inRow frontGoesAt longestFrom leastLifted) (ws := (wX0 c0 a0 a1 a2 a3 a4 a5 a6 a7 a8 many goesAt liftedForThese rowAt leastRowAt proof inRow frontGoesAt longestFrom leastLifted)) (st := []) (st1 := [.int u3]) rfl rfl rfl rfl rfl rfl ⟨rfl, rfl, by decide, by decide⟩ rfl rfl (Nat.le_of_ble_eq_true rfl) dX0_liftedWith_13 rfl ?_
  have hf := Option.some.inj hf
  subst hf
  exact r_iret h dX0_liftedWith_16
end
section
variable {l : Launch} {D : va_G} {c0 : Nat → ClassId} {K : KT} {N : Nat} {R : (Int32 × (Nat → Int32) × (Nat → Int32) × (Nat → Int32))} {a0 a1 a2 a3 a4 a5 a6 a7 a8 : Nat} {many : Int32} {goesAt liftedForThese rowAt leastRowAt proof inRow frontGoesAt longestFrom : Nat → Int32} {leastLifted : Int32} {p1 : Int32} {p2 : Int32} {p3 : Int32}
def bX0_layByRule_71 (N : Nat) (goesAt liftedForThese : Nat → Int32) (p1 : Int32) (p2 : Int32) (p3 : Int32) (k10 : (Int32 × Int32 × (Nat → Int32) × (Nat → Int32) × (Nat → Int32)) → Option (Int32 × (Nat → Int32) × (Nat → Int32) × (Nat → Int32))) (v4 : Int32) (v5 : Int32) (v6 : Int32) (rowAt : Nat → Int32) (inRow : Nat → Int32) (frontGoesAt : Nat → Int32) : Option (Int32 × (Nat → Int32) × (Nat → Int32) × (Nat → Int32)) :=
  (fX0_liftedWith liftedForThese inRow v5 v6).bind (fun u7 => if chk v6 10 = true then (fX6_bit v5).bind (fun u10 => if chk v6 10 = true then if chk v5 10 = true then if chk v6 10 = true then if chk v5 10 = true then k10 ((v4 + u7), (v5 + (1 : Int32)), (upd rowAt (Int32.toNatClampNeg v5) v6), (upd inRow (Int32.toNatClampNeg v6) ((inRow (Int32.toNatClampNeg v6)) ||| u10)), (upd frontGoesAt (Int32.toNatClampNeg v6) (goesAt (Int32.toNatClampNeg v5)))) else none else none else none else none) else none)
theorem tX0_layByRule_71 {k10 : (Int32 × Int32 × (Nat → Int32) × (Nat → Int32) × (Nat → Int32)) → Option (Int32 × (Nat → Int32) × (Nat → Int32) × (Nat → Int32))} (h : OKm D c0 K RX0 cX0_layByRule 7 (some .int) (rmF 2 43) (some (.int R.1)) (wX0 c0 a0 a1 a2 a3 a4 a5 a6 a7 a8 many goesAt liftedForThese R.2.1 leastRowAt proof R.2.2.1 R.2.2.2 longestFrom leastLifted))  (hk10 : ∀ s : (Int32 × Int32 × (Nat → Int32) × (Nat → Int32) × (Nat → Int32)), k10 s = some R → WW l D K 7 10 [(0, .ref a0), (1, .int p1), (2, .int p2), (3, .int p3), (4, .int s.1), (5, .int s.2.1)] [] (wX0 c0 a0 a1 a2 a3 a4 a5 a6 a7 a8 many goesAt liftedForThese s.2.2.1 leastRowAt proof s.2.2.2.1 s.2.2.2.2 longestFrom leastLifted)) (v4 : Int32) (v5 : Int32) (v6 : Int32) (rowAt : Nat → Int32) (inRow : Nat → Int32) (frontGoesAt : Nat → Int32) (hf : bX0_layByRule_71 N goesAt liftedForThese p1 p2 p3 k10 v4 v5 v6 rowAt inRow frontGoesAt = some R) : WW l D K 7 71 [(0, .ref a0), (1, .int p1), (2, .int p2), (3, .int p3), (4, .int v4), (5, .int v5), (6, .int v6)] [] (wX0 c0 a0 a1 a2 a3 a4 a5 a6 a7 a8 many goesAt liftedForThese rowAt leastRowAt proof inRow frontGoesAt longestFrom leastLifted) := by
  unfold bX0_layByRule_71 at hf
  refine r_iload (n := 73) h 4 dX0_layByRule_71 rfl rfl ?_
  refine r_aload_n (n := 74) h 0 dX0_layByRule_73 rfl rfl rfl ?_
  refine r_iload (n := 76) h 5 dX0_layByRule_74 rfl rfl ?_
  refine r_iload (n := 78) h 6 dX0_layByRule_76 rfl rfl ?_
  obtain ⟨u7, hu8, hf⟩ := h_bind hf
  refine r_callT (n := 81) h mi_X0_liftedWith mv_X0_liftedWith ml_X0_67 (kX0_liftedWith l D c0 a0 a1 a2 a3 a4 a5 a6 a7 a8 many goesAt liftedForThese rowAt leastRowAt proof inRow frontGoesAt longestFrom leastLifted v5 v6 hu8) (wX0 c0 a0 a1 a2 a3 a4 a5 a6 a7 a8 many goesAt liftedForThese rowAt leastRowAt proof inRow frontGoesAt longestFrom leastLifted) (ws := (wX0 c0 a0 a1 a2 a3 a4 a5 a6 a7 a8 many goesAt liftedForThese rowAt leastRowAt proof inRow frontGoesAt longestFrom leastLifted)) (st := [.int v4]) (st1 := [.int u7, .int v4]) rfl rfl rfl rfl rfl rfl ⟨rfl, rfl, by decide, by decide⟩ rfl rfl (Nat.le_of_ble_eq_true rfl) dX0_layByRule_78 rfl ?_
  refine r_iadd (n := 82) h dX0_layByRule_81 rfl ?_
  refine r_istore (n := 84) h [(0, .ref a0), (1, .int p1), (2, .int p2), (3, .int p3), (4, .int (v4 + u7)), (5, .int v5), (6, .int v6)] dX0_layByRule_82 (by decide) rfl rfl ?_
  refine r_aload_n (n := 85) h 0 dX0_layByRule_84 rfl rfl rfl ?_
  refine r_get (n := 88) h cf0 0 6 (v := .ref a6) fl_X0_27 rfl (by decide) rfl dX0_layByRule_85 rfl ?_
  refine r_iload (n := 90) h 6 dX0_layByRule_88 rfl rfl ?_
  refine r_dup2 (n := 91) h dX0_layByRule_90 rfl rfl rfl ?_
  obtain ⟨hi9, hf⟩ := h_chk hf
  refine r_iald (n := 92) h 6 rfl hi9 dX0_layByRule_91 rfl ?_
  refine r_iload (n := 94) h 5 dX0_layByRule_92 rfl rfl ?_
  obtain ⟨u10, hu11, hf⟩ := h_bind hf
  refine r_callN (n := 97) h mi_X6_bit ms_X6_bit mn_X0_49 (kX6_bit l D c0 v5 hu11) [] (wX0 c0 a0 a1 a2 a3 a4 a5 a6 a7 a8 many goesAt liftedForThese rowAt leastRowAt proof inRow frontGoesAt longestFrom leastLifted) (ws := (wX0 c0 a0 a1 a2 a3 a4 a5 a6 a7 a8 many goesAt liftedForThese rowAt leastRowAt proof inRow frontGoesAt longestFrom leastLifted)) (st := [.int (inRow (Int32.toNatClampNeg v6)), .int v6, .ref a6]) (st1 := [.int u10, .int (inRow (Int32.toNatClampNeg v6)), .int v6, .ref a6]) rfl rfl rfl rfl rfl rfl ⟨rfl, rfl, by decide, by decide⟩ rfl rfl (Nat.le_of_ble_eq_true rfl) dX0_layByRule_94 rfl ?_
  refine r_ior (n := 98) h dX0_layByRule_97 rfl ?_
  obtain ⟨hi12, hf⟩ := h_chk hf
  refine r_iast (n := 99) h 6 (wX0 c0 a0 a1 a2 a3 a4 a5 a6 a7 a8 many goesAt liftedForThese rowAt leastRowAt proof (upd inRow (Int32.toNatClampNeg v6) ((inRow (Int32.toNatClampNeg v6)) ||| u10)) frontGoesAt longestFrom leastLifted) rfl hi12 rfl dX0_layByRule_98 rfl ?_
  refine r_aload_n (n := 100) h 0 dX0_layByRule_99 rfl rfl rfl ?_
  refine r_get (n := 103) h cf0 0 7 (v := .ref a7) fl_X0_30 rfl (by decide) rfl dX0_layByRule_100 rfl ?_
  refine r_iload (n := 105) h 6 dX0_layByRule_103 rfl rfl ?_
  refine r_aload_n (n := 106) h 0 dX0_layByRule_105 rfl rfl rfl ?_
  refine r_get (n := 109) h cf0 0 1 (v := .ref a1) fl_X0_9 rfl (by decide) rfl dX0_layByRule_106 rfl ?_
  refine r_iload (n := 111) h 5 dX0_layByRule_109 rfl rfl ?_
  obtain ⟨hi13, hf⟩ := h_chk hf
  refine r_iald (n := 112) h 1 rfl hi13 dX0_layByRule_111 rfl ?_
  obtain ⟨hi14, hf⟩ := h_chk hf
  refine r_iast (n := 113) h 7 (wX0 c0 a0 a1 a2 a3 a4 a5 a6 a7 a8 many goesAt liftedForThese rowAt leastRowAt proof (upd inRow (Int32.toNatClampNeg v6) ((inRow (Int32.toNatClampNeg v6)) ||| u10)) (upd frontGoesAt (Int32.toNatClampNeg v6) (goesAt (Int32.toNatClampNeg v5))) longestFrom leastLifted) rfl hi14 rfl dX0_layByRule_112 rfl ?_
  refine r_aload_n (n := 114) h 0 dX0_layByRule_113 rfl rfl rfl ?_
  refine r_get (n := 117) h cf0 0 3 (v := .ref a3) fl_X0_18 rfl (by decide) rfl dX0_layByRule_114 rfl ?_
  refine r_iload (n := 119) h 5 dX0_layByRule_117 rfl rfl ?_
  refine r_iload (n := 121) h 6 dX0_layByRule_119 rfl rfl ?_
  obtain ⟨hi15, hf⟩ := h_chk hf
  refine r_iast (n := 122) h 3 (wX0 c0 a0 a1 a2 a3 a4 a5 a6 a7 a8 many goesAt liftedForThese (upd rowAt (Int32.toNatClampNeg v5) v6) leastRowAt proof (upd inRow (Int32.toNatClampNeg v6) ((inRow (Int32.toNatClampNeg v6)) ||| u10)) (upd frontGoesAt (Int32.toNatClampNeg v6) (goesAt (Int32.toNatClampNeg v5))) longestFrom leastLifted) rfl hi15 rfl dX0_layByRule_121 rfl ?_
  refine r_iinc (n := 125) h 5 (v5 + (1 : Int32)) [(0, .ref a0), (1, .int p1), (2, .int p2), (3, .int p3), (4, .int (v4 + u7)), (5, .int (v5 + (1 : Int32))), (6, .int v6)] dX0_layByRule_122 rfl (congrArg (fun z => v5 + z) oi_1) (by decide) rfl rfl ?_
  refine r_goto h 10 dX0_layByRule_125 (by decide) ?_
  refine r_lv [0, 1, 2, 3, 4, 5] (lv' := [(0, .ref a0), (1, .int p1), (2, .int p2), (3, .int p3), (4, .int (v4 + u7)), (5, .int (v5 + (1 : Int32)))]) rfl ?_
  exact hk10 ((v4 + u7), (v5 + (1 : Int32)), (upd rowAt (Int32.toNatClampNeg v5) v6), (upd inRow (Int32.toNatClampNeg v6) ((inRow (Int32.toNatClampNeg v6)) ||| u10)), (upd frontGoesAt (Int32.toNatClampNeg v6) (goesAt (Int32.toNatClampNeg v5)))) hf
def bX0_layByRule_37 (N : Nat) (goesAt liftedForThese : Nat → Int32) (p1 : Int32) (p2 : Int32) (p3 : Int32) (k10 : (Int32 × Int32 × (Nat → Int32) × (Nat → Int32) × (Nat → Int32)) → Option (Int32 × (Nat → Int32) × (Nat → Int32) × (Nat → Int32))) (v4 : Int32) (v5 : Int32) (v6 : Int32) (rowAt : Nat → Int32) (inRow : Nat → Int32) (frontGoesAt : Nat → Int32) : Option (Int32 × (Nat → Int32) × (Nat → Int32) × (Nat → Int32)) :=
  (if p1 = (2 : Int32) then (fX0_rowWithFewest N inRow p2).bind (fun u19 => bX0_layByRule_71 N goesAt liftedForThese p1 p2 p3 k10 v4 v5 u19 rowAt inRow frontGoesAt) else (if p1 = (3 : Int32) then if chk v5 10 = true then (fX0_rowGoingSoonest N frontGoesAt p2 (goesAt (Int32.toNatClampNeg v5))).bind (fun u17 => bX0_layByRule_71 N goesAt liftedForThese p1 p2 p3 k10 v4 v5 u17 rowAt inRow frontGoesAt) else none else bX0_layByRule_71 N goesAt liftedForThese p1 p2 p3 k10 v4 v5 v6 rowAt inRow frontGoesAt))
theorem tX0_layByRule_37 {k10 : (Int32 × Int32 × (Nat → Int32) × (Nat → Int32) × (Nat → Int32)) → Option (Int32 × (Nat → Int32) × (Nat → Int32) × (Nat → Int32))} (h : OKm D c0 K RX0 cX0_layByRule 7 (some .int) (rmF 2 43) (some (.int R.1)) (wX0 c0 a0 a1 a2 a3 a4 a5 a6 a7 a8 many goesAt liftedForThese R.2.1 leastRowAt proof R.2.2.1 R.2.2.2 longestFrom leastLifted))  (hk10 : ∀ s : (Int32 × Int32 × (Nat → Int32) × (Nat → Int32) × (Nat → Int32)), k10 s = some R → WW l D K 7 10 [(0, .ref a0), (1, .int p1), (2, .int p2), (3, .int p3), (4, .int s.1), (5, .int s.2.1)] [] (wX0 c0 a0 a1 a2 a3 a4 a5 a6 a7 a8 many goesAt liftedForThese s.2.2.1 leastRowAt proof s.2.2.2.1 s.2.2.2.2 longestFrom leastLifted)) (v4 : Int32) (v5 : Int32) (v6 : Int32) (rowAt : Nat → Int32) (inRow : Nat → Int32) (frontGoesAt : Nat → Int32) (hf : bX0_layByRule_37 N goesAt liftedForThese p1 p2 p3 k10 v4 v5 v6 rowAt inRow frontGoesAt = some R) : WW l D K 7 37 [(0, .ref a0), (1, .int p1), (2, .int p2), (3, .int p3), (4, .int v4), (5, .int v5), (6, .int v6)] [] (wX0 c0 a0 a1 a2 a3 a4 a5 a6 a7 a8 many goesAt liftedForThese rowAt leastRowAt proof inRow frontGoesAt longestFrom leastLifted) := by
  unfold bX0_layByRule_37 at hf
  refine r_iload_n (n := 38) h 1 dX0_layByRule_37 rfl rfl rfl ?_
  refine r_iconst (n := 39) h (2 : Int32) dX0_layByRule_38 (by decide) rfl ?_
  refine r_icmp_ne (n := 42) h 52 dX0_layByRule_39 (by decide) rfl (fun hc5 => ?_) (fun hc5 => ?_)
  · have hf := h_neg hc5 hf
    refine r_iload_n (n := 53) h 1 dX0_layByRule_52 rfl rfl rfl ?_
    refine r_iconst (n := 54) h (3 : Int32) dX0_layByRule_53 (by decide) rfl ?_
    refine r_icmp_ne (n := 57) h 71 dX0_layByRule_54 (by decide) rfl (fun hc6 => ?_) (fun hc6 => ?_)
    · have hf := h_neg hc6 hf
      exact tX0_layByRule_71 h hk10 v4 v5 v6 rowAt inRow frontGoesAt hf
    · have hf := h_pos hc6 hf
      refine r_aload_n (n := 58) h 0 dX0_layByRule_57 rfl rfl rfl ?_
      refine r_iload_n (n := 59) h 2 dX0_layByRule_58 rfl rfl rfl ?_
      refine r_aload_n (n := 60) h 0 dX0_layByRule_59 rfl rfl rfl ?_
      refine r_get (n := 63) h cf0 0 1 (v := .ref a1) fl_X0_9 rfl (by decide) rfl dX0_layByRule_60 rfl ?_
      refine r_iload (n := 65) h 5 dX0_layByRule_63 rfl rfl ?_
      obtain ⟨hi16, hf⟩ := h_chk hf
      refine r_iald (n := 66) h 1 rfl hi16 dX0_layByRule_65 rfl ?_
      obtain ⟨u17, hu18, hf⟩ := h_bind hf
      refine r_callT (n := 69) h mi_X0_rowGoingSoonest mv_X0_rowGoingSoonest ml_X0_64 (kX0_rowGoingSoonest l D c0 a0 a1 a2 a3 a4 a5 a6 a7 a8 many goesAt liftedForThese rowAt leastRowAt proof inRow frontGoesAt longestFrom leastLifted p2 (goesAt (Int32.toNatClampNeg v5)) hu18) (wX0 c0 a0 a1 a2 a3 a4 a5 a6 a7 a8 many goesAt liftedForThese rowAt leastRowAt proof inRow frontGoesAt longestFrom leastLifted) (ws := (wX0 c0 a0 a1 a2 a3 a4 a5 a6 a7 a8 many goesAt liftedForThese rowAt leastRowAt proof inRow frontGoesAt longestFrom leastLifted)) (st := []) (st1 := [.int u17]) rfl rfl rfl rfl rfl rfl ⟨rfl, rfl, by decide, by decide⟩ rfl rfl (Nat.le_of_ble_eq_true rfl) dX0_layByRule_66 rfl ?_
      refine r_istore (n := 71) h [(0, .ref a0), (1, .int p1), (2, .int p2), (3, .int p3), (4, .int v4), (5, .int v5), (6, .int u17)] dX0_layByRule_69 (by decide) rfl rfl ?_
      exact tX0_layByRule_71 h hk10 v4 v5 u17 rowAt inRow frontGoesAt hf
  · have hf := h_pos hc5 hf
    refine r_aload_n (n := 43) h 0 dX0_layByRule_42 rfl rfl rfl ?_
    refine r_iload_n (n := 44) h 2 dX0_layByRule_43 rfl rfl rfl ?_
    obtain ⟨u19, hu20, hf⟩ := h_bind hf
    refine r_callT (n := 47) h mi_X0_rowWithFewest mv_X0_rowWithFewest ml_X0_61 (kX0_rowWithFewest l D c0 a0 a1 a2 a3 a4 a5 a6 a7 a8 many goesAt liftedForThese rowAt leastRowAt proof inRow frontGoesAt longestFrom leastLifted p2 hu20) (wX0 c0 a0 a1 a2 a3 a4 a5 a6 a7 a8 many goesAt liftedForThese rowAt leastRowAt proof inRow frontGoesAt longestFrom leastLifted) (ws := (wX0 c0 a0 a1 a2 a3 a4 a5 a6 a7 a8 many goesAt liftedForThese rowAt leastRowAt proof inRow frontGoesAt longestFrom leastLifted)) (st := []) (st1 := [.int u19]) rfl rfl rfl rfl rfl rfl ⟨rfl, rfl, by decide, by decide⟩ rfl rfl (Nat.le_of_ble_eq_true rfl) dX0_layByRule_44 rfl ?_
    refine r_istore (n := 49) h [(0, .ref a0), (1, .int p1), (2, .int p2), (3, .int p3), (4, .int v4), (5, .int v5), (6, .int u19)] dX0_layByRule_47 (by decide) rfl rfl ?_
    refine r_goto h 71 dX0_layByRule_49 (by decide) ?_
    exact tX0_layByRule_71 h hk10 v4 v5 u19 rowAt inRow frontGoesAt hf
def bX0_layByRule_10 (N : Nat) (goesAt liftedForThese : Nat → Int32) (p1 : Int32) (p2 : Int32) (p3 : Int32) (k10 : (Int32 × Int32 × (Nat → Int32) × (Nat → Int32) × (Nat → Int32)) → Option (Int32 × (Nat → Int32) × (Nat → Int32) × (Nat → Int32))) (s : (Int32 × Int32 × (Nat → Int32) × (Nat → Int32) × (Nat → Int32))) : Option (Int32 × (Nat → Int32) × (Nat → Int32) × (Nat → Int32)) :=
  (if p3 ≤ s.2.1 then some (s.1, s.2.2.1, s.2.2.2.1, s.2.2.2.2) else (if p1 = (1 : Int32) then (if p2 ≤ 0 then bX0_layByRule_37 N goesAt liftedForThese p1 p2 p3 k10 s.1 s.2.1 (0 : Int32) s.2.2.1 s.2.2.2.1 s.2.2.2.2 else if ¬ p2 = 0 then bX0_layByRule_71 N goesAt liftedForThese p1 p2 p3 k10 s.1 s.2.1 (s.2.1 - s.2.1 / p2 * p2) s.2.2.1 s.2.2.2.1 s.2.2.2.2 else none) else bX0_layByRule_37 N goesAt liftedForThese p1 p2 p3 k10 s.1 s.2.1 (0 : Int32) s.2.2.1 s.2.2.2.1 s.2.2.2.2))
theorem tX0_layByRule_10  (h : OKm D c0 K RX0 cX0_layByRule 7 (some .int) (rmF 2 43) (some (.int R.1)) (wX0 c0 a0 a1 a2 a3 a4 a5 a6 a7 a8 many goesAt liftedForThese R.2.1 leastRowAt proof R.2.2.1 R.2.2.2 longestFrom leastLifted))  : ∀ (n : Nat) (s : (Int32 × Int32 × (Nat → Int32) × (Nat → Int32) × (Nat → Int32))), lp (bX0_layByRule_10 N goesAt liftedForThese p1 p2 p3) n s = some R → WW l D K 7 10 [(0, .ref a0), (1, .int p1), (2, .int p2), (3, .int p3), (4, .int s.1), (5, .int s.2.1)] [] (wX0 c0 a0 a1 a2 a3 a4 a5 a6 a7 a8 many goesAt liftedForThese s.2.2.1 leastRowAt proof s.2.2.2.1 s.2.2.2.2 longestFrom leastLifted) := by
  refine lp_ind (fun k10 hk10 s hf => ?_)
  unfold bX0_layByRule_10 at hf
  refine r_iload (n := 12) h 5 dX0_layByRule_10 rfl rfl ?_
  refine r_iload_n (n := 13) h 3 dX0_layByRule_12 rfl rfl rfl ?_
  refine r_icmp_ge (n := 16) h 128 dX0_layByRule_13 (by decide) rfl (fun hc3 => ?_) (fun hc3 => ?_)
  · have hf := h_pos hc3 hf
    refine r_iload (n := 130) h 4 dX0_layByRule_128 rfl rfl ?_
    have hf := Option.some.inj hf
    subst hf
    exact r_iret h dX0_layByRule_130
  · have hf := h_neg hc3 hf
    refine r_iconst (n := 17) h (0 : Int32) dX0_layByRule_16 (by decide) rfl ?_
    refine r_istore (n := 19) h [(0, .ref a0), (1, .int p1), (2, .int p2), (3, .int p3), (4, .int s.1), (5, .int s.2.1), (6, .int (0 : Int32))] dX0_layByRule_17 (by decide) rfl rfl ?_
    refine r_iload_n (n := 20) h 1 dX0_layByRule_19 rfl rfl rfl ?_
    refine r_iconst (n := 21) h (1 : Int32) dX0_layByRule_20 (by decide) rfl ?_
    refine r_icmp_ne (n := 24) h 37 dX0_layByRule_21 (by decide) rfl (fun hc4 => ?_) (fun hc4 => ?_)
    · have hf := h_neg hc4 hf
      exact tX0_layByRule_37 h hk10 s.1 s.2.1 (0 : Int32) s.2.2.1 s.2.2.2.1 s.2.2.2.2 hf
    · have hf := h_pos hc4 hf
      refine r_iload_n (n := 25) h 2 dX0_layByRule_24 rfl rfl rfl ?_
      refine r_if_le (n := 28) h 37 dX0_layByRule_25 (by decide) rfl (fun hc21 => ?_) (fun hc21 => ?_)
      · have hf := h_pos hc21 hf
        exact tX0_layByRule_37 h hk10 s.1 s.2.1 (0 : Int32) s.2.2.1 s.2.2.2.1 s.2.2.2.2 hf
      · have hf := h_neg hc21 hf
        refine r_iload (n := 30) h 5 dX0_layByRule_28 rfl rfl ?_
        refine r_iload_n (n := 31) h 2 dX0_layByRule_30 rfl rfl rfl ?_
        obtain ⟨hd22, hf⟩ := h_ok hf
        refine r_irem (n := 32) h dX0_layByRule_31 hd22 rfl ?_
        refine r_istore (n := 34) h [(0, .ref a0), (1, .int p1), (2, .int p2), (3, .int p3), (4, .int s.1), (5, .int s.2.1), (6, .int (s.2.1 - s.2.1 / p2 * p2))] dX0_layByRule_32 (by decide) rfl rfl ?_
        refine r_goto h 71 dX0_layByRule_34 (by decide) ?_
        exact tX0_layByRule_71 h hk10 s.1 s.2.1 (s.2.1 - s.2.1 / p2 * p2) s.2.2.1 s.2.2.2.1 s.2.2.2.2 hf
def fX0_layByRule (N : Nat) (goesAt liftedForThese rowAt inRow frontGoesAt : Nat → Int32) (p1 : Int32) (p2 : Int32) (p3 : Int32) : Option (Int32 × (Nat → Int32) × (Nat → Int32) × (Nat → Int32)) :=
  (fX0_emptyRows N inRow frontGoesAt).bind (fun u1 => lp (bX0_layByRule_10 N goesAt liftedForThese p1 p2 p3) N ((0 : Int32), (0 : Int32), rowAt, u1.1, u1.2))
theorem kX0_layByRule (l : Launch) (D : va_G) (c0 : Nat → ClassId) (a0 a1 a2 a3 a4 a5 a6 a7 a8 : Nat) (many : Int32) (goesAt liftedForThese rowAt leastRowAt proof inRow frontGoesAt longestFrom : Nat → Int32) (leastLifted : Int32) (p1 : Int32) (p2 : Int32) (p3 : Int32) {N : Nat} {R : (Int32 × (Nat → Int32) × (Nat → Int32) × (Nat → Int32))} (hf : fX0_layByRule N goesAt liftedForThese rowAt inRow frontGoesAt p1 p2 p3 = some R) : Ct l D c0 yX0_layByRule cX0_layByRule 7 (some .int) (rmF 2 43) [.ref a0, .int p1, .int p2, .int p3] (wX0 c0 a0 a1 a2 a3 a4 a5 a6 a7 a8 many goesAt liftedForThese rowAt leastRowAt proof inRow frontGoesAt longestFrom leastLifted) (some (.int R.1)) (wX0 c0 a0 a1 a2 a3 a4 a5 a6 a7 a8 many goesAt liftedForThese R.2.1 leastRowAt proof R.2.2.1 R.2.2.2 longestFrom leastLifted) := by
  refine Ct.mk (own := RX0) [(0, .ref a0), (1, .int p1), (2, .int p2), (3, .int p3)] rfl pl_X0 rfl (Nat.le_of_ble_eq_true rfl) (fun K h  => ?_)
  unfold fX0_layByRule at hf
  refine r_aload_n (n := 1) h 0 dX0_layByRule_0 rfl rfl rfl ?_
  obtain ⟨u1, hu2, hf⟩ := h_bind hf
  refine r_callT (n := 4) h mi_X0_emptyRows mv_X0_emptyRows ml_X0_58 (kX0_emptyRows l D c0 a0 a1 a2 a3 a4 a5 a6 a7 a8 many goesAt liftedForThese rowAt leastRowAt proof inRow frontGoesAt longestFrom leastLifted hu2) (wX0 c0 a0 a1 a2 a3 a4 a5 a6 a7 a8 many goesAt liftedForThese rowAt leastRowAt proof u1.1 u1.2 longestFrom leastLifted) (ws := (wX0 c0 a0 a1 a2 a3 a4 a5 a6 a7 a8 many goesAt liftedForThese rowAt leastRowAt proof inRow frontGoesAt longestFrom leastLifted)) (st := []) (st1 := []) rfl rfl rfl rfl rfl rfl ⟨rfl, rfl, by decide, by decide⟩ rfl rfl (Nat.le_of_ble_eq_true rfl) dX0_layByRule_1 rfl ?_
  refine r_iconst (n := 5) h (0 : Int32) dX0_layByRule_4 (by decide) rfl ?_
  refine r_istore (n := 7) h [(0, .ref a0), (1, .int p1), (2, .int p2), (3, .int p3), (4, .int (0 : Int32))] dX0_layByRule_5 (by decide) rfl rfl ?_
  refine r_iconst (n := 8) h (0 : Int32) dX0_layByRule_7 (by decide) rfl ?_
  refine r_istore (n := 10) h [(0, .ref a0), (1, .int p1), (2, .int p2), (3, .int p3), (4, .int (0 : Int32)), (5, .int (0 : Int32))] dX0_layByRule_8 (by decide) rfl rfl ?_
  exact tX0_layByRule_10 h  N ((0 : Int32), (0 : Int32), rowAt, u1.1, u1.2) hf
end
section
variable {l : Launch} {D : va_G} {c0 : Nat → ClassId} {K : KT} {N : Nat} {R : Int32} {a0 a1 a2 a3 a4 a5 a6 a7 a8 : Nat} {many : Int32} {goesAt liftedForThese rowAt leastRowAt proof inRow frontGoesAt longestFrom : Nat → Int32} {leastLifted : Int32}
def bX0_usedRows_4 (N : Nat) (many : Int32) (rowAt : Nat → Int32) (k4 : (Int32 × Int32) → Option Int32) (s : (Int32 × Int32)) : Option Int32 :=
  (if many ≤ s.2 then some s.1 else if chk s.2 10 = true then nm (if s.1 < ((rowAt (Int32.toNatClampNeg s.2)) + (1 : Int32)) then ((rowAt (Int32.toNatClampNeg s.2)) + (1 : Int32)) else s.1) (fun y3 => k4 (y3, (s.2 + (1 : Int32)))) else none)
theorem tX0_usedRows_4  (h : OKm D c0 K RX0 cX0_usedRows 3 (some .int) (rmF 1 21) (some (.int R)) (wX0 c0 a0 a1 a2 a3 a4 a5 a6 a7 a8 many goesAt liftedForThese rowAt leastRowAt proof inRow frontGoesAt longestFrom leastLifted))  : ∀ (n : Nat) (s : (Int32 × Int32)), lp (bX0_usedRows_4 N many rowAt) n s = some R → WW l D K 3 4 [(0, .ref a0), (1, .int s.1), (2, .int s.2)] [] (wX0 c0 a0 a1 a2 a3 a4 a5 a6 a7 a8 many goesAt liftedForThese rowAt leastRowAt proof inRow frontGoesAt longestFrom leastLifted) := by
  refine lp_ind (fun k4 hk4 s hf => ?_)
  unfold bX0_usedRows_4 at hf
  refine r_iload_n (n := 5) h 2 dX0_usedRows_4 rfl rfl rfl ?_
  refine r_aload_n (n := 6) h 0 dX0_usedRows_5 rfl rfl rfl ?_
  refine r_get (n := 9) h cf0 0 0 (v := .int many) fl_X0_42 rfl (by decide) rfl dX0_usedRows_6 rfl ?_
  refine r_icmp_ge (n := 12) h 31 dX0_usedRows_9 (by decide) rfl (fun hc1 => ?_) (fun hc1 => ?_)
  · have hf := h_pos hc1 hf
    refine r_iload_n (n := 32) h 1 dX0_usedRows_31 rfl rfl rfl ?_
    have hf := Option.some.inj hf
    subst hf
    exact r_iret h dX0_usedRows_32
  · have hf := h_neg hc1 hf
    refine r_iload_n (n := 13) h 1 dX0_usedRows_12 rfl rfl rfl ?_
    refine r_aload_n (n := 14) h 0 dX0_usedRows_13 rfl rfl rfl ?_
    refine r_get (n := 17) h cf0 0 3 (v := .ref a3) fl_X0_18 rfl (by decide) rfl dX0_usedRows_14 rfl ?_
    refine r_iload_n (n := 18) h 2 dX0_usedRows_17 rfl rfl rfl ?_
    obtain ⟨hi2, hf⟩ := h_chk hf
    refine r_iald (n := 19) h 3 rfl hi2 dX0_usedRows_18 rfl ?_
    refine r_iconst (n := 20) h (1 : Int32) dX0_usedRows_19 (by decide) rfl ?_
    refine r_iadd (n := 21) h dX0_usedRows_20 rfl ?_
    refine r_mmax (n := 24) h ml_X0_75 (by decide) (Nat.le_of_ble_eq_true rfl) dX0_usedRows_21 rfl ?_
    refine r_nmi hf (fun y3 hf => ?_)
    refine r_istore_n (n := 25) h [(0, .ref a0), (1, .int y3), (2, .int s.2)] dX0_usedRows_24 rfl (by decide) rfl rfl ?_
    refine r_iinc (n := 28) h 2 (s.2 + (1 : Int32)) [(0, .ref a0), (1, .int y3), (2, .int (s.2 + (1 : Int32)))] dX0_usedRows_25 rfl (congrArg (fun z => s.2 + z) oi_1) (by decide) rfl rfl ?_
    refine r_goto h 4 dX0_usedRows_28 (by decide) ?_
    exact hk4 (y3, (s.2 + (1 : Int32))) hf
def fX0_usedRows (N : Nat) (many : Int32) (rowAt : Nat → Int32) : Option Int32 :=
  lp (bX0_usedRows_4 N many rowAt) N ((0 : Int32), (0 : Int32))
theorem kX0_usedRows (l : Launch) (D : va_G) (c0 : Nat → ClassId) (a0 a1 a2 a3 a4 a5 a6 a7 a8 : Nat) (many : Int32) (goesAt liftedForThese rowAt leastRowAt proof inRow frontGoesAt longestFrom : Nat → Int32) (leastLifted : Int32) {N : Nat} {R : Int32} (hf : fX0_usedRows N many rowAt = some R) : Ct l D c0 yX0_usedRows cX0_usedRows 3 (some .int) (rmF 1 21) [.ref a0] (wX0 c0 a0 a1 a2 a3 a4 a5 a6 a7 a8 many goesAt liftedForThese rowAt leastRowAt proof inRow frontGoesAt longestFrom leastLifted) (some (.int R)) (wX0 c0 a0 a1 a2 a3 a4 a5 a6 a7 a8 many goesAt liftedForThese rowAt leastRowAt proof inRow frontGoesAt longestFrom leastLifted) := by
  refine Ct.mk (own := RX0) [(0, .ref a0)] rfl pl_X0 rfl (Nat.le_of_ble_eq_true rfl) (fun K h  => ?_)
  unfold fX0_usedRows at hf
  refine r_iconst (n := 1) h (0 : Int32) dX0_usedRows_0 (by decide) rfl ?_
  refine r_istore_n (n := 2) h [(0, .ref a0), (1, .int (0 : Int32))] dX0_usedRows_1 rfl (by decide) rfl rfl ?_
  refine r_iconst (n := 3) h (0 : Int32) dX0_usedRows_2 (by decide) rfl ?_
  refine r_istore_n (n := 4) h [(0, .ref a0), (1, .int (0 : Int32)), (2, .int (0 : Int32))] dX0_usedRows_3 rfl (by decide) rfl rfl ?_
  exact tX0_usedRows_4 h  N ((0 : Int32), (0 : Int32)) hf
end
section
variable {l : Launch} {D : va_G} {c0 : Nat → ClassId} {K : KT} {N : Nat} {R : (Int32 × (Nat → Int32) × (Nat → Int32) × (Nat → Int32))} {a0 a1 a2 a3 a4 a5 a6 a7 a8 : Nat} {many : Int32} {goesAt liftedForThese rowAt leastRowAt proof inRow frontGoesAt longestFrom : Nat → Int32} {leastLifted : Int32} {p1 : Int32} {p2 : Int32}
def bX0_bestRule_44 (N : Nat) (goesAt liftedForThese : Nat → Int32) (p1 : Int32) (p2 : Int32) (k14 : (Int32 × Int32 × Int32 × (Nat → Int32) × (Nat → Int32) × (Nat → Int32)) → Option (Int32 × (Nat → Int32) × (Nat → Int32) × (Nat → Int32))) (v3 : Int32) (v4 : Int32) (v5 : Int32) (rowAt : Nat → Int32) (inRow : Nat → Int32) (frontGoesAt : Nat → Int32) : Option (Int32 × (Nat → Int32) × (Nat → Int32) × (Nat → Int32)) :=
  k14 (v3, v4, (v5 + (1 : Int32)), rowAt, inRow, frontGoesAt)
theorem tX0_bestRule_44 {k14 : (Int32 × Int32 × Int32 × (Nat → Int32) × (Nat → Int32) × (Nat → Int32)) → Option (Int32 × (Nat → Int32) × (Nat → Int32) × (Nat → Int32))} (h : OKm D c0 K RX0 cX0_bestRule 7 (some .int) (rmF 3 69) (some (.int R.1)) (wX0 c0 a0 a1 a2 a3 a4 a5 a6 a7 a8 many goesAt liftedForThese R.2.1 leastRowAt proof R.2.2.1 R.2.2.2 longestFrom leastLifted))  (hk14 : ∀ s : (Int32 × Int32 × Int32 × (Nat → Int32) × (Nat → Int32) × (Nat → Int32)), k14 s = some R → WW l D K 7 14 [(0, .ref a0), (1, .int p1), (2, .int p2), (3, .int s.1), (4, .int s.2.1), (5, .int s.2.2.1)] [] (wX0 c0 a0 a1 a2 a3 a4 a5 a6 a7 a8 many goesAt liftedForThese s.2.2.2.1 leastRowAt proof s.2.2.2.2.1 s.2.2.2.2.2 longestFrom leastLifted)) (v3 : Int32) (v4 : Int32) (v5 : Int32) (rowAt : Nat → Int32) (inRow : Nat → Int32) (frontGoesAt : Nat → Int32) (hf : bX0_bestRule_44 N goesAt liftedForThese p1 p2 k14 v3 v4 v5 rowAt inRow frontGoesAt = some R) : WW l D K 7 44 [(0, .ref a0), (1, .int p1), (2, .int p2), (3, .int v3), (4, .int v4), (5, .int v5)] [] (wX0 c0 a0 a1 a2 a3 a4 a5 a6 a7 a8 many goesAt liftedForThese rowAt leastRowAt proof inRow frontGoesAt longestFrom leastLifted) := by
  unfold bX0_bestRule_44 at hf
  refine r_iinc (n := 47) h 5 (v5 + (1 : Int32)) [(0, .ref a0), (1, .int p1), (2, .int p2), (3, .int v3), (4, .int v4), (5, .int (v5 + (1 : Int32)))] dX0_bestRule_44 rfl (congrArg (fun z => v5 + z) oi_1) (by decide) rfl rfl ?_
  refine r_goto h 14 dX0_bestRule_47 (by decide) ?_
  exact hk14 (v3, v4, (v5 + (1 : Int32)), rowAt, inRow, frontGoesAt) hf
def bX0_bestRule_14 (N : Nat) (goesAt liftedForThese : Nat → Int32) (p1 : Int32) (p2 : Int32) (k14 : (Int32 × Int32 × Int32 × (Nat → Int32) × (Nat → Int32) × (Nat → Int32)) → Option (Int32 × (Nat → Int32) × (Nat → Int32) × (Nat → Int32))) (s : (Int32 × Int32 × Int32 × (Nat → Int32) × (Nat → Int32) × (Nat → Int32))) : Option (Int32 × (Nat → Int32) × (Nat → Int32) × (Nat → Int32)) :=
  (if (4 : Int32) ≤ s.2.2.1 then some (s.1, s.2.2.2.1, s.2.2.2.2.1, s.2.2.2.2.2) else (fX0_layByRule N goesAt liftedForThese s.2.2.2.1 s.2.2.2.2.1 s.2.2.2.2.2 s.2.2.1 p1 p2).bind (fun u4 => (if s.2.1 ≤ u4.1 then bX0_bestRule_44 N goesAt liftedForThese p1 p2 k14 s.1 s.2.1 s.2.2.1 u4.2.1 u4.2.2.1 u4.2.2.2 else bX0_bestRule_44 N goesAt liftedForThese p1 p2 k14 s.2.2.1 u4.1 s.2.2.1 u4.2.1 u4.2.2.1 u4.2.2.2)))
theorem tX0_bestRule_14  (h : OKm D c0 K RX0 cX0_bestRule 7 (some .int) (rmF 3 69) (some (.int R.1)) (wX0 c0 a0 a1 a2 a3 a4 a5 a6 a7 a8 many goesAt liftedForThese R.2.1 leastRowAt proof R.2.2.1 R.2.2.2 longestFrom leastLifted))  : ∀ (n : Nat) (s : (Int32 × Int32 × Int32 × (Nat → Int32) × (Nat → Int32) × (Nat → Int32))), lp (bX0_bestRule_14 N goesAt liftedForThese p1 p2) n s = some R → WW l D K 7 14 [(0, .ref a0), (1, .int p1), (2, .int p2), (3, .int s.1), (4, .int s.2.1), (5, .int s.2.2.1)] [] (wX0 c0 a0 a1 a2 a3 a4 a5 a6 a7 a8 many goesAt liftedForThese s.2.2.2.1 leastRowAt proof s.2.2.2.2.1 s.2.2.2.2.2 longestFrom leastLifted) := by
  refine lp_ind (fun k14 hk14 s hf => ?_)
  unfold bX0_bestRule_14 at hf
  refine r_iload (n := 16) h 5 dX0_bestRule_14 rfl rfl ?_
  refine r_iconst (n := 17) h (4 : Int32) dX0_bestRule_16 (by decide) rfl ?_
  refine r_icmp_ge (n := 20) h 50 dX0_bestRule_17 (by decide) rfl (fun hc3 => ?_) (fun hc3 => ?_)
  · have hf := h_pos hc3 hf
    refine r_iload_n (n := 51) h 3 dX0_bestRule_50 rfl rfl rfl ?_
    have hf := Option.some.inj hf
    subst hf
    exact r_iret h dX0_bestRule_51
  · have hf := h_neg hc3 hf
    refine r_aload_n (n := 21) h 0 dX0_bestRule_20 rfl rfl rfl ?_
    refine r_iload (n := 23) h 5 dX0_bestRule_21 rfl rfl ?_
    refine r_iload_n (n := 24) h 1 dX0_bestRule_23 rfl rfl rfl ?_
    refine r_iload_n (n := 25) h 2 dX0_bestRule_24 rfl rfl rfl ?_
    obtain ⟨u4, hu5, hf⟩ := h_bind hf
    refine r_callT (n := 28) h mi_X0_layByRule mv_X0_layByRule ml_X0_78 (kX0_layByRule l D c0 a0 a1 a2 a3 a4 a5 a6 a7 a8 many goesAt liftedForThese s.2.2.2.1 leastRowAt proof s.2.2.2.2.1 s.2.2.2.2.2 longestFrom leastLifted s.2.2.1 p1 p2 hu5) (wX0 c0 a0 a1 a2 a3 a4 a5 a6 a7 a8 many goesAt liftedForThese u4.2.1 leastRowAt proof u4.2.2.1 u4.2.2.2 longestFrom leastLifted) (ws := (wX0 c0 a0 a1 a2 a3 a4 a5 a6 a7 a8 many goesAt liftedForThese s.2.2.2.1 leastRowAt proof s.2.2.2.2.1 s.2.2.2.2.2 longestFrom leastLifted)) (st := []) (st1 := [.int u4.1]) rfl rfl rfl rfl rfl rfl ⟨rfl, rfl, by decide, by decide⟩ rfl rfl (Nat.le_of_ble_eq_true rfl) dX0_bestRule_25 rfl ?_
    refine r_istore (n := 30) h [(0, .ref a0), (1, .int p1), (2, .int p2), (3, .int s.1), (4, .int s.2.1), (5, .int s.2.2.1), (6, .int u4.1)] dX0_bestRule_28 (by decide) rfl rfl ?_
    refine r_iload (n := 32) h 6 dX0_bestRule_30 rfl rfl ?_
    refine r_iload (n := 34) h 4 dX0_bestRule_32 rfl rfl ?_
    refine r_icmp_ge (n := 37) h 44 dX0_bestRule_34 (by decide) rfl (fun hc6 => ?_) (fun hc6 => ?_)
    · have hf := h_pos hc6 hf
      refine r_lv [0, 1, 2, 3, 4, 5] (lv' := [(0, .ref a0), (1, .int p1), (2, .int p2), (3, .int s.1), (4, .int s.2.1), (5, .int s.2.2.1)]) rfl ?_
      exact tX0_bestRule_44 h hk14 s.1 s.2.1 s.2.2.1 u4.2.1 u4.2.2.1 u4.2.2.2 hf
    · have hf := h_neg hc6 hf
      refine r_iload (n := 39) h 6 dX0_bestRule_37 rfl rfl ?_
      refine r_istore (n := 41) h [(0, .ref a0), (1, .int p1), (2, .int p2), (3, .int s.1), (4, .int u4.1), (5, .int s.2.2.1), (6, .int u4.1)] dX0_bestRule_39 (by decide) rfl rfl ?_
      refine r_iload (n := 43) h 5 dX0_bestRule_41 rfl rfl ?_
      refine r_istore_n (n := 44) h [(0, .ref a0), (1, .int p1), (2, .int p2), (3, .int s.2.2.1), (4, .int u4.1), (5, .int s.2.2.1), (6, .int u4.1)] dX0_bestRule_43 rfl (by decide) rfl rfl ?_
      refine r_lv [0, 1, 2, 3, 4, 5] (lv' := [(0, .ref a0), (1, .int p1), (2, .int p2), (3, .int s.2.2.1), (4, .int u4.1), (5, .int s.2.2.1)]) rfl ?_
      exact tX0_bestRule_44 h hk14 s.2.2.1 u4.1 s.2.2.1 u4.2.1 u4.2.2.1 u4.2.2.2 hf
def fX0_bestRule (N : Nat) (goesAt liftedForThese rowAt inRow frontGoesAt : Nat → Int32) (p1 : Int32) (p2 : Int32) : Option (Int32 × (Nat → Int32) × (Nat → Int32) × (Nat → Int32)) :=
  (fX0_layByRule N goesAt liftedForThese rowAt inRow frontGoesAt (0 : Int32) p1 p2).bind (fun u1 => lp (bX0_bestRule_14 N goesAt liftedForThese p1 p2) N ((0 : Int32), u1.1, (1 : Int32), u1.2.1, u1.2.2.1, u1.2.2.2))
theorem kX0_bestRule (l : Launch) (D : va_G) (c0 : Nat → ClassId) (a0 a1 a2 a3 a4 a5 a6 a7 a8 : Nat) (many : Int32) (goesAt liftedForThese rowAt leastRowAt proof inRow frontGoesAt longestFrom : Nat → Int32) (leastLifted : Int32) (p1 : Int32) (p2 : Int32) {N : Nat} {R : (Int32 × (Nat → Int32) × (Nat → Int32) × (Nat → Int32))} (hf : fX0_bestRule N goesAt liftedForThese rowAt inRow frontGoesAt p1 p2 = some R) : Ct l D c0 yX0_bestRule cX0_bestRule 7 (some .int) (rmF 3 69) [.ref a0, .int p1, .int p2] (wX0 c0 a0 a1 a2 a3 a4 a5 a6 a7 a8 many goesAt liftedForThese rowAt leastRowAt proof inRow frontGoesAt longestFrom leastLifted) (some (.int R.1)) (wX0 c0 a0 a1 a2 a3 a4 a5 a6 a7 a8 many goesAt liftedForThese R.2.1 leastRowAt proof R.2.2.1 R.2.2.2 longestFrom leastLifted) := by
  refine Ct.mk (own := RX0) [(0, .ref a0), (1, .int p1), (2, .int p2)] rfl pl_X0 rfl (Nat.le_of_ble_eq_true rfl) (fun K h  => ?_)
  unfold fX0_bestRule at hf
  refine r_iconst (n := 1) h (0 : Int32) dX0_bestRule_0 (by decide) rfl ?_
  refine r_istore_n (n := 2) h [(0, .ref a0), (1, .int p1), (2, .int p2), (3, .int (0 : Int32))] dX0_bestRule_1 rfl (by decide) rfl rfl ?_
  refine r_aload_n (n := 3) h 0 dX0_bestRule_2 rfl rfl rfl ?_
  refine r_iconst (n := 4) h (0 : Int32) dX0_bestRule_3 (by decide) rfl ?_
  refine r_iload_n (n := 5) h 1 dX0_bestRule_4 rfl rfl rfl ?_
  refine r_iload_n (n := 6) h 2 dX0_bestRule_5 rfl rfl rfl ?_
  obtain ⟨u1, hu2, hf⟩ := h_bind hf
  refine r_callT (n := 9) h mi_X0_layByRule mv_X0_layByRule ml_X0_78 (kX0_layByRule l D c0 a0 a1 a2 a3 a4 a5 a6 a7 a8 many goesAt liftedForThese rowAt leastRowAt proof inRow frontGoesAt longestFrom leastLifted (0 : Int32) p1 p2 hu2) (wX0 c0 a0 a1 a2 a3 a4 a5 a6 a7 a8 many goesAt liftedForThese u1.2.1 leastRowAt proof u1.2.2.1 u1.2.2.2 longestFrom leastLifted) (ws := (wX0 c0 a0 a1 a2 a3 a4 a5 a6 a7 a8 many goesAt liftedForThese rowAt leastRowAt proof inRow frontGoesAt longestFrom leastLifted)) (st := []) (st1 := [.int u1.1]) rfl rfl rfl rfl rfl rfl ⟨rfl, rfl, by decide, by decide⟩ rfl rfl (Nat.le_of_ble_eq_true rfl) dX0_bestRule_6 rfl ?_
  refine r_istore (n := 11) h [(0, .ref a0), (1, .int p1), (2, .int p2), (3, .int (0 : Int32)), (4, .int u1.1)] dX0_bestRule_9 (by decide) rfl rfl ?_
  refine r_iconst (n := 12) h (1 : Int32) dX0_bestRule_11 (by decide) rfl ?_
  refine r_istore (n := 14) h [(0, .ref a0), (1, .int p1), (2, .int p2), (3, .int (0 : Int32)), (4, .int u1.1), (5, .int (1 : Int32))] dX0_bestRule_12 (by decide) rfl rfl ?_
  exact tX0_bestRule_14 h  N ((0 : Int32), u1.1, (1 : Int32), u1.2.1, u1.2.2.1, u1.2.2.2) hf
end
section
variable {l : Launch} {D : va_G} {c0 : Nat → ClassId} {K : KT} {N : Nat} {R : Int32} {a0 a1 a2 a3 a4 a5 a6 a7 a8 a9 a10 : Nat} {many : Int32} {goesAt liftedForThese rowAt leastRowAt proof inRow frontGoesAt longestFrom : Nat → Int32} {leastLifted : Int32} {q_bytes : Nat → Int32} {q_size q_faultAt q_known q_bits : Int32} {p1 : Int32} {p2 : Int32}
def bX0_leastLetterBehind_86 (N : Nat) (many : Int32) (goesAt longestFrom q_bytes : Nat → Int32) (q_known : Int32) (p1 : Int32) (p2 : Int32) (k8 : (Int32 × Int32) → Option Int32) (v4 : Int32) (v5 : Int32) : Option Int32 :=
  k8 (v4, (v5 + (1 : Int32)))
theorem tX0_leastLetterBehind_86 {k8 : (Int32 × Int32) → Option Int32} (h : OKm D c0 K RX0 cX0_leastLetterBehind 7 (some .int) (rmF 2 43) (some (.int R)) (wX0_T c0 a0 a1 a2 a3 a4 a5 a6 a7 a8 a9 a10 many goesAt liftedForThese rowAt leastRowAt proof inRow frontGoesAt longestFrom leastLifted q_bytes q_size q_faultAt q_known q_bits))  (hk8 : ∀ s : (Int32 × Int32), k8 s = some R → WW l D K 7 8 [(0, .ref a0), (1, .int p1), (2, .int p2), (3, .ref a9), (4, .int s.1), (5, .int s.2)] [] (wX0_T c0 a0 a1 a2 a3 a4 a5 a6 a7 a8 a9 a10 many goesAt liftedForThese rowAt leastRowAt proof inRow frontGoesAt longestFrom leastLifted q_bytes q_size q_faultAt q_known q_bits)) (v4 : Int32) (v5 : Int32) (hf : bX0_leastLetterBehind_86 N many goesAt longestFrom q_bytes q_known p1 p2 k8 v4 v5 = some R) : WW l D K 7 86 [(0, .ref a0), (1, .int p1), (2, .int p2), (3, .ref a9), (4, .int v4), (5, .int v5)] [] (wX0_T c0 a0 a1 a2 a3 a4 a5 a6 a7 a8 a9 a10 many goesAt liftedForThese rowAt leastRowAt proof inRow frontGoesAt longestFrom leastLifted q_bytes q_size q_faultAt q_known q_bits) := by
  unfold bX0_leastLetterBehind_86 at hf
  refine r_iinc (n := 89) h 5 (v5 + (1 : Int32)) [(0, .ref a0), (1, .int p1), (2, .int p2), (3, .ref a9), (4, .int v4), (5, .int (v5 + (1 : Int32)))] dX0_leastLetterBehind_86 rfl (congrArg (fun z => v5 + z) oi_1) (by decide) rfl rfl ?_
  refine r_goto h 8 dX0_leastLetterBehind_89 (by decide) ?_
  exact hk8 (v4, (v5 + (1 : Int32))) hf
def bX0_leastLetterBehind_43 (N : Nat) (many : Int32) (goesAt longestFrom q_bytes : Nat → Int32) (q_known : Int32) (p1 : Int32) (p2 : Int32) (k8 : (Int32 × Int32) → Option Int32) (s0 : Int32) (v4 : Int32) (v5 : Int32) : Option Int32 :=
  (if s0 = 0 then bX0_leastLetterBehind_86 N many goesAt longestFrom q_bytes q_known p1 p2 k8 v4 v5 else if chk v5 10 = true then (if (longestFrom (Int32.toNatClampNeg v5)) = p2 then (if v4 = (-1 : Int32) then bX0_leastLetterBehind_86 N many goesAt longestFrom q_bytes q_known p1 p2 k8 v5 v5 else (fX4_guestAt q_bytes q_known v5).bind (fun u7 => (fX4_guestAt q_bytes q_known v4).bind (fun u9 => (if u9 ≤ u7 then bX0_leastLetterBehind_86 N many goesAt longestFrom q_bytes q_known p1 p2 k8 v4 v5 else bX0_leastLetterBehind_86 N many goesAt longestFrom q_bytes q_known p1 p2 k8 v5 v5)))) else bX0_leastLetterBehind_86 N many goesAt longestFrom q_bytes q_known p1 p2 k8 v4 v5) else none)
theorem tX0_leastLetterBehind_43 {k8 : (Int32 × Int32) → Option Int32} (h : OKm D c0 K RX0 cX0_leastLetterBehind 7 (some .int) (rmF 2 43) (some (.int R)) (wX0_T c0 a0 a1 a2 a3 a4 a5 a6 a7 a8 a9 a10 many goesAt liftedForThese rowAt leastRowAt proof inRow frontGoesAt longestFrom leastLifted q_bytes q_size q_faultAt q_known q_bits))  (hk8 : ∀ s : (Int32 × Int32), k8 s = some R → WW l D K 7 8 [(0, .ref a0), (1, .int p1), (2, .int p2), (3, .ref a9), (4, .int s.1), (5, .int s.2)] [] (wX0_T c0 a0 a1 a2 a3 a4 a5 a6 a7 a8 a9 a10 many goesAt liftedForThese rowAt leastRowAt proof inRow frontGoesAt longestFrom leastLifted q_bytes q_size q_faultAt q_known q_bits)) (s0 : Int32) (v4 : Int32) (v5 : Int32) (hf : bX0_leastLetterBehind_43 N many goesAt longestFrom q_bytes q_known p1 p2 k8 s0 v4 v5 = some R) : WW l D K 7 43 [(0, .ref a0), (1, .int p1), (2, .int p2), (3, .ref a9), (4, .int v4), (5, .int v5)] [.int s0] (wX0_T c0 a0 a1 a2 a3 a4 a5 a6 a7 a8 a9 a10 many goesAt liftedForThese rowAt leastRowAt proof inRow frontGoesAt longestFrom leastLifted q_bytes q_size q_faultAt q_known q_bits) := by
  unfold bX0_leastLetterBehind_43 at hf
  refine r_istore (n := 45) h [(0, .ref a0), (1, .int p1), (2, .int p2), (3, .ref a9), (4, .int v4), (5, .int v5), (6, .int s0)] dX0_leastLetterBehind_43 (by decide) rfl rfl ?_
  refine r_iload (n := 47) h 6 dX0_leastLetterBehind_45 rfl rfl ?_
  refine r_if_eq (n := 50) h 86 dX0_leastLetterBehind_47 (by decide) rfl (fun hc3 => ?_) (fun hc3 => ?_)
  · have hf := h_pos hc3 hf
    refine r_lv [0, 1, 2, 3, 4, 5] (lv' := [(0, .ref a0), (1, .int p1), (2, .int p2), (3, .ref a9), (4, .int v4), (5, .int v5)]) rfl ?_
    exact tX0_leastLetterBehind_86 h hk8 v4 v5 hf
  · have hf := h_neg hc3 hf
    refine r_aload_n (n := 51) h 0 dX0_leastLetterBehind_50 rfl rfl rfl ?_
    refine r_get (n := 54) h cf0 0 8 (v := .ref a8) fl_X0_33 rfl (by decide) rfl dX0_leastLetterBehind_51 rfl ?_
    refine r_iload (n := 56) h 5 dX0_leastLetterBehind_54 rfl rfl ?_
    obtain ⟨hi4, hf⟩ := h_chk hf
    refine r_iald (n := 57) h 8 rfl hi4 dX0_leastLetterBehind_56 rfl ?_
    refine r_iload_n (n := 58) h 2 dX0_leastLetterBehind_57 rfl rfl rfl ?_
    refine r_icmp_ne (n := 61) h 86 dX0_leastLetterBehind_58 (by decide) rfl (fun hc5 => ?_) (fun hc5 => ?_)
    · have hf := h_neg hc5 hf
      refine r_lv [0, 1, 2, 3, 4, 5] (lv' := [(0, .ref a0), (1, .int p1), (2, .int p2), (3, .ref a9), (4, .int v4), (5, .int v5)]) rfl ?_
      exact tX0_leastLetterBehind_86 h hk8 v4 v5 hf
    · have hf := h_pos hc5 hf
      refine r_iload (n := 63) h 4 dX0_leastLetterBehind_61 rfl rfl ?_
      refine r_iconst (n := 64) h (-1 : Int32) dX0_leastLetterBehind_63 (by decide) rfl ?_
      refine r_icmp_eq (n := 67) h 82 dX0_leastLetterBehind_64 (by decide) rfl (fun hc6 => ?_) (fun hc6 => ?_)
      · have hf := h_pos hc6 hf
        refine r_iload (n := 84) h 5 dX0_leastLetterBehind_82 rfl rfl ?_
        refine r_istore (n := 86) h [(0, .ref a0), (1, .int p1), (2, .int p2), (3, .ref a9), (4, .int v5), (5, .int v5), (6, .int s0)] dX0_leastLetterBehind_84 (by decide) rfl rfl ?_
        refine r_lv [0, 1, 2, 3, 4, 5] (lv' := [(0, .ref a0), (1, .int p1), (2, .int p2), (3, .ref a9), (4, .int v5), (5, .int v5)]) rfl ?_
        exact tX0_leastLetterBehind_86 h hk8 v5 v5 hf
      · have hf := h_neg hc6 hf
        refine r_aload_n (n := 68) h 3 dX0_leastLetterBehind_67 rfl rfl rfl ?_
        refine r_iload (n := 70) h 5 dX0_leastLetterBehind_68 rfl rfl ?_
        obtain ⟨u7, hu8, hf⟩ := h_bind hf
        refine r_callV (n := 73) h mi_X4_guestAt mv_X4_guestAt ml_X0_86 (kX4_guestAt l D c0 a9 a10 q_bytes q_size q_faultAt q_known q_bits v5 hu8) [9, 10] (wX0_T c0 a0 a1 a2 a3 a4 a5 a6 a7 a8 a9 a10 many goesAt liftedForThese rowAt leastRowAt proof inRow frontGoesAt longestFrom leastLifted q_bytes q_size q_faultAt q_known q_bits) (ws := (wX0_T c0 a0 a1 a2 a3 a4 a5 a6 a7 a8 a9 a10 many goesAt liftedForThese rowAt leastRowAt proof inRow frontGoesAt longestFrom leastLifted q_bytes q_size q_faultAt q_known q_bits)) (st := []) (st1 := [.int u7]) rfl rfl rfl rfl rfl rfl rfl rfl rfl ⟨rfl, rfl, by decide, by decide⟩ rfl rfl (Nat.le_of_ble_eq_true rfl) dX0_leastLetterBehind_70 rfl ?_
        refine r_aload_n (n := 74) h 3 dX0_leastLetterBehind_73 rfl rfl rfl ?_
        refine r_iload (n := 76) h 4 dX0_leastLetterBehind_74 rfl rfl ?_
        obtain ⟨u9, hu10, hf⟩ := h_bind hf
        refine r_callV (n := 79) h mi_X4_guestAt mv_X4_guestAt ml_X0_86 (kX4_guestAt l D c0 a9 a10 q_bytes q_size q_faultAt q_known q_bits v4 hu10) [9, 10] (wX0_T c0 a0 a1 a2 a3 a4 a5 a6 a7 a8 a9 a10 many goesAt liftedForThese rowAt leastRowAt proof inRow frontGoesAt longestFrom leastLifted q_bytes q_size q_faultAt q_known q_bits) (ws := (wX0_T c0 a0 a1 a2 a3 a4 a5 a6 a7 a8 a9 a10 many goesAt liftedForThese rowAt leastRowAt proof inRow frontGoesAt longestFrom leastLifted q_bytes q_size q_faultAt q_known q_bits)) (st := [.int u7]) (st1 := [.int u9, .int u7]) rfl rfl rfl rfl rfl rfl rfl rfl rfl ⟨rfl, rfl, by decide, by decide⟩ rfl rfl (Nat.le_of_ble_eq_true rfl) dX0_leastLetterBehind_76 rfl ?_
        refine r_icmp_ge (n := 82) h 86 dX0_leastLetterBehind_79 (by decide) rfl (fun hc11 => ?_) (fun hc11 => ?_)
        · have hf := h_pos hc11 hf
          refine r_lv [0, 1, 2, 3, 4, 5] (lv' := [(0, .ref a0), (1, .int p1), (2, .int p2), (3, .ref a9), (4, .int v4), (5, .int v5)]) rfl ?_
          exact tX0_leastLetterBehind_86 h hk8 v4 v5 hf
        · have hf := h_neg hc11 hf
          refine r_iload (n := 84) h 5 dX0_leastLetterBehind_82 rfl rfl ?_
          refine r_istore (n := 86) h [(0, .ref a0), (1, .int p1), (2, .int p2), (3, .ref a9), (4, .int v5), (5, .int v5), (6, .int s0)] dX0_leastLetterBehind_84 (by decide) rfl rfl ?_
          refine r_lv [0, 1, 2, 3, 4, 5] (lv' := [(0, .ref a0), (1, .int p1), (2, .int p2), (3, .ref a9), (4, .int v5), (5, .int v5)]) rfl ?_
          exact tX0_leastLetterBehind_86 h hk8 v5 v5 hf
def bX0_leastLetterBehind_8 (N : Nat) (many : Int32) (goesAt longestFrom q_bytes : Nat → Int32) (q_known : Int32) (p1 : Int32) (p2 : Int32) (k8 : (Int32 × Int32) → Option Int32) (s : (Int32 × Int32)) : Option Int32 :=
  (if many ≤ s.2 then some s.1 else (if p1 = (-1 : Int32) then bX0_leastLetterBehind_43 N many goesAt longestFrom q_bytes q_known p1 p2 k8 (1 : Int32) s.1 s.2 else if chk s.2 10 = true then if chk p1 10 = true then (if (goesAt (Int32.toNatClampNeg s.2)) ≤ (goesAt (Int32.toNatClampNeg p1)) then bX0_leastLetterBehind_43 N many goesAt longestFrom q_bytes q_known p1 p2 k8 (0 : Int32) s.1 s.2 else bX0_leastLetterBehind_43 N many goesAt longestFrom q_bytes q_known p1 p2 k8 (1 : Int32) s.1 s.2) else none else none))
theorem tX0_leastLetterBehind_8  (h : OKm D c0 K RX0 cX0_leastLetterBehind 7 (some .int) (rmF 2 43) (some (.int R)) (wX0_T c0 a0 a1 a2 a3 a4 a5 a6 a7 a8 a9 a10 many goesAt liftedForThese rowAt leastRowAt proof inRow frontGoesAt longestFrom leastLifted q_bytes q_size q_faultAt q_known q_bits))  : ∀ (n : Nat) (s : (Int32 × Int32)), lp (bX0_leastLetterBehind_8 N many goesAt longestFrom q_bytes q_known p1 p2) n s = some R → WW l D K 7 8 [(0, .ref a0), (1, .int p1), (2, .int p2), (3, .ref a9), (4, .int s.1), (5, .int s.2)] [] (wX0_T c0 a0 a1 a2 a3 a4 a5 a6 a7 a8 a9 a10 many goesAt liftedForThese rowAt leastRowAt proof inRow frontGoesAt longestFrom leastLifted q_bytes q_size q_faultAt q_known q_bits) := by
  refine lp_ind (fun k8 hk8 s hf => ?_)
  unfold bX0_leastLetterBehind_8 at hf
  refine r_iload (n := 10) h 5 dX0_leastLetterBehind_8 rfl rfl ?_
  refine r_aload_n (n := 11) h 0 dX0_leastLetterBehind_10 rfl rfl rfl ?_
  refine r_get (n := 14) h cf0 0 0 (v := .int many) fl_X0_42 rfl (by decide) rfl dX0_leastLetterBehind_11 rfl ?_
  refine r_icmp_ge (n := 17) h 92 dX0_leastLetterBehind_14 (by decide) rfl (fun hc1 => ?_) (fun hc1 => ?_)
  · have hf := h_pos hc1 hf
    refine r_iload (n := 94) h 4 dX0_leastLetterBehind_92 rfl rfl ?_
    have hf := Option.some.inj hf
    subst hf
    exact r_iret h dX0_leastLetterBehind_94
  · have hf := h_neg hc1 hf
    refine r_iload_n (n := 18) h 1 dX0_leastLetterBehind_17 rfl rfl rfl ?_
    refine r_iconst (n := 19) h (-1 : Int32) dX0_leastLetterBehind_18 (by decide) rfl ?_
    refine r_icmp_eq (n := 22) h 38 dX0_leastLetterBehind_19 (by decide) rfl (fun hc2 => ?_) (fun hc2 => ?_)
    · have hf := h_pos hc2 hf
      refine r_iconst (n := 39) h (1 : Int32) dX0_leastLetterBehind_38 (by decide) rfl ?_
      refine r_goto h 43 dX0_leastLetterBehind_39 (by decide) ?_
      exact tX0_leastLetterBehind_43 h hk8 (1 : Int32) s.1 s.2 hf
    · have hf := h_neg hc2 hf
      refine r_aload_n (n := 23) h 0 dX0_leastLetterBehind_22 rfl rfl rfl ?_
      refine r_get (n := 26) h cf0 0 1 (v := .ref a1) fl_X0_9 rfl (by decide) rfl dX0_leastLetterBehind_23 rfl ?_
      refine r_iload (n := 28) h 5 dX0_leastLetterBehind_26 rfl rfl ?_
      obtain ⟨hi12, hf⟩ := h_chk hf
      refine r_iald (n := 29) h 1 rfl hi12 dX0_leastLetterBehind_28 rfl ?_
      refine r_aload_n (n := 30) h 0 dX0_leastLetterBehind_29 rfl rfl rfl ?_
      refine r_get (n := 33) h cf0 0 1 (v := .ref a1) fl_X0_9 rfl (by decide) rfl dX0_leastLetterBehind_30 rfl ?_
      refine r_iload_n (n := 34) h 1 dX0_leastLetterBehind_33 rfl rfl rfl ?_
      obtain ⟨hi13, hf⟩ := h_chk hf
      refine r_iald (n := 35) h 1 rfl hi13 dX0_leastLetterBehind_34 rfl ?_
      refine r_icmp_le (n := 38) h 42 dX0_leastLetterBehind_35 (by decide) rfl (fun hc14 => ?_) (fun hc14 => ?_)
      · have hf := h_pos hc14 hf
        refine r_iconst (n := 43) h (0 : Int32) dX0_leastLetterBehind_42 (by decide) rfl ?_
        exact tX0_leastLetterBehind_43 h hk8 (0 : Int32) s.1 s.2 hf
      · have hf := h_neg hc14 hf
        refine r_iconst (n := 39) h (1 : Int32) dX0_leastLetterBehind_38 (by decide) rfl ?_
        refine r_goto h 43 dX0_leastLetterBehind_39 (by decide) ?_
        exact tX0_leastLetterBehind_43 h hk8 (1 : Int32) s.1 s.2 hf
def fX0_leastLetterBehind (N : Nat) (many : Int32) (goesAt longestFrom q_bytes : Nat → Int32) (q_known : Int32) (p1 : Int32) (p2 : Int32) : Option Int32 :=
  lp (bX0_leastLetterBehind_8 N many goesAt longestFrom q_bytes q_known p1 p2) N ((-1 : Int32), (p1 + (1 : Int32)))
theorem kX0_leastLetterBehind (l : Launch) (D : va_G) (c0 : Nat → ClassId) (a0 a1 a2 a3 a4 a5 a6 a7 a8 a9 a10 : Nat) (many : Int32) (goesAt liftedForThese rowAt leastRowAt proof inRow frontGoesAt longestFrom : Nat → Int32) (leastLifted : Int32) (q_bytes : Nat → Int32) (q_size q_faultAt q_known q_bits : Int32) (p1 : Int32) (p2 : Int32) {N : Nat} {R : Int32} (hf : fX0_leastLetterBehind N many goesAt longestFrom q_bytes q_known p1 p2 = some R) : Ct l D c0 yX0_leastLetterBehind cX0_leastLetterBehind 7 (some .int) (rmF 2 43) [.ref a0, .int p1, .int p2, .ref a9] (wX0_T c0 a0 a1 a2 a3 a4 a5 a6 a7 a8 a9 a10 many goesAt liftedForThese rowAt leastRowAt proof inRow frontGoesAt longestFrom leastLifted q_bytes q_size q_faultAt q_known q_bits) (some (.int R)) (wX0_T c0 a0 a1 a2 a3 a4 a5 a6 a7 a8 a9 a10 many goesAt liftedForThese rowAt leastRowAt proof inRow frontGoesAt longestFrom leastLifted q_bytes q_size q_faultAt q_known q_bits) := by
  refine Ct.mk (own := RX0) [(0, .ref a0), (1, .int p1), (2, .int p2), (3, .ref a9)] rfl pl_X0 rfl (Nat.le_of_ble_eq_true rfl) (fun K h  => ?_)
  unfold fX0_leastLetterBehind at hf
  refine r_iconst (n := 1) h (-1 : Int32) dX0_leastLetterBehind_0 (by decide) rfl ?_
  refine r_istore (n := 3) h [(0, .ref a0), (1, .int p1), (2, .int p2), (3, .ref a9), (4, .int (-1 : Int32))] dX0_leastLetterBehind_1 (by decide) rfl rfl ?_
  refine r_iload_n (n := 4) h 1 dX0_leastLetterBehind_3 rfl rfl rfl ?_
  refine r_iconst (n := 5) h (1 : Int32) dX0_leastLetterBehind_4 (by decide) rfl ?_
  refine r_iadd (n := 6) h dX0_leastLetterBehind_5 rfl ?_
  refine r_istore (n := 8) h [(0, .ref a0), (1, .int p1), (2, .int p2), (3, .ref a9), (4, .int (-1 : Int32)), (5, .int (p1 + (1 : Int32)))] dX0_leastLetterBehind_6 (by decide) rfl rfl ?_
  exact tX0_leastLetterBehind_8 h  N ((-1 : Int32), (p1 + (1 : Int32))) hf
end
section
variable {l : Launch} {D : va_G} {c0 : Nat → ClassId} {K : KT} {N : Nat} {R : (Int32 × (Nat → Int32) × (Nat → Int32))} {a0 a1 a2 a3 a4 a5 a6 a7 a8 a9 a10 : Nat} {many : Int32} {goesAt liftedForThese rowAt leastRowAt proof inRow frontGoesAt longestFrom : Nat → Int32} {leastLifted : Int32} {q_bytes : Nat → Int32} {q_size q_faultAt q_known q_bits : Int32}
def bX0_findProof_102 (N : Nat) (many : Int32) (goesAt q_bytes : Nat → Int32) (q_known : Int32) (v2 : Int32) (longestFrom : Nat → Int32) (k102 : (Int32 × Int32 × (Nat → Int32)) → Option (Int32 × (Nat → Int32) × (Nat → Int32))) (s : (Int32 × Int32 × (Nat → Int32))) : Option (Int32 × (Nat → Int32) × (Nat → Int32)) :=
  (if v2 ≤ s.2.1 then some (v2, s.2.2, longestFrom) else (fX0_leastLetterBehind N many goesAt longestFrom q_bytes q_known s.1 (v2 - s.2.1)).bind (fun u3 => (fX4_guestAt q_bytes q_known u3).bind (fun u5 => if chk s.2.1 10 = true then k102 (u3, (s.2.1 + (1 : Int32)), (upd s.2.2 (Int32.toNatClampNeg s.2.1) u5)) else none)))
theorem tX0_findProof_102 {v2 : Int32} {longestFrom : Nat → Int32} (h : OKm D c0 K RX0 cX0_findProof 5 (some .int) (rmF 3 69) (some (.int R.1)) (wX0_T c0 a0 a1 a2 a3 a4 a5 a6 a7 a8 a9 a10 many goesAt liftedForThese rowAt leastRowAt R.2.1 inRow frontGoesAt R.2.2 leastLifted q_bytes q_size q_faultAt q_known q_bits))  : ∀ (n : Nat) (s : (Int32 × Int32 × (Nat → Int32))), lp (bX0_findProof_102 N many goesAt q_bytes q_known v2 longestFrom) n s = some R → WW l D K 5 102 [(0, .ref a0), (1, .ref a9), (2, .int v2), (3, .int s.1), (4, .int s.2.1)] [] (wX0_T c0 a0 a1 a2 a3 a4 a5 a6 a7 a8 a9 a10 many goesAt liftedForThese rowAt leastRowAt s.2.2 inRow frontGoesAt longestFrom leastLifted q_bytes q_size q_faultAt q_known q_bits) := by
  refine lp_ind (fun k102 hk102 s hf => ?_)
  unfold bX0_findProof_102 at hf
  refine r_iload (n := 104) h 4 dX0_findProof_102 rfl rfl ?_
  refine r_iload_n (n := 105) h 2 dX0_findProof_104 rfl rfl rfl ?_
  refine r_icmp_ge (n := 108) h 137 dX0_findProof_105 (by decide) rfl (fun hc2 => ?_) (fun hc2 => ?_)
  · have hf := h_pos hc2 hf
    refine r_iload_n (n := 138) h 2 dX0_findProof_137 rfl rfl rfl ?_
    have hf := Option.some.inj hf
    subst hf
    exact r_iret h dX0_findProof_138
  · have hf := h_neg hc2 hf
    refine r_aload_n (n := 109) h 0 dX0_findProof_108 rfl rfl rfl ?_
    refine r_iload_n (n := 110) h 3 dX0_findProof_109 rfl rfl rfl ?_
    refine r_iload_n (n := 111) h 2 dX0_findProof_110 rfl rfl rfl ?_
    refine r_iload (n := 113) h 4 dX0_findProof_111 rfl rfl ?_
    refine r_isub (n := 114) h dX0_findProof_113 rfl ?_
    refine r_aload_n (n := 115) h 1 dX0_findProof_114 rfl rfl rfl ?_
    obtain ⟨u3, hu4, hf⟩ := h_bind hf
    refine r_callT (n := 118) h mi_X0_leastLetterBehind mv_X0_leastLetterBehind ml_X0_82 (kX0_leastLetterBehind l D c0 a0 a1 a2 a3 a4 a5 a6 a7 a8 a9 a10 many goesAt liftedForThese rowAt leastRowAt s.2.2 inRow frontGoesAt longestFrom leastLifted q_bytes q_size q_faultAt q_known q_bits s.1 (v2 - s.2.1) hu4) (wX0_T c0 a0 a1 a2 a3 a4 a5 a6 a7 a8 a9 a10 many goesAt liftedForThese rowAt leastRowAt s.2.2 inRow frontGoesAt longestFrom leastLifted q_bytes q_size q_faultAt q_known q_bits) (ws := (wX0_T c0 a0 a1 a2 a3 a4 a5 a6 a7 a8 a9 a10 many goesAt liftedForThese rowAt leastRowAt s.2.2 inRow frontGoesAt longestFrom leastLifted q_bytes q_size q_faultAt q_known q_bits)) (st := []) (st1 := [.int u3]) rfl rfl rfl rfl rfl rfl ⟨rfl, rfl, by decide, by decide⟩ rfl rfl (Nat.le_of_ble_eq_true rfl) dX0_findProof_115 rfl ?_
    refine r_istore_n (n := 119) h [(0, .ref a0), (1, .ref a9), (2, .int v2), (3, .int u3), (4, .int s.2.1)] dX0_findProof_118 rfl (by decide) rfl rfl ?_
    refine r_aload_n (n := 120) h 0 dX0_findProof_119 rfl rfl rfl ?_
    refine r_get (n := 123) h cf0 0 5 (v := .ref a5) fl_X0_24 rfl (by decide) rfl dX0_findProof_120 rfl ?_
    refine r_iload (n := 125) h 4 dX0_findProof_123 rfl rfl ?_
    refine r_aload_n (n := 126) h 1 dX0_findProof_125 rfl rfl rfl ?_
    refine r_iload_n (n := 127) h 3 dX0_findProof_126 rfl rfl rfl ?_
    obtain ⟨u5, hu6, hf⟩ := h_bind hf
    refine r_callV (n := 130) h mi_X4_guestAt mv_X4_guestAt ml_X0_86 (kX4_guestAt l D c0 a9 a10 q_bytes q_size q_faultAt q_known q_bits u3 hu6) [9, 10] (wX0_T c0 a0 a1 a2 a3 a4 a5 a6 a7 a8 a9 a10 many goesAt liftedForThese rowAt leastRowAt s.2.2 inRow frontGoesAt longestFrom leastLifted q_bytes q_size q_faultAt q_known q_bits) (ws := (wX0_T c0 a0 a1 a2 a3 a4 a5 a6 a7 a8 a9 a10 many goesAt liftedForThese rowAt leastRowAt s.2.2 inRow frontGoesAt longestFrom leastLifted q_bytes q_size q_faultAt q_known q_bits)) (st := [.int s.2.1, .ref a5]) (st1 := [.int u5, .int s.2.1, .ref a5]) rfl rfl rfl rfl rfl rfl rfl rfl rfl ⟨rfl, rfl, by decide, by decide⟩ rfl rfl (Nat.le_of_ble_eq_true rfl) dX0_findProof_127 rfl ?_
    obtain ⟨hi7, hf⟩ := h_chk hf
    refine r_iast (n := 131) h 5 (wX0_T c0 a0 a1 a2 a3 a4 a5 a6 a7 a8 a9 a10 many goesAt liftedForThese rowAt leastRowAt (upd s.2.2 (Int32.toNatClampNeg s.2.1) u5) inRow frontGoesAt longestFrom leastLifted q_bytes q_size q_faultAt q_known q_bits) rfl hi7 rfl dX0_findProof_130 rfl ?_
    refine r_iinc (n := 134) h 4 (s.2.1 + (1 : Int32)) [(0, .ref a0), (1, .ref a9), (2, .int v2), (3, .int u3), (4, .int (s.2.1 + (1 : Int32)))] dX0_findProof_131 rfl (congrArg (fun z => s.2.1 + z) oi_1) (by decide) rfl rfl ?_
    refine r_goto h 102 dX0_findProof_134 (by decide) ?_
    exact hk102 (u3, (s.2.1 + (1 : Int32)), (upd s.2.2 (Int32.toNatClampNeg s.2.1) u5)) hf
def bX0_findProof_74 (N : Nat) (many : Int32) (goesAt q_bytes : Nat → Int32) (q_known : Int32) (proof : Nat → Int32) (v2 : Int32) (v3 : Int32) (k9 : (Int32 × Int32 × (Nat → Int32)) → Option (Int32 × (Nat → Int32) × (Nat → Int32))) (k25 : (Int32 × (Nat → Int32)) → Option (Int32 × (Nat → Int32) × (Nat → Int32))) (v4 : Int32) (longestFrom : Nat → Int32) : Option (Int32 × (Nat → Int32) × (Nat → Int32)) :=
  k25 ((v4 + (1 : Int32)), longestFrom)
theorem tX0_findProof_74 {proof : Nat → Int32} {v2 : Int32} {v3 : Int32} {k9 : (Int32 × Int32 × (Nat → Int32)) → Option (Int32 × (Nat → Int32) × (Nat → Int32))} {k25 : (Int32 × (Nat → Int32)) → Option (Int32 × (Nat → Int32) × (Nat → Int32))} (h : OKm D c0 K RX0 cX0_findProof 5 (some .int) (rmF 3 69) (some (.int R.1)) (wX0_T c0 a0 a1 a2 a3 a4 a5 a6 a7 a8 a9 a10 many goesAt liftedForThese rowAt leastRowAt R.2.1 inRow frontGoesAt R.2.2 leastLifted q_bytes q_size q_faultAt q_known q_bits))  (hk9 : ∀ s : (Int32 × Int32 × (Nat → Int32)), k9 s = some R → WW l D K 5 9 [(0, .ref a0), (1, .ref a9), (2, .int s.1), (3, .int s.2.1)] [] (wX0_T c0 a0 a1 a2 a3 a4 a5 a6 a7 a8 a9 a10 many goesAt liftedForThese rowAt leastRowAt proof inRow frontGoesAt s.2.2 leastLifted q_bytes q_size q_faultAt q_known q_bits)) (hk25 : ∀ s : (Int32 × (Nat → Int32)), k25 s = some R → WW l D K 5 25 [(0, .ref a0), (1, .ref a9), (2, .int v2), (3, .int v3), (4, .int s.1)] [] (wX0_T c0 a0 a1 a2 a3 a4 a5 a6 a7 a8 a9 a10 many goesAt liftedForThese rowAt leastRowAt proof inRow frontGoesAt s.2 leastLifted q_bytes q_size q_faultAt q_known q_bits)) (v4 : Int32) (longestFrom : Nat → Int32) (hf : bX0_findProof_74 N many goesAt q_bytes q_known proof v2 v3 k9 k25 v4 longestFrom = some R) : WW l D K 5 74 [(0, .ref a0), (1, .ref a9), (2, .int v2), (3, .int v3), (4, .int v4)] [] (wX0_T c0 a0 a1 a2 a3 a4 a5 a6 a7 a8 a9 a10 many goesAt liftedForThese rowAt leastRowAt proof inRow frontGoesAt longestFrom leastLifted q_bytes q_size q_faultAt q_known q_bits) := by
  unfold bX0_findProof_74 at hf
  refine r_iinc (n := 77) h 4 (v4 + (1 : Int32)) [(0, .ref a0), (1, .ref a9), (2, .int v2), (3, .int v3), (4, .int (v4 + (1 : Int32)))] dX0_findProof_74 rfl (congrArg (fun z => v4 + z) oi_1) (by decide) rfl rfl ?_
  refine r_goto h 25 dX0_findProof_77 (by decide) ?_
  exact hk25 ((v4 + (1 : Int32)), longestFrom) hf
def bX0_findProof_25 (N : Nat) (many : Int32) (goesAt q_bytes : Nat → Int32) (q_known : Int32) (proof : Nat → Int32) (k9 : (Int32 × Int32 × (Nat → Int32)) → Option (Int32 × (Nat → Int32) × (Nat → Int32))) (v2 : Int32) (v3 : Int32) (k25 : (Int32 × (Nat → Int32)) → Option (Int32 × (Nat → Int32) × (Nat → Int32))) (s : (Int32 × (Nat → Int32))) : Option (Int32 × (Nat → Int32) × (Nat → Int32)) :=
  (if many ≤ s.1 then if chk v3 10 = true then nm (if v2 < (s.2 (Int32.toNatClampNeg v3)) then (s.2 (Int32.toNatClampNeg v3)) else v2) (fun y11 => nm (v3 + (-1 : Int32)) (fun y12 => k9 (y11, y12, s.2))) else none else if chk s.1 10 = true then if chk v3 10 = true then (if (goesAt (Int32.toNatClampNeg s.1)) ≤ (goesAt (Int32.toNatClampNeg v3)) then bX0_findProof_74 N many goesAt q_bytes q_known proof v2 v3 k9 k25 s.1 s.2 else if chk v3 10 = true then if chk s.1 10 = true then nm (if (s.2 (Int32.toNatClampNeg v3)) < ((s.2 (Int32.toNatClampNeg s.1)) + (1 : Int32)) then ((s.2 (Int32.toNatClampNeg s.1)) + (1 : Int32)) else (s.2 (Int32.toNatClampNeg v3))) (fun y18 => if chk v3 10 = true then bX0_findProof_74 N many goesAt q_bytes q_known proof v2 v3 k9 k25 s.1 (upd s.2 (Int32.toNatClampNeg v3) y18) else none) else none else none) else none else none)
theorem tX0_findProof_25 {proof : Nat → Int32} {k9 : (Int32 × Int32 × (Nat → Int32)) → Option (Int32 × (Nat → Int32) × (Nat → Int32))} {v2 : Int32} {v3 : Int32} (h : OKm D c0 K RX0 cX0_findProof 5 (some .int) (rmF 3 69) (some (.int R.1)) (wX0_T c0 a0 a1 a2 a3 a4 a5 a6 a7 a8 a9 a10 many goesAt liftedForThese rowAt leastRowAt R.2.1 inRow frontGoesAt R.2.2 leastLifted q_bytes q_size q_faultAt q_known q_bits))  (hk9 : ∀ s : (Int32 × Int32 × (Nat → Int32)), k9 s = some R → WW l D K 5 9 [(0, .ref a0), (1, .ref a9), (2, .int s.1), (3, .int s.2.1)] [] (wX0_T c0 a0 a1 a2 a3 a4 a5 a6 a7 a8 a9 a10 many goesAt liftedForThese rowAt leastRowAt proof inRow frontGoesAt s.2.2 leastLifted q_bytes q_size q_faultAt q_known q_bits)) : ∀ (n : Nat) (s : (Int32 × (Nat → Int32))), lp (bX0_findProof_25 N many goesAt q_bytes q_known proof k9 v2 v3) n s = some R → WW l D K 5 25 [(0, .ref a0), (1, .ref a9), (2, .int v2), (3, .int v3), (4, .int s.1)] [] (wX0_T c0 a0 a1 a2 a3 a4 a5 a6 a7 a8 a9 a10 many goesAt liftedForThese rowAt leastRowAt proof inRow frontGoesAt s.2 leastLifted q_bytes q_size q_faultAt q_known q_bits) := by
  refine lp_ind (fun k25 hk25 s hf => ?_)
  unfold bX0_findProof_25 at hf
  refine r_iload (n := 27) h 4 dX0_findProof_25 rfl rfl ?_
  refine r_aload_n (n := 28) h 0 dX0_findProof_27 rfl rfl rfl ?_
  refine r_get (n := 31) h cf0 0 0 (v := .int many) fl_X0_42 rfl (by decide) rfl dX0_findProof_28 rfl ?_
  refine r_icmp_ge (n := 34) h 80 dX0_findProof_31 (by decide) rfl (fun hc9 => ?_) (fun hc9 => ?_)
  · have hf := h_pos hc9 hf
    refine r_iload_n (n := 81) h 2 dX0_findProof_80 rfl rfl rfl ?_
    refine r_aload_n (n := 82) h 0 dX0_findProof_81 rfl rfl rfl ?_
    refine r_get (n := 85) h cf0 0 8 (v := .ref a8) fl_X0_33 rfl (by decide) rfl dX0_findProof_82 rfl ?_
    refine r_iload_n (n := 86) h 3 dX0_findProof_85 rfl rfl rfl ?_
    obtain ⟨hi10, hf⟩ := h_chk hf
    refine r_iald (n := 87) h 8 rfl hi10 dX0_findProof_86 rfl ?_
    refine r_mmax (n := 90) h ml_X0_75 (by decide) (Nat.le_of_ble_eq_true rfl) dX0_findProof_87 rfl ?_
    refine r_nmi hf (fun y11 hf => ?_)
    refine r_istore_n (n := 91) h [(0, .ref a0), (1, .ref a9), (2, .int y11), (3, .int v3), (4, .int s.1)] dX0_findProof_90 rfl (by decide) rfl rfl ?_
    refine r_iincN (n := 94) h 3 (v3 + (-1 : Int32)) (fun y => [(0, .ref a0), (1, .ref a9), (2, .int y11), (3, .int y), (4, .int s.1)]) hf dX0_findProof_91 rfl (congrArg (fun z => v3 + z) oi_m1) (by decide) (fun _ => rfl) rfl (fun y12 hf => ?_)
    refine r_goto h 9 dX0_findProof_94 (by decide) ?_
    refine r_lv [0, 1, 2, 3] (lv' := [(0, .ref a0), (1, .ref a9), (2, .int y11), (3, .int y12)]) rfl ?_
    exact hk9 (y11, y12, s.2) hf
  · have hf := h_neg hc9 hf
    refine r_aload_n (n := 35) h 0 dX0_findProof_34 rfl rfl rfl ?_
    refine r_get (n := 38) h cf0 0 1 (v := .ref a1) fl_X0_9 rfl (by decide) rfl dX0_findProof_35 rfl ?_
    refine r_iload (n := 40) h 4 dX0_findProof_38 rfl rfl ?_
    obtain ⟨hi13, hf⟩ := h_chk hf
    refine r_iald (n := 41) h 1 rfl hi13 dX0_findProof_40 rfl ?_
    refine r_aload_n (n := 42) h 0 dX0_findProof_41 rfl rfl rfl ?_
    refine r_get (n := 45) h cf0 0 1 (v := .ref a1) fl_X0_9 rfl (by decide) rfl dX0_findProof_42 rfl ?_
    refine r_iload_n (n := 46) h 3 dX0_findProof_45 rfl rfl rfl ?_
    obtain ⟨hi14, hf⟩ := h_chk hf
    refine r_iald (n := 47) h 1 rfl hi14 dX0_findProof_46 rfl ?_
    refine r_icmp_le (n := 50) h 74 dX0_findProof_47 (by decide) rfl (fun hc15 => ?_) (fun hc15 => ?_)
    · have hf := h_pos hc15 hf
      exact tX0_findProof_74 h hk9 hk25 s.1 s.2 hf
    · have hf := h_neg hc15 hf
      refine r_aload_n (n := 51) h 0 dX0_findProof_50 rfl rfl rfl ?_
      refine r_get (n := 54) h cf0 0 8 (v := .ref a8) fl_X0_33 rfl (by decide) rfl dX0_findProof_51 rfl ?_
      refine r_iload_n (n := 55) h 3 dX0_findProof_54 rfl rfl rfl ?_
      refine r_aload_n (n := 56) h 0 dX0_findProof_55 rfl rfl rfl ?_
      refine r_get (n := 59) h cf0 0 8 (v := .ref a8) fl_X0_33 rfl (by decide) rfl dX0_findProof_56 rfl ?_
      refine r_iload_n (n := 60) h 3 dX0_findProof_59 rfl rfl rfl ?_
      obtain ⟨hi16, hf⟩ := h_chk hf
      refine r_iald (n := 61) h 8 rfl hi16 dX0_findProof_60 rfl ?_
      refine r_aload_n (n := 62) h 0 dX0_findProof_61 rfl rfl rfl ?_
      refine r_get (n := 65) h cf0 0 8 (v := .ref a8) fl_X0_33 rfl (by decide) rfl dX0_findProof_62 rfl ?_
      refine r_iload (n := 67) h 4 dX0_findProof_65 rfl rfl ?_
      obtain ⟨hi17, hf⟩ := h_chk hf
      refine r_iald (n := 68) h 8 rfl hi17 dX0_findProof_67 rfl ?_
      refine r_iconst (n := 69) h (1 : Int32) dX0_findProof_68 (by decide) rfl ?_
      refine r_iadd (n := 70) h dX0_findProof_69 rfl ?_
      refine r_mmax (n := 73) h ml_X0_75 (by decide) (Nat.le_of_ble_eq_true rfl) dX0_findProof_70 rfl ?_
      refine r_nmi hf (fun y18 hf => ?_)
      obtain ⟨hi19, hf⟩ := h_chk hf
      refine r_iast (n := 74) h 8 (wX0_T c0 a0 a1 a2 a3 a4 a5 a6 a7 a8 a9 a10 many goesAt liftedForThese rowAt leastRowAt proof inRow frontGoesAt (upd s.2 (Int32.toNatClampNeg v3) y18) leastLifted q_bytes q_size q_faultAt q_known q_bits) rfl hi19 rfl dX0_findProof_73 rfl ?_
      exact tX0_findProof_74 h hk9 hk25 s.1 (upd s.2 (Int32.toNatClampNeg v3) y18) hf
def bX0_findProof_9 (N : Nat) (many : Int32) (goesAt q_bytes : Nat → Int32) (q_known : Int32) (proof : Nat → Int32) (k9 : (Int32 × Int32 × (Nat → Int32)) → Option (Int32 × (Nat → Int32) × (Nat → Int32))) (s : (Int32 × Int32 × (Nat → Int32))) : Option (Int32 × (Nat → Int32) × (Nat → Int32)) :=
  (if s.2.1 < 0 then lp (bX0_findProof_102 N many goesAt q_bytes q_known s.1 s.2.2) N ((-1 : Int32), (0 : Int32), proof) else if chk s.2.1 10 = true then lp (bX0_findProof_25 N many goesAt q_bytes q_known proof k9 s.1 s.2.1) N ((s.2.1 + (1 : Int32)), (upd s.2.2 (Int32.toNatClampNeg s.2.1) (1 : Int32))) else none)
theorem tX0_findProof_9 {proof : Nat → Int32} (h : OKm D c0 K RX0 cX0_findProof 5 (some .int) (rmF 3 69) (some (.int R.1)) (wX0_T c0 a0 a1 a2 a3 a4 a5 a6 a7 a8 a9 a10 many goesAt liftedForThese rowAt leastRowAt R.2.1 inRow frontGoesAt R.2.2 leastLifted q_bytes q_size q_faultAt q_known q_bits))  : ∀ (n : Nat) (s : (Int32 × Int32 × (Nat → Int32))), lp (bX0_findProof_9 N many goesAt q_bytes q_known proof) n s = some R → WW l D K 5 9 [(0, .ref a0), (1, .ref a9), (2, .int s.1), (3, .int s.2.1)] [] (wX0_T c0 a0 a1 a2 a3 a4 a5 a6 a7 a8 a9 a10 many goesAt liftedForThese rowAt leastRowAt proof inRow frontGoesAt s.2.2 leastLifted q_bytes q_size q_faultAt q_known q_bits) := by
  refine lp_ind (fun k9 hk9 s hf => ?_)
  unfold bX0_findProof_9 at hf
  refine r_iload_n (n := 10) h 3 dX0_findProof_9 rfl rfl rfl ?_
  refine r_if_lt (n := 13) h 97 dX0_findProof_10 (by decide) rfl (fun hc1 => ?_) (fun hc1 => ?_)
  · have hf := h_pos hc1 hf
    refine r_iconst (n := 98) h (-1 : Int32) dX0_findProof_97 (by decide) rfl ?_
    refine r_istore_n (n := 99) h [(0, .ref a0), (1, .ref a9), (2, .int s.1), (3, .int (-1 : Int32))] dX0_findProof_98 rfl (by decide) rfl rfl ?_
    refine r_iconst (n := 100) h (0 : Int32) dX0_findProof_99 (by decide) rfl ?_
    refine r_istore (n := 102) h [(0, .ref a0), (1, .ref a9), (2, .int s.1), (3, .int (-1 : Int32)), (4, .int (0 : Int32))] dX0_findProof_100 (by decide) rfl rfl ?_
    exact tX0_findProof_102 h  N ((-1 : Int32), (0 : Int32), proof) hf
  · have hf := h_neg hc1 hf
    refine r_aload_n (n := 14) h 0 dX0_findProof_13 rfl rfl rfl ?_
    refine r_get (n := 17) h cf0 0 8 (v := .ref a8) fl_X0_33 rfl (by decide) rfl dX0_findProof_14 rfl ?_
    refine r_iload_n (n := 18) h 3 dX0_findProof_17 rfl rfl rfl ?_
    refine r_iconst (n := 19) h (1 : Int32) dX0_findProof_18 (by decide) rfl ?_
    obtain ⟨hi8, hf⟩ := h_chk hf
    refine r_iast (n := 20) h 8 (wX0_T c0 a0 a1 a2 a3 a4 a5 a6 a7 a8 a9 a10 many goesAt liftedForThese rowAt leastRowAt proof inRow frontGoesAt (upd s.2.2 (Int32.toNatClampNeg s.2.1) (1 : Int32)) leastLifted q_bytes q_size q_faultAt q_known q_bits) rfl hi8 rfl dX0_findProof_19 rfl ?_
    refine r_iload_n (n := 21) h 3 dX0_findProof_20 rfl rfl rfl ?_
    refine r_iconst (n := 22) h (1 : Int32) dX0_findProof_21 (by decide) rfl ?_
    refine r_iadd (n := 23) h dX0_findProof_22 rfl ?_
    refine r_istore (n := 25) h [(0, .ref a0), (1, .ref a9), (2, .int s.1), (3, .int s.2.1), (4, .int (s.2.1 + (1 : Int32)))] dX0_findProof_23 (by decide) rfl rfl ?_
    exact tX0_findProof_25 h hk9 N ((s.2.1 + (1 : Int32)), (upd s.2.2 (Int32.toNatClampNeg s.2.1) (1 : Int32))) hf
def fX0_findProof (N : Nat) (many : Int32) (goesAt proof longestFrom q_bytes : Nat → Int32) (q_known : Int32) : Option (Int32 × (Nat → Int32) × (Nat → Int32)) :=
  lp (bX0_findProof_9 N many goesAt q_bytes q_known proof) N ((0 : Int32), (many - (1 : Int32)), longestFrom)
theorem kX0_findProof (l : Launch) (D : va_G) (c0 : Nat → ClassId) (a0 a1 a2 a3 a4 a5 a6 a7 a8 a9 a10 : Nat) (many : Int32) (goesAt liftedForThese rowAt leastRowAt proof inRow frontGoesAt longestFrom : Nat → Int32) (leastLifted : Int32) (q_bytes : Nat → Int32) (q_size q_faultAt q_known q_bits : Int32) {N : Nat} {R : (Int32 × (Nat → Int32) × (Nat → Int32))} (hf : fX0_findProof N many goesAt proof longestFrom q_bytes q_known = some R) : Ct l D c0 yX0_findProof cX0_findProof 5 (some .int) (rmF 3 69) [.ref a0, .ref a9] (wX0_T c0 a0 a1 a2 a3 a4 a5 a6 a7 a8 a9 a10 many goesAt liftedForThese rowAt leastRowAt proof inRow frontGoesAt longestFrom leastLifted q_bytes q_size q_faultAt q_known q_bits) (some (.int R.1)) (wX0_T c0 a0 a1 a2 a3 a4 a5 a6 a7 a8 a9 a10 many goesAt liftedForThese rowAt leastRowAt R.2.1 inRow frontGoesAt R.2.2 leastLifted q_bytes q_size q_faultAt q_known q_bits) := by
  refine Ct.mk (own := RX0) [(0, .ref a0), (1, .ref a9)] rfl pl_X0 rfl (Nat.le_of_ble_eq_true rfl) (fun K h  => ?_)
  unfold fX0_findProof at hf
  refine r_iconst (n := 1) h (0 : Int32) dX0_findProof_0 (by decide) rfl ?_
  refine r_istore_n (n := 2) h [(0, .ref a0), (1, .ref a9), (2, .int (0 : Int32))] dX0_findProof_1 rfl (by decide) rfl rfl ?_
  refine r_aload_n (n := 3) h 0 dX0_findProof_2 rfl rfl rfl ?_
  refine r_get (n := 6) h cf0 0 0 (v := .int many) fl_X0_42 rfl (by decide) rfl dX0_findProof_3 rfl ?_
  refine r_iconst (n := 7) h (1 : Int32) dX0_findProof_6 (by decide) rfl ?_
  refine r_isub (n := 8) h dX0_findProof_7 rfl ?_
  refine r_istore_n (n := 9) h [(0, .ref a0), (1, .ref a9), (2, .int (0 : Int32)), (3, .int (many - (1 : Int32)))] dX0_findProof_8 rfl (by decide) rfl rfl ?_
  exact tX0_findProof_9 h  N ((0 : Int32), (many - (1 : Int32)), longestFrom) hf
end
section
variable {l : Launch} {D : va_G} {c0 : Nat → ClassId} {K : KT} {N : Nat} {R : ((Nat → Int32) × Int32)} {a0 a1 a2 a3 a4 a5 a6 a7 a8 : Nat} {many : Int32} {goesAt liftedForThese rowAt leastRowAt proof inRow frontGoesAt longestFrom : Nat → Int32} {leastLifted : Int32} {p1 : Int32}
def bX0_keepLeast_7 (N : Nat) (rowAt : Nat → Int32) (p1 : Int32) (leastLifted : Int32) (k7 : (Int32 × (Nat → Int32)) → Option ((Nat → Int32) × Int32)) (s : (Int32 × (Nat → Int32))) : Option ((Nat → Int32) × Int32) :=
  (if (7 : Int32) ≤ s.1 then some (s.2, leastLifted) else if chk s.1 10 = true then if chk s.1 7 = true then k7 ((s.1 + (1 : Int32)), (upd s.2 (Int32.toNatClampNeg s.1) (rowAt (Int32.toNatClampNeg s.1)))) else none else none)
theorem tX0_keepLeast_7 {leastLifted : Int32} (h : OKm D c0 K RX0 cX0_keepLeast 3 (none) (rmF 0 0) none (wX0 c0 a0 a1 a2 a3 a4 a5 a6 a7 a8 many goesAt liftedForThese rowAt R.1 proof inRow frontGoesAt longestFrom R.2))  : ∀ (n : Nat) (s : (Int32 × (Nat → Int32))), lp (bX0_keepLeast_7 N rowAt p1 leastLifted) n s = some R → WW l D K 3 7 [(0, .ref a0), (2, .int s.1)] [] (wX0 c0 a0 a1 a2 a3 a4 a5 a6 a7 a8 many goesAt liftedForThese rowAt s.2 proof inRow frontGoesAt longestFrom leastLifted) := by
  refine lp_ind (fun k7 hk7 s hf => ?_)
  unfold bX0_keepLeast_7 at hf
  refine r_iload_n (n := 8) h 1 dX0_keepLeast_7 rfl rfl rfl ?_
  refine r_bipush (n := 10) h (7 : Int32) dX0_keepLeast_8 (by decide) rfl ?_
  refine r_icmp_ge (n := 13) h 31 dX0_keepLeast_10 (by decide) rfl (fun hc1 => ?_) (fun hc1 => ?_)
  · have hf := h_pos hc1 hf
    have hf := Option.some.inj hf
    subst hf
    exact r_vret h dX0_keepLeast_31
  · have hf := h_neg hc1 hf
    refine r_aload_n (n := 14) h 0 dX0_keepLeast_13 rfl rfl rfl ?_
    refine r_get (n := 17) h cf0 0 4 (v := .ref a4) fl_X0_21 rfl (by decide) rfl dX0_keepLeast_14 rfl ?_
    refine r_iload_n (n := 18) h 1 dX0_keepLeast_17 rfl rfl rfl ?_
    refine r_aload_n (n := 19) h 0 dX0_keepLeast_18 rfl rfl rfl ?_
    refine r_get (n := 22) h cf0 0 3 (v := .ref a3) fl_X0_18 rfl (by decide) rfl dX0_keepLeast_19 rfl ?_
    refine r_iload_n (n := 23) h 1 dX0_keepLeast_22 rfl rfl rfl ?_
    obtain ⟨hi2, hf⟩ := h_chk hf
    refine r_iald (n := 24) h 3 rfl hi2 dX0_keepLeast_23 rfl ?_
    obtain ⟨hi3, hf⟩ := h_chk hf
    refine r_iast (n := 25) h 4 (wX0 c0 a0 a1 a2 a3 a4 a5 a6 a7 a8 many goesAt liftedForThese rowAt (upd s.2 (Int32.toNatClampNeg s.1) (rowAt (Int32.toNatClampNeg s.1))) proof inRow frontGoesAt longestFrom leastLifted) rfl hi3 rfl dX0_keepLeast_24 rfl ?_
    refine r_iinc (n := 28) h 1 (s.1 + (1 : Int32)) [(0, .ref a0), (2, .int (s.1 + (1 : Int32)))] dX0_keepLeast_25 rfl (congrArg (fun z => s.1 + z) oi_1) (by decide) rfl rfl ?_
    refine r_goto h 7 dX0_keepLeast_28 (by decide) ?_
    exact hk7 ((s.1 + (1 : Int32)), (upd s.2 (Int32.toNatClampNeg s.1) (rowAt (Int32.toNatClampNeg s.1)))) hf
def fX0_keepLeast (N : Nat) (rowAt leastRowAt : Nat → Int32) (leastLifted : Int32) (p1 : Int32) : Option ((Nat → Int32) × Int32) :=
  lp (bX0_keepLeast_7 N rowAt p1 p1) N ((0 : Int32), leastRowAt)
theorem kX0_keepLeast (l : Launch) (D : va_G) (c0 : Nat → ClassId) (a0 a1 a2 a3 a4 a5 a6 a7 a8 : Nat) (many : Int32) (goesAt liftedForThese rowAt leastRowAt proof inRow frontGoesAt longestFrom : Nat → Int32) (leastLifted : Int32) (p1 : Int32) {N : Nat} {R : ((Nat → Int32) × Int32)} (hf : fX0_keepLeast N rowAt leastRowAt leastLifted p1 = some R) : Ct l D c0 yX0_keepLeast cX0_keepLeast 3 (none) (rmF 0 0) [.ref a0, .int p1] (wX0 c0 a0 a1 a2 a3 a4 a5 a6 a7 a8 many goesAt liftedForThese rowAt leastRowAt proof inRow frontGoesAt longestFrom leastLifted) none (wX0 c0 a0 a1 a2 a3 a4 a5 a6 a7 a8 many goesAt liftedForThese rowAt R.1 proof inRow frontGoesAt longestFrom R.2) := by
  refine Ct.mk (own := RX0) [(0, .ref a0), (1, .int p1)] rfl pl_X0 rfl (Nat.le_of_ble_eq_true rfl) (fun K h  => ?_)
  unfold fX0_keepLeast at hf
  refine r_aload_n (n := 1) h 0 dX0_keepLeast_0 rfl rfl rfl ?_
  refine r_iload_n (n := 2) h 1 dX0_keepLeast_1 rfl rfl rfl ?_
  refine r_put (n := 5) h cf0 0 9 (wX0 c0 a0 a1 a2 a3 a4 a5 a6 a7 a8 many goesAt liftedForThese rowAt leastRowAt proof inRow frontGoesAt longestFrom p1) fl_X0_89 rfl (by decide) rfl rfl rfl (Nat.le_of_ble_eq_true rfl) rfl dX0_keepLeast_2 rfl ?_
  refine r_iconst (n := 6) h (0 : Int32) dX0_keepLeast_5 (by decide) rfl ?_
  refine r_istore_n (n := 7) h [(0, .ref a0), (1, .int p1), (2, .int (0 : Int32))] dX0_keepLeast_6 rfl (by decide) rfl rfl ?_
  refine r_lv [0, 2] (lv' := [(0, .ref a0), (2, .int (0 : Int32))]) rfl ?_
  exact tX0_keepLeast_7 h  N ((0 : Int32), leastRowAt) hf
end
section
variable {l : Launch} {D : va_G} {c0 : Nat → ClassId} {K : KT} {N : Nat} {R : ((Nat → Int32) × (Nat → Int32) × (Nat → Int32) × Int32)} {a0 a1 a2 a3 a4 a5 a6 a7 a8 : Nat} {many : Int32} {goesAt liftedForThese rowAt leastRowAt proof inRow frontGoesAt longestFrom : Nat → Int32} {leastLifted : Int32} {p1 : Int32} {p2 : Int32} {p3 : Int32} {p4 : Int32} {rec : ((Nat → Int32) × (Nat → Int32) × (Nat → Int32) × Int32 × Int32 × Int32 × Int32 × Int32) → Option ((Nat → Int32) × (Nat → Int32) × (Nat → Int32) × Int32)} {d : Nat}
def bX0_tryRows_28 (N : Nat) (many : Int32) (liftedForThese : Nat → Int32) (p1 : Int32) (p2 : Int32) (p3 : Int32) (p4 : Int32) (rec : ((Nat → Int32) × (Nat → Int32) × (Nat → Int32) × Int32 × Int32 × Int32 × Int32 × Int32) → Option ((Nat → Int32) × (Nat → Int32) × (Nat → Int32) × Int32)) (k28 : (Int32 × (Nat → Int32) × (Nat → Int32) × (Nat → Int32) × Int32) → Option ((Nat → Int32) × (Nat → Int32) × (Nat → Int32) × Int32)) (s : (Int32 × (Nat → Int32) × (Nat → Int32) × (Nat → Int32) × Int32)) : Option ((Nat → Int32) × (Nat → Int32) × (Nat → Int32) × Int32) :=
  (if p1 ≤ s.1 then some (s.2.1, s.2.2.1, s.2.2.2.1, s.2.2.2.2) else (if p3 < s.1 then some (s.2.1, s.2.2.1, s.2.2.2.1, s.2.2.2.2) else (fX0_liftedWith liftedForThese s.2.2.2.1 p2 s.1).bind (fun u7 => if chk p2 10 = true then if chk s.1 10 = true then (fX6_bit p2).bind (fun u11 => if chk s.1 10 = true then (rec ((upd s.2.1 (Int32.toNatClampNeg p2) s.1), s.2.2.1, (upd s.2.2.2.1 (Int32.toNatClampNeg s.1) ((s.2.2.2.1 (Int32.toNatClampNeg s.1)) ||| u11)), s.2.2.2.2, p1, (p2 + (1 : Int32)), (if p3 < (s.1 + (1 : Int32)) then (s.1 + (1 : Int32)) else p3), (p4 + u7))).bind (fun u14 => if chk s.1 10 = true then (fX6_bit p2).bind (fun u17 => nm ((u14.2.2.1 (Int32.toNatClampNeg s.1)) &&& (u17 ^^^ (-1 : Int32))) (fun y19 => if chk s.1 10 = true then k28 ((s.1 + (1 : Int32)), u14.1, u14.2.1, (upd u14.2.2.1 (Int32.toNatClampNeg s.1) y19), u14.2.2.2) else none)) else none) else none) else none else none)))
theorem tX0_tryRows_28  (h : OKm D c0 K RX0 cX0_tryRows 7 (none) (rmF (2 + (d + 1)) (42 + 26 * (d + 1))) none (wX0 c0 a0 a1 a2 a3 a4 a5 a6 a7 a8 many goesAt liftedForThese R.1 R.2.1 proof R.2.2.1 frontGoesAt longestFrom R.2.2.2)) (hrec : ∀ (q : ((Nat → Int32) × (Nat → Int32) × (Nat → Int32) × Int32 × Int32 × Int32 × Int32 × Int32)) (r : ((Nat → Int32) × (Nat → Int32) × (Nat → Int32) × Int32)), rec q = some r → Ct l D c0 yX0_tryRows cX0_tryRows 7 (none) (rmF (2 + d) (42 + 26 * d)) [.ref a0, .int q.2.2.2.2.1, .int q.2.2.2.2.2.1, .int q.2.2.2.2.2.2.1, .int q.2.2.2.2.2.2.2] (wX0 c0 a0 a1 a2 a3 a4 a5 a6 a7 a8 many goesAt liftedForThese q.1 q.2.1 proof q.2.2.1 frontGoesAt longestFrom q.2.2.2.1) none (wX0 c0 a0 a1 a2 a3 a4 a5 a6 a7 a8 many goesAt liftedForThese r.1 r.2.1 proof r.2.2.1 frontGoesAt longestFrom r.2.2.2)) : ∀ (n : Nat) (s : (Int32 × (Nat → Int32) × (Nat → Int32) × (Nat → Int32) × Int32)), lp (bX0_tryRows_28 N many liftedForThese p1 p2 p3 p4 rec) n s = some R → WW l D K 7 28 [(0, .ref a0), (1, .int p1), (2, .int p2), (3, .int p3), (4, .int p4), (5, .int s.1)] [] (wX0 c0 a0 a1 a2 a3 a4 a5 a6 a7 a8 many goesAt liftedForThese s.2.1 s.2.2.1 proof s.2.2.2.1 frontGoesAt longestFrom s.2.2.2.2) := by
  refine lp_ind (fun k28 hk28 s hf => ?_)
  unfold bX0_tryRows_28 at hf
  refine r_iload (n := 30) h 5 dX0_tryRows_28 rfl rfl ?_
  refine r_iload_n (n := 31) h 1 dX0_tryRows_30 rfl rfl rfl ?_
  refine r_icmp_ge (n := 34) h 114 dX0_tryRows_31 (by decide) rfl (fun hc5 => ?_) (fun hc5 => ?_)
  · have hf := h_pos hc5 hf
    have hf := Option.some.inj hf
    subst hf
    exact r_vret h dX0_tryRows_114
  · have hf := h_neg hc5 hf
    refine r_iload (n := 36) h 5 dX0_tryRows_34 rfl rfl ?_
    refine r_iload_n (n := 37) h 3 dX0_tryRows_36 rfl rfl rfl ?_
    refine r_icmp_gt (n := 40) h 114 dX0_tryRows_37 (by decide) rfl (fun hc6 => ?_) (fun hc6 => ?_)
    · have hf := h_pos hc6 hf
      have hf := Option.some.inj hf
      subst hf
      exact r_vret h dX0_tryRows_114
    · have hf := h_neg hc6 hf
      refine r_aload_n (n := 41) h 0 dX0_tryRows_40 rfl rfl rfl ?_
      refine r_iload_n (n := 42) h 2 dX0_tryRows_41 rfl rfl rfl ?_
      refine r_iload (n := 44) h 5 dX0_tryRows_42 rfl rfl ?_
      obtain ⟨u7, hu8, hf⟩ := h_bind hf
      refine r_callT (n := 47) h mi_X0_liftedWith mv_X0_liftedWith ml_X0_67 (kX0_liftedWith l D c0 a0 a1 a2 a3 a4 a5 a6 a7 a8 many goesAt liftedForThese s.2.1 s.2.2.1 proof s.2.2.2.1 frontGoesAt longestFrom s.2.2.2.2 p2 s.1 hu8) (wX0 c0 a0 a1 a2 a3 a4 a5 a6 a7 a8 many goesAt liftedForThese s.2.1 s.2.2.1 proof s.2.2.2.1 frontGoesAt longestFrom s.2.2.2.2) (ws := (wX0 c0 a0 a1 a2 a3 a4 a5 a6 a7 a8 many goesAt liftedForThese s.2.1 s.2.2.1 proof s.2.2.2.1 frontGoesAt longestFrom s.2.2.2.2)) (st := []) (st1 := [.int u7]) rfl rfl rfl rfl rfl rfl ⟨rfl, rfl, show 1 + 1 ≤ 2 + (d + 1) by omega, show 8 + (3 + 11) + 20 ≤ 42 + 26 * (d + 1) by omega⟩ rfl rfl (Nat.le_of_ble_eq_true rfl) dX0_tryRows_44 rfl ?_
      refine r_istore (n := 49) h [(0, .ref a0), (1, .int p1), (2, .int p2), (3, .int p3), (4, .int p4), (5, .int s.1), (6, .int u7)] dX0_tryRows_47 (by decide) rfl rfl ?_
      refine r_aload_n (n := 50) h 0 dX0_tryRows_49 rfl rfl rfl ?_
      refine r_get (n := 53) h cf0 0 3 (v := .ref a3) fl_X0_18 rfl (by decide) rfl dX0_tryRows_50 rfl ?_
      refine r_iload_n (n := 54) h 2 dX0_tryRows_53 rfl rfl rfl ?_
      refine r_iload (n := 56) h 5 dX0_tryRows_54 rfl rfl ?_
      obtain ⟨hi9, hf⟩ := h_chk hf
      refine r_iast (n := 57) h 3 (wX0 c0 a0 a1 a2 a3 a4 a5 a6 a7 a8 many goesAt liftedForThese (upd s.2.1 (Int32.toNatClampNeg p2) s.1) s.2.2.1 proof s.2.2.2.1 frontGoesAt longestFrom s.2.2.2.2) rfl hi9 rfl dX0_tryRows_56 rfl ?_
      refine r_aload_n (n := 58) h 0 dX0_tryRows_57 rfl rfl rfl ?_
      refine r_get (n := 61) h cf0 0 6 (v := .ref a6) fl_X0_27 rfl (by decide) rfl dX0_tryRows_58 rfl ?_
      refine r_iload (n := 63) h 5 dX0_tryRows_61 rfl rfl ?_
      refine r_dup2 (n := 64) h dX0_tryRows_63 rfl rfl rfl ?_
      obtain ⟨hi10, hf⟩ := h_chk hf
      refine r_iald (n := 65) h 6 rfl hi10 dX0_tryRows_64 rfl ?_
      refine r_iload_n (n := 66) h 2 dX0_tryRows_65 rfl rfl rfl ?_
      obtain ⟨u11, hu12, hf⟩ := h_bind hf
      refine r_callN (n := 69) h mi_X6_bit ms_X6_bit mn_X0_49 (kX6_bit l D c0 p2 hu12) [] (wX0 c0 a0 a1 a2 a3 a4 a5 a6 a7 a8 many goesAt liftedForThese (upd s.2.1 (Int32.toNatClampNeg p2) s.1) s.2.2.1 proof s.2.2.2.1 frontGoesAt longestFrom s.2.2.2.2) (ws := (wX0 c0 a0 a1 a2 a3 a4 a5 a6 a7 a8 many goesAt liftedForThese (upd s.2.1 (Int32.toNatClampNeg p2) s.1) s.2.2.1 proof s.2.2.2.1 frontGoesAt longestFrom s.2.2.2.2)) (st := [.int (s.2.2.2.1 (Int32.toNatClampNeg s.1)), .int s.1, .ref a6]) (st1 := [.int u11, .int (s.2.2.2.1 (Int32.toNatClampNeg s.1)), .int s.1, .ref a6]) rfl rfl rfl rfl rfl rfl ⟨rfl, rfl, show 0 + 1 ≤ 2 + (d + 1) by omega, show 8 + (1 + 11) + 0 ≤ 42 + 26 * (d + 1) by omega⟩ rfl rfl (Nat.le_of_ble_eq_true rfl) dX0_tryRows_66 rfl ?_
      refine r_ior (n := 70) h dX0_tryRows_69 rfl ?_
      obtain ⟨hi13, hf⟩ := h_chk hf
      refine r_iast (n := 71) h 6 (wX0 c0 a0 a1 a2 a3 a4 a5 a6 a7 a8 many goesAt liftedForThese (upd s.2.1 (Int32.toNatClampNeg p2) s.1) s.2.2.1 proof (upd s.2.2.2.1 (Int32.toNatClampNeg s.1) ((s.2.2.2.1 (Int32.toNatClampNeg s.1)) ||| u11)) frontGoesAt longestFrom s.2.2.2.2) rfl hi13 rfl dX0_tryRows_70 rfl ?_
      refine r_aload_n (n := 72) h 0 dX0_tryRows_71 rfl rfl rfl ?_
      refine r_iload_n (n := 73) h 1 dX0_tryRows_72 rfl rfl rfl ?_
      refine r_iload_n (n := 74) h 2 dX0_tryRows_73 rfl rfl rfl ?_
      refine r_iconst (n := 75) h (1 : Int32) dX0_tryRows_74 (by decide) rfl ?_
      refine r_iadd (n := 76) h dX0_tryRows_75 rfl ?_
      refine r_iload_n (n := 77) h 3 dX0_tryRows_76 rfl rfl rfl ?_
      refine r_iload (n := 79) h 5 dX0_tryRows_77 rfl rfl ?_
      refine r_iconst (n := 80) h (1 : Int32) dX0_tryRows_79 (by decide) rfl ?_
      refine r_iadd (n := 81) h dX0_tryRows_80 rfl ?_
      refine r_mmax (n := 84) h ml_X0_75 (show 1 ≤ 2 + (d + 1) by omega) (show 3 + 13 ≤ 42 + 26 * (d + 1) by omega) dX0_tryRows_81 rfl ?_
      refine r_iload (n := 86) h 4 dX0_tryRows_84 rfl rfl ?_
      refine r_iload (n := 88) h 6 dX0_tryRows_86 rfl rfl ?_
      refine r_iadd (n := 89) h dX0_tryRows_88 rfl ?_
      obtain ⟨u14, hu15, hf⟩ := h_bind hf
      refine r_callS (n := 92) h mi_X0_tryRows ms_X0_tryRows ml_X0_92 (hrec ((upd s.2.1 (Int32.toNatClampNeg p2) s.1), s.2.2.1, (upd s.2.2.2.1 (Int32.toNatClampNeg s.1) ((s.2.2.2.1 (Int32.toNatClampNeg s.1)) ||| u11)), s.2.2.2.2, p1, (p2 + (1 : Int32)), (if p3 < (s.1 + (1 : Int32)) then (s.1 + (1 : Int32)) else p3), (p4 + u7)) u14 hu15) [0, 1, 2, 3, 4, 5, 6, 7, 8] (wX0 c0 a0 a1 a2 a3 a4 a5 a6 a7 a8 many goesAt liftedForThese u14.1 u14.2.1 proof u14.2.2.1 frontGoesAt longestFrom u14.2.2.2) (ws := (wX0 c0 a0 a1 a2 a3 a4 a5 a6 a7 a8 many goesAt liftedForThese (upd s.2.1 (Int32.toNatClampNeg p2) s.1) s.2.2.1 proof (upd s.2.2.2.1 (Int32.toNatClampNeg s.1) ((s.2.2.2.1 (Int32.toNatClampNeg s.1)) ||| u11)) frontGoesAt longestFrom s.2.2.2.2)) (st := []) (st1 := []) rfl rfl rfl rfl rfl rfl ⟨rfl, rfl, show (2 + d) + 1 ≤ 2 + (d + 1) by omega, show 8 + (7 + 11) + (42 + 26 * d) ≤ 42 + 26 * (d + 1) by omega⟩ rfl rfl (Nat.le_of_ble_eq_true rfl) dX0_tryRows_89 rfl ?_
      refine r_aload_n (n := 93) h 0 dX0_tryRows_92 rfl rfl rfl ?_
      refine r_get (n := 96) h cf0 0 6 (v := .ref a6) fl_X0_27 rfl (by decide) rfl dX0_tryRows_93 rfl ?_
      refine r_iload (n := 98) h 5 dX0_tryRows_96 rfl rfl ?_
      refine r_dup2 (n := 99) h dX0_tryRows_98 rfl rfl rfl ?_
      obtain ⟨hi16, hf⟩ := h_chk hf
      refine r_iald (n := 100) h 6 rfl hi16 dX0_tryRows_99 rfl ?_
      refine r_iload_n (n := 101) h 2 dX0_tryRows_100 rfl rfl rfl ?_
      obtain ⟨u17, hu18, hf⟩ := h_bind hf
      refine r_callN (n := 104) h mi_X6_bit ms_X6_bit mn_X0_49 (kX6_bit l D c0 p2 hu18) [] (wX0 c0 a0 a1 a2 a3 a4 a5 a6 a7 a8 many goesAt liftedForThese u14.1 u14.2.1 proof u14.2.2.1 frontGoesAt longestFrom u14.2.2.2) (ws := (wX0 c0 a0 a1 a2 a3 a4 a5 a6 a7 a8 many goesAt liftedForThese u14.1 u14.2.1 proof u14.2.2.1 frontGoesAt longestFrom u14.2.2.2)) (st := [.int (u14.2.2.1 (Int32.toNatClampNeg s.1)), .int s.1, .ref a6]) (st1 := [.int u17, .int (u14.2.2.1 (Int32.toNatClampNeg s.1)), .int s.1, .ref a6]) rfl rfl rfl rfl rfl rfl ⟨rfl, rfl, show 0 + 1 ≤ 2 + (d + 1) by omega, show 8 + (1 + 11) + 0 ≤ 42 + 26 * (d + 1) by omega⟩ rfl rfl (Nat.le_of_ble_eq_true rfl) dX0_tryRows_101 rfl ?_
      refine r_iconst (n := 105) h (-1 : Int32) dX0_tryRows_104 (by decide) rfl ?_
      refine r_ixor (n := 106) h dX0_tryRows_105 rfl ?_
      refine r_iand (n := 107) h dX0_tryRows_106 rfl ?_
      refine r_nmi hf (fun y19 hf => ?_)
      obtain ⟨hi20, hf⟩ := h_chk hf
      refine r_iast (n := 108) h 6 (wX0 c0 a0 a1 a2 a3 a4 a5 a6 a7 a8 many goesAt liftedForThese u14.1 u14.2.1 proof (upd u14.2.2.1 (Int32.toNatClampNeg s.1) y19) frontGoesAt longestFrom u14.2.2.2) rfl hi20 rfl dX0_tryRows_107 rfl ?_
      refine r_iinc (n := 111) h 5 (s.1 + (1 : Int32)) [(0, .ref a0), (1, .int p1), (2, .int p2), (3, .int p3), (4, .int p4), (5, .int (s.1 + (1 : Int32))), (6, .int u7)] dX0_tryRows_108 rfl (congrArg (fun z => s.1 + z) oi_1) (by decide) rfl rfl ?_
      refine r_goto h 28 dX0_tryRows_111 (by decide) ?_
      refine r_lv [0, 1, 2, 3, 4, 5] (lv' := [(0, .ref a0), (1, .int p1), (2, .int p2), (3, .int p3), (4, .int p4), (5, .int (s.1 + (1 : Int32)))]) rfl ?_
      exact hk28 ((s.1 + (1 : Int32)), u14.1, u14.2.1, (upd u14.2.2.1 (Int32.toNatClampNeg s.1) y19), u14.2.2.2) hf
def gX0_tryRows (N : Nat) (many : Int32) (liftedForThese : Nat → Int32) (rec : ((Nat → Int32) × (Nat → Int32) × (Nat → Int32) × Int32 × Int32 × Int32 × Int32 × Int32) → Option ((Nat → Int32) × (Nat → Int32) × (Nat → Int32) × Int32)) (rowAt : Nat → Int32) (leastRowAt : Nat → Int32) (inRow : Nat → Int32) (leastLifted : Int32) (p1 : Int32) (p2 : Int32) (p3 : Int32) (p4 : Int32) : Option ((Nat → Int32) × (Nat → Int32) × (Nat → Int32) × Int32) :=
  (if p4 < leastLifted then (fX0_firstOnes many).bind (fun u2 => (if p2 < u2 then lp (bX0_tryRows_28 N many liftedForThese p1 p2 p3 p4 rec) N ((0 : Int32), rowAt, leastRowAt, inRow, leastLifted) else (fX0_keepLeast N rowAt leastRowAt leastLifted p4).bind (fun u21 => some (rowAt, u21.1, inRow, u21.2)))) else some (rowAt, leastRowAt, inRow, leastLifted))
theorem sX0_tryRows (l : Launch) (D : va_G) (c0 : Nat → ClassId) (a0 a1 a2 a3 a4 a5 a6 a7 a8 : Nat) (many : Int32) (goesAt liftedForThese rowAt leastRowAt proof inRow frontGoesAt longestFrom : Nat → Int32) (leastLifted : Int32) (p1 : Int32) (p2 : Int32) (p3 : Int32) (p4 : Int32) {N d : Nat} {rec : ((Nat → Int32) × (Nat → Int32) × (Nat → Int32) × Int32 × Int32 × Int32 × Int32 × Int32) → Option ((Nat → Int32) × (Nat → Int32) × (Nat → Int32) × Int32)} {R : ((Nat → Int32) × (Nat → Int32) × (Nat → Int32) × Int32)} (hrec : ∀ (q : ((Nat → Int32) × (Nat → Int32) × (Nat → Int32) × Int32 × Int32 × Int32 × Int32 × Int32)) (r : ((Nat → Int32) × (Nat → Int32) × (Nat → Int32) × Int32)), rec q = some r → Ct l D c0 yX0_tryRows cX0_tryRows 7 (none) (rmF (2 + d) (42 + 26 * d)) [.ref a0, .int q.2.2.2.2.1, .int q.2.2.2.2.2.1, .int q.2.2.2.2.2.2.1, .int q.2.2.2.2.2.2.2] (wX0 c0 a0 a1 a2 a3 a4 a5 a6 a7 a8 many goesAt liftedForThese q.1 q.2.1 proof q.2.2.1 frontGoesAt longestFrom q.2.2.2.1) none (wX0 c0 a0 a1 a2 a3 a4 a5 a6 a7 a8 many goesAt liftedForThese r.1 r.2.1 proof r.2.2.1 frontGoesAt longestFrom r.2.2.2)) (hf : gX0_tryRows N many liftedForThese rec rowAt leastRowAt inRow leastLifted p1 p2 p3 p4 = some R) : Ct l D c0 yX0_tryRows cX0_tryRows 7 (none) (rmF (2 + (d + 1)) (42 + 26 * (d + 1))) [.ref a0, .int p1, .int p2, .int p3, .int p4] (wX0 c0 a0 a1 a2 a3 a4 a5 a6 a7 a8 many goesAt liftedForThese rowAt leastRowAt proof inRow frontGoesAt longestFrom leastLifted) none (wX0 c0 a0 a1 a2 a3 a4 a5 a6 a7 a8 many goesAt liftedForThese R.1 R.2.1 proof R.2.2.1 frontGoesAt longestFrom R.2.2.2) := by
  refine Ct.mk (own := RX0) [(0, .ref a0), (1, .int p1), (2, .int p2), (3, .int p3), (4, .int p4)] rfl pl_X0 rfl (Nat.le_of_ble_eq_true rfl) (fun K h => ?_)
  unfold gX0_tryRows at hf
  refine r_iload (n := 2) h 4 dX0_tryRows_0 rfl rfl ?_
  refine r_aload_n (n := 3) h 0 dX0_tryRows_2 rfl rfl rfl ?_
  refine r_get (n := 6) h cf0 0 9 (v := .int leastLifted) fl_X0_89 rfl (by decide) rfl dX0_tryRows_3 rfl ?_
  refine r_icmp_lt (n := 9) h 10 dX0_tryRows_6 (by decide) rfl (fun hc1 => ?_) (fun hc1 => ?_)
  · have hf := h_pos hc1 hf
    refine r_iload_n (n := 11) h 2 dX0_tryRows_10 rfl rfl rfl ?_
    refine r_aload_n (n := 12) h 0 dX0_tryRows_11 rfl rfl rfl ?_
    obtain ⟨u2, hu3, hf⟩ := h_bind hf
    refine r_callT (n := 15) h mi_X0_firstOnes mv_X0_firstOnes ml_X0_96 (kX0_firstOnes l D c0 a0 a1 a2 a3 a4 a5 a6 a7 a8 many goesAt liftedForThese rowAt leastRowAt proof inRow frontGoesAt longestFrom leastLifted hu3) (wX0 c0 a0 a1 a2 a3 a4 a5 a6 a7 a8 many goesAt liftedForThese rowAt leastRowAt proof inRow frontGoesAt longestFrom leastLifted) (ws := (wX0 c0 a0 a1 a2 a3 a4 a5 a6 a7 a8 many goesAt liftedForThese rowAt leastRowAt proof inRow frontGoesAt longestFrom leastLifted)) (st := [.int p2]) (st1 := [.int u2, .int p2]) rfl rfl rfl rfl rfl rfl ⟨rfl, rfl, show 1 + 1 ≤ 2 + (d + 1) by omega, show 8 + (1 + 11) + 21 ≤ 42 + 26 * (d + 1) by omega⟩ rfl rfl (Nat.le_of_ble_eq_true rfl) dX0_tryRows_12 rfl ?_
    refine r_icmp_lt (n := 18) h 25 dX0_tryRows_15 (by decide) rfl (fun hc4 => ?_) (fun hc4 => ?_)
    · have hf := h_pos hc4 hf
      refine r_iconst (n := 26) h (0 : Int32) dX0_tryRows_25 (by decide) rfl ?_
      refine r_istore (n := 28) h [(0, .ref a0), (1, .int p1), (2, .int p2), (3, .int p3), (4, .int p4), (5, .int (0 : Int32))] dX0_tryRows_26 (by decide) rfl rfl ?_
      exact tX0_tryRows_28 h hrec N ((0 : Int32), rowAt, leastRowAt, inRow, leastLifted) hf
    · have hf := h_neg hc4 hf
      refine r_aload_n (n := 19) h 0 dX0_tryRows_18 rfl rfl rfl ?_
      refine r_iload (n := 21) h 4 dX0_tryRows_19 rfl rfl ?_
      obtain ⟨u21, hu22, hf⟩ := h_bind hf
      refine r_callT (n := 24) h mi_X0_keepLeast mv_X0_keepLeast ml_X0_100 (kX0_keepLeast l D c0 a0 a1 a2 a3 a4 a5 a6 a7 a8 many goesAt liftedForThese rowAt leastRowAt proof inRow frontGoesAt longestFrom leastLifted p4 hu22) (wX0 c0 a0 a1 a2 a3 a4 a5 a6 a7 a8 many goesAt liftedForThese rowAt u21.1 proof inRow frontGoesAt longestFrom u21.2) (ws := (wX0 c0 a0 a1 a2 a3 a4 a5 a6 a7 a8 many goesAt liftedForThese rowAt leastRowAt proof inRow frontGoesAt longestFrom leastLifted)) (st := []) (st1 := []) rfl rfl rfl rfl rfl rfl ⟨rfl, rfl, show 0 + 1 ≤ 2 + (d + 1) by omega, show 8 + (3 + 11) + 0 ≤ 42 + 26 * (d + 1) by omega⟩ rfl rfl (Nat.le_of_ble_eq_true rfl) dX0_tryRows_21 rfl ?_
      have hf := Option.some.inj hf
      subst hf
      exact r_vret h dX0_tryRows_24
  · have hf := h_neg hc1 hf
    have hf := Option.some.inj hf
    subst hf
    exact r_vret h dX0_tryRows_9
theorem kDX0_tryRows (l : Launch) (D : va_G) (c0 : Nat → ClassId) (a0 a1 a2 a3 a4 a5 a6 a7 a8 : Nat) (many : Int32) (goesAt liftedForThese proof frontGoesAt longestFrom : Nat → Int32) {N : Nat} : ∀ (d : Nat) (q : ((Nat → Int32) × (Nat → Int32) × (Nat → Int32) × Int32 × Int32 × Int32 × Int32 × Int32)) (r : ((Nat → Int32) × (Nat → Int32) × (Nat → Int32) × Int32)), lp (fun rec q => gX0_tryRows N many liftedForThese rec q.1 q.2.1 q.2.2.1 q.2.2.2.1 q.2.2.2.2.1 q.2.2.2.2.2.1 q.2.2.2.2.2.2.1 q.2.2.2.2.2.2.2) d q = some r → Ct l D c0 yX0_tryRows cX0_tryRows 7 (none) (rmF (2 + d) (42 + 26 * d)) [.ref a0, .int q.2.2.2.2.1, .int q.2.2.2.2.2.1, .int q.2.2.2.2.2.2.1, .int q.2.2.2.2.2.2.2] (wX0 c0 a0 a1 a2 a3 a4 a5 a6 a7 a8 many goesAt liftedForThese q.1 q.2.1 proof q.2.2.1 frontGoesAt longestFrom q.2.2.2.1) none (wX0 c0 a0 a1 a2 a3 a4 a5 a6 a7 a8 many goesAt liftedForThese r.1 r.2.1 proof r.2.2.1 frontGoesAt longestFrom r.2.2.2)
  | 0, q, r, hf => by cases hf
  | d + 1, q, r, hf => sX0_tryRows l D c0 a0 a1 a2 a3 a4 a5 a6 a7 a8 many goesAt liftedForThese q.1 q.2.1 proof q.2.2.1 frontGoesAt longestFrom q.2.2.2.1 q.2.2.2.2.1 q.2.2.2.2.2.1 q.2.2.2.2.2.2.1 q.2.2.2.2.2.2.2 (kDX0_tryRows l D c0 a0 a1 a2 a3 a4 a5 a6 a7 a8 many goesAt liftedForThese proof frontGoesAt longestFrom d) hf
def fX0_tryRows (N : Nat) (many : Int32) (liftedForThese rowAt leastRowAt inRow : Nat → Int32) (leastLifted : Int32) (p1 : Int32) (p2 : Int32) (p3 : Int32) (p4 : Int32) : Option ((Nat → Int32) × (Nat → Int32) × (Nat → Int32) × Int32) :=
  lp (fun rec q => gX0_tryRows N many liftedForThese rec q.1 q.2.1 q.2.2.1 q.2.2.2.1 q.2.2.2.2.1 q.2.2.2.2.2.1 q.2.2.2.2.2.2.1 q.2.2.2.2.2.2.2) 9 (rowAt, leastRowAt, inRow, leastLifted, p1, p2, p3, p4)
theorem kX0_tryRows (l : Launch) (D : va_G) (c0 : Nat → ClassId) (a0 a1 a2 a3 a4 a5 a6 a7 a8 : Nat) (many : Int32) (goesAt liftedForThese rowAt leastRowAt proof inRow frontGoesAt longestFrom : Nat → Int32) (leastLifted : Int32) (p1 : Int32) (p2 : Int32) (p3 : Int32) (p4 : Int32) {N : Nat} {R : ((Nat → Int32) × (Nat → Int32) × (Nat → Int32) × Int32)} (hf : fX0_tryRows N many liftedForThese rowAt leastRowAt inRow leastLifted p1 p2 p3 p4 = some R) : Ct l D c0 yX0_tryRows cX0_tryRows 7 (none) (rmF 11 276) [.ref a0, .int p1, .int p2, .int p3, .int p4] (wX0 c0 a0 a1 a2 a3 a4 a5 a6 a7 a8 many goesAt liftedForThese rowAt leastRowAt proof inRow frontGoesAt longestFrom leastLifted) none (wX0 c0 a0 a1 a2 a3 a4 a5 a6 a7 a8 many goesAt liftedForThese R.1 R.2.1 proof R.2.2.1 frontGoesAt longestFrom R.2.2.2) := kDX0_tryRows l D c0 a0 a1 a2 a3 a4 a5 a6 a7 a8 many goesAt liftedForThese proof frontGoesAt longestFrom 9 (rowAt, leastRowAt, inRow, leastLifted, p1, p2, p3, p4) R hf
end
section
variable {l : Launch} {D : va_G} {c0 : Nat → ClassId} {K : KT} {N : Nat} {R : (Int32 × (Nat → Int32) × (Nat → Int32) × (Nat → Int32) × (Nat → Int32) × Int32)} {a0 a1 a2 a3 a4 a5 a6 a7 a8 : Nat} {many : Int32} {goesAt liftedForThese rowAt leastRowAt proof inRow frontGoesAt longestFrom : Nat → Int32} {leastLifted : Int32} {p1 : Int32}
def fX0_findLeast (N : Nat) (many : Int32) (liftedForThese rowAt leastRowAt inRow frontGoesAt : Nat → Int32) (leastLifted : Int32) (p1 : Int32) : Option (Int32 × (Nat → Int32) × (Nat → Int32) × (Nat → Int32) × (Nat → Int32) × Int32) :=
  (fX0_emptyRows N inRow frontGoesAt).bind (fun u1 => (fX0_tryRows N many liftedForThese rowAt leastRowAt u1.1 (100 : Int32) p1 (0 : Int32) (0 : Int32) (0 : Int32)).bind (fun u3 => some (u3.2.2.2, u3.1, u3.2.1, u3.2.2.1, u1.2, u3.2.2.2)))
theorem kX0_findLeast (l : Launch) (D : va_G) (c0 : Nat → ClassId) (a0 a1 a2 a3 a4 a5 a6 a7 a8 : Nat) (many : Int32) (goesAt liftedForThese rowAt leastRowAt proof inRow frontGoesAt longestFrom : Nat → Int32) (leastLifted : Int32) (p1 : Int32) {N : Nat} {R : (Int32 × (Nat → Int32) × (Nat → Int32) × (Nat → Int32) × (Nat → Int32) × Int32)} (hf : fX0_findLeast N many liftedForThese rowAt leastRowAt inRow frontGoesAt leastLifted p1 = some R) : Ct l D c0 yX0_findLeast cX0_findLeast 2 (some .int) (rmF 12 302) [.ref a0, .int p1] (wX0 c0 a0 a1 a2 a3 a4 a5 a6 a7 a8 many goesAt liftedForThese rowAt leastRowAt proof inRow frontGoesAt longestFrom leastLifted) (some (.int R.1)) (wX0 c0 a0 a1 a2 a3 a4 a5 a6 a7 a8 many goesAt liftedForThese R.2.1 R.2.2.1 proof R.2.2.2.1 R.2.2.2.2.1 longestFrom R.2.2.2.2.2) := by
  refine Ct.mk (own := RX0) [(0, .ref a0), (1, .int p1)] rfl pl_X0 rfl (Nat.le_of_ble_eq_true rfl) (fun K h  => ?_)
  unfold fX0_findLeast at hf
  refine r_aload_n (n := 1) h 0 dX0_findLeast_0 rfl rfl rfl ?_
  obtain ⟨u1, hu2, hf⟩ := h_bind hf
  refine r_callT (n := 4) h mi_X0_emptyRows mv_X0_emptyRows ml_X0_58 (kX0_emptyRows l D c0 a0 a1 a2 a3 a4 a5 a6 a7 a8 many goesAt liftedForThese rowAt leastRowAt proof inRow frontGoesAt longestFrom leastLifted hu2) (wX0 c0 a0 a1 a2 a3 a4 a5 a6 a7 a8 many goesAt liftedForThese rowAt leastRowAt proof u1.1 u1.2 longestFrom leastLifted) (ws := (wX0 c0 a0 a1 a2 a3 a4 a5 a6 a7 a8 many goesAt liftedForThese rowAt leastRowAt proof inRow frontGoesAt longestFrom leastLifted)) (st := []) (st1 := []) rfl rfl rfl rfl rfl rfl ⟨rfl, rfl, by decide, by decide⟩ rfl rfl (Nat.le_of_ble_eq_true rfl) dX0_findLeast_1 rfl ?_
  refine r_aload_n (n := 5) h 0 dX0_findLeast_4 rfl rfl rfl ?_
  refine r_bipush (n := 7) h (100 : Int32) dX0_findLeast_5 (by decide) rfl ?_
  refine r_put (n := 10) h cf0 0 9 (wX0 c0 a0 a1 a2 a3 a4 a5 a6 a7 a8 many goesAt liftedForThese rowAt leastRowAt proof u1.1 u1.2 longestFrom (100 : Int32)) fl_X0_89 rfl (by decide) rfl rfl rfl (Nat.le_of_ble_eq_true rfl) rfl dX0_findLeast_7 rfl ?_
  refine r_aload_n (n := 11) h 0 dX0_findLeast_10 rfl rfl rfl ?_
  refine r_iload_n (n := 12) h 1 dX0_findLeast_11 rfl rfl rfl ?_
  refine r_iconst (n := 13) h (0 : Int32) dX0_findLeast_12 (by decide) rfl ?_
  refine r_iconst (n := 14) h (0 : Int32) dX0_findLeast_13 (by decide) rfl ?_
  refine r_iconst (n := 15) h (0 : Int32) dX0_findLeast_14 (by decide) rfl ?_
  obtain ⟨u3, hu4, hf⟩ := h_bind hf
  refine r_callS (n := 18) h mi_X0_tryRows ms_X0_tryRows ml_X0_92 (kX0_tryRows l D c0 a0 a1 a2 a3 a4 a5 a6 a7 a8 many goesAt liftedForThese rowAt leastRowAt proof u1.1 u1.2 longestFrom (100 : Int32) p1 (0 : Int32) (0 : Int32) (0 : Int32) hu4) [0, 1, 2, 3, 4, 5, 6, 7, 8] (wX0 c0 a0 a1 a2 a3 a4 a5 a6 a7 a8 many goesAt liftedForThese u3.1 u3.2.1 proof u3.2.2.1 u1.2 longestFrom u3.2.2.2) (ws := (wX0 c0 a0 a1 a2 a3 a4 a5 a6 a7 a8 many goesAt liftedForThese rowAt leastRowAt proof u1.1 u1.2 longestFrom (100 : Int32))) (st := []) (st1 := []) rfl rfl rfl rfl rfl rfl ⟨rfl, rfl, by decide, by decide⟩ rfl rfl (Nat.le_of_ble_eq_true rfl) dX0_findLeast_15 rfl ?_
  refine r_aload_n (n := 19) h 0 dX0_findLeast_18 rfl rfl rfl ?_
  refine r_get (n := 22) h cf0 0 9 (v := .int u3.2.2.2) fl_X0_89 rfl (by decide) rfl dX0_findLeast_19 rfl ?_
  have hf := Option.some.inj hf
  subst hf
  exact r_iret h dX0_findLeast_22
end

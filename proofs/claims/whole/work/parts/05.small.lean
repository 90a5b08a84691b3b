theorem nar01 {v : Int32} (h : v = 0 ∨ v = 1) : narrow .boolean (.int v) = .int v := by rcases h with h | h <;> rw [h] <;> decide
theorem pl_X0 : plainName RX0 = true := by decide +kernel
theorem pl_X1 : plainName RX1 = true := by decide +kernel
theorem pl_X2 : plainName RX2 = true := by decide +kernel
theorem pl_X3 : plainName RX3 = true := by decide +kernel
theorem pl_X4 : plainName RX4 = true := by decide +kernel
theorem pl_X5 : plainName RX5 = true := by decide +kernel
theorem pl_X6 : plainName RX6 = true := by decide +kernel
theorem pl_X7 : plainName RX7 = true := by decide +kernel
theorem pl_J6 : plainName RJ6 = true := by decide +kernel
def rf3 (a b c : Nat) : Nat → Option Nat := fun k => match k with | 0 => some a | 1 => some b | 2 => some c | _ => none
def rf4 (a b c d : Nat) : Nat → Option Nat := fun k => match k with | 0 => some a | 1 => some b | 2 => some c | 3 => some d | _ => none
def wX1 (c : Nat → ClassId) (a0 a1 : Nat) (outs : Nat → Int32) (entered room latestEntry : Int32) : va_W := [(a0, .inr (1, [.ref a1, .int entered, .int room, .int latestEntry])), (a1, .inl (c 0, 10, .inl outs))]
def wX2_T_A (c : Nat → ClassId) (a0 a1 a2 a3 a4 a5 a6 a7 : Nat) (inRow inFrontOf liftedFor takers : Nat → Int32) (takerCount laid judgedGuest liftedInAll : Int32) (q_bytes : Nat → Int32) (q_size q_faultAt q_known q_bits : Int32) (rowOf : Nat → Int32) : va_W := [(a0, .inr (2, [.ref a1, .ref a2, .ref a3, .ref a4, .int takerCount, .int laid, .int judgedGuest, .int liftedInAll])), (a1, .inl (c 0, 10, .inl inRow)), (a2, .inl (c 0, 10, .inl inFrontOf)), (a3, .inl (c 0, 10, .inl liftedFor)), (a4, .inl (c 0, 10, .inl takers)), (a5, .inr (4, [.ref a6, .int q_size, .int q_faultAt, .int q_known, .int q_bits])), (a6, .inl (c 0, 10, .inl q_bytes)), (a7, .inl (c 0, 10, .inl rowOf))]
def wX4 (c : Nat → ClassId) (a0 a1 : Nat) (bytes : Nat → Int32) (size faultAt known bits : Int32) : va_W := [(a0, .inr (4, [.ref a1, .int size, .int faultAt, .int known, .int bits])), (a1, .inl (c 0, 10, .inl bytes))]
def wX2 (c : Nat → ClassId) (a0 a1 a2 a3 a4 : Nat) (inRow inFrontOf liftedFor takers : Nat → Int32) (takerCount laid judgedGuest liftedInAll : Int32) : va_W := [(a0, .inr (2, [.ref a1, .ref a2, .ref a3, .ref a4, .int takerCount, .int laid, .int judgedGuest, .int liftedInAll])), (a1, .inl (c 0, 10, .inl inRow)), (a2, .inl (c 0, 10, .inl inFrontOf)), (a3, .inl (c 0, 10, .inl liftedFor)), (a4, .inl (c 0, 10, .inl takers))]
def wX2_T (c : Nat → ClassId) (a0 a1 a2 a3 a4 a5 a6 : Nat) (inRow inFrontOf liftedFor takers : Nat → Int32) (takerCount laid judgedGuest liftedInAll : Int32) (q_bytes : Nat → Int32) (q_size q_faultAt q_known q_bits : Int32) : va_W := [(a0, .inr (2, [.ref a1, .ref a2, .ref a3, .ref a4, .int takerCount, .int laid, .int judgedGuest, .int liftedInAll])), (a1, .inl (c 0, 10, .inl inRow)), (a2, .inl (c 0, 10, .inl inFrontOf)), (a3, .inl (c 0, 10, .inl liftedFor)), (a4, .inl (c 0, 10, .inl takers)), (a5, .inr (4, [.ref a6, .int q_size, .int q_faultAt, .int q_known, .int q_bits])), (a6, .inl (c 0, 10, .inl q_bytes))]
def wX3 (c : Nat → ClassId) (a0 a1 : Nat) (items : Nat → Int32) (lost form size : Int32) : va_W := [(a0, .inr (3, [.ref a1, .int lost, .int form, .int size])), (a1, .inl (c 0, 48, .inl items))]
def wX5 (c : Nat → ClassId) (a0 a1 a2 : Nat) (many : Int32) (aheadOf : Nat → Int32) (named : Int32) (ways : Nat → Int32) : va_W := [(a0, .inr (5, [.int many, .ref a1, .int named, .ref a2])), (a1, .inl (c 0, 10, .inl aheadOf)), (a2, .inl (c 0, 1024, .inl ways))]
theorem fl_X1_15 : Cond.fieldLink RX1 15 (TX1 1).1 (TX1 1).2.1 (TX1 1).2.2.1 ∈ tbl := by decide +kernel
theorem fl_X1_19 : Cond.fieldLink RX1 19 (TX1 2).1 (TX1 2).2.1 (TX1 2).2.2.1 ∈ tbl := by decide +kernel
theorem fl_X1_22 : Cond.fieldLink RX1 22 (TX1 3).1 (TX1 3).2.1 (TX1 3).2.2.1 ∈ tbl := by decide +kernel
theorem fl_X1_9 : Cond.fieldLink RX1 9 (TX1 0).1 (TX1 0).2.1 (TX1 0).2.2.1 ∈ tbl := by decide +kernel
theorem ml_X1_25 : Cond.methodLink RX1 25 Lib.Math.max.name ∈ tbl := by decide +kernel
theorem mi_X1_lastOut : MI yX1_lastOut cX1_lastOut 3 (some .int) 0 := ⟨by decide +kernel, by decide +kernel, by decide +kernel, by decide +kernel, by decide +kernel⟩
theorem mv_X1_lastOut : MV yX1_lastOut := ⟨by decide +kernel, by decide +kernel⟩
theorem ml_X1_38 : Cond.methodLink RX1 38 yX1_lastOut ∈ tbl := by decide +kernel
theorem ml_X1_42 : Cond.methodLink RX1 42 Lib.Math.min.name ∈ tbl := by decide +kernel
theorem mi_X1_inside : MI yX1_inside cX1_inside 4 (some .int) 1 := ⟨by decide +kernel, by decide +kernel, by decide +kernel, by decide +kernel, by decide +kernel⟩
theorem mv_X1_inside : MV yX1_inside := ⟨by decide +kernel, by decide +kernel⟩
theorem ml_X1_31 : Cond.methodLink RX1 31 yX1_inside ∈ tbl := by decide +kernel
theorem mi_X1_nextOut : MI yX1_nextOut cX1_nextOut 4 (some .int) 1 := ⟨by decide +kernel, by decide +kernel, by decide +kernel, by decide +kernel, by decide +kernel⟩
theorem mv_X1_nextOut : MV yX1_nextOut := ⟨by decide +kernel, by decide +kernel⟩
theorem ml_X1_35 : Cond.methodLink RX1 35 yX1_nextOut ∈ tbl := by decide +kernel
theorem fl_X4_33 : Cond.fieldLink RX4 33 (TX4 3).1 (TX4 3).2.1 (TX4 3).2.2.1 ∈ tbl := by decide +kernel
theorem mi_X6_within : MI yX6_within cX6_within 3 (some .boolean) 3 := ⟨by decide +kernel, by decide +kernel, by decide +kernel, by decide +kernel, by decide +kernel⟩
theorem ms_X6_within : Cond.static yX6_within ∈ tbl := by decide +kernel
theorem mn_X4_36 : Cond.methodLinkNest RX4 36 yX6_within "ShoesHall" ∈ nests := by decide +kernel
theorem fl_X4_9 : Cond.fieldLink RX4 9 (TX4 0).1 (TX4 0).2.1 (TX4 0).2.2.1 ∈ tbl := by decide +kernel
theorem co_J6_265 : Cond.constant RJ6 265 (1431655765 : Int32) ∈ tbl := by decide +kernel
theorem co_J6_266 : Cond.constant RJ6 266 (858993459 : Int32) ∈ tbl := by decide +kernel
theorem co_J6_267 : Cond.constant RJ6 267 (252645135 : Int32) ∈ tbl := by decide +kernel
theorem fl_X2_9 : Cond.fieldLink RX2 9 (TX2 0).1 (TX2 0).2.1 (TX2 0).2.2.1 ∈ tbl := by decide +kernel
theorem mi_X6_bit : MI yX6_bit cX6_bit 1 (some .int) 1 := ⟨by decide +kernel, by decide +kernel, by decide +kernel, by decide +kernel, by decide +kernel⟩
theorem ms_X6_bit : Cond.static yX6_bit ∈ tbl := by decide +kernel
theorem mn_X2_53 : Cond.methodLinkNest RX2 53 yX6_bit "ShoesHall" ∈ nests := by decide +kernel
theorem fl_X2_24 : Cond.fieldLink RX2 24 (TX2 5).1 (TX2 5).2.1 (TX2 5).2.2.1 ∈ tbl := by decide +kernel
theorem mi_X6_has : MI yX6_has cX6_has 2 (some .boolean) 2 := ⟨by decide +kernel, by decide +kernel, by decide +kernel, by decide +kernel, by decide +kernel⟩
theorem ms_X6_has : Cond.static yX6_has ∈ tbl := by decide +kernel
theorem mn_X2_49 : Cond.methodLinkNest RX2 49 yX6_has "ShoesHall" ∈ nests := by decide +kernel
theorem fl_X2_15 : Cond.fieldLink RX2 15 (TX2 1).1 (TX2 1).2.1 (TX2 1).2.2.1 ∈ tbl := by decide +kernel
theorem fl_X2_28 : Cond.fieldLink RX2 28 (TX2 6).1 (TX2 6).2.1 (TX2 6).2.2.1 ∈ tbl := by decide +kernel
theorem fl_X2_31 : Cond.fieldLink RX2 31 (TX4 3).1 (TX4 3).2.1 (TX4 3).2.2.1 ∈ tbl := by decide +kernel
theorem mi_X4_guestAt : MI yX4_guestAt cX4_guestAt 2 (some .int) 1 := ⟨by decide +kernel, by decide +kernel, by decide +kernel, by decide +kernel, by decide +kernel⟩
theorem mv_X4_guestAt : MV yX4_guestAt := ⟨by decide +kernel, by decide +kernel⟩
theorem ml_X2_36 : Cond.methodLink RX2 36 yX4_guestAt ∈ tbl := by decide +kernel
theorem mi_J6_bitCount_0f7a4 : MI yJ6_bitCount_0f7a4 cJ6_bitCount_0f7a4 1 (some .int) 1 := ⟨by decide +kernel, by decide +kernel, by decide +kernel, by decide +kernel, by decide +kernel⟩
theorem ms_J6_bitCount_0f7a4 : Cond.static yJ6_bitCount_0f7a4 ∈ tbl := by decide +kernel
theorem ml_X2_40 : Cond.methodLink RX2 40 yJ6_bitCount_0f7a4 ∈ tbl := by decide +kernel
theorem mi_X2_layInFront : MI yX2_layInFront cX2_layInFront 4 (none) 2 := ⟨by decide +kernel, by decide +kernel, by decide +kernel, by decide +kernel, by decide +kernel⟩
theorem mv_X2_layInFront : MV yX2_layInFront := ⟨by decide +kernel, by decide +kernel⟩
theorem ml_X2_45 : Cond.methodLink RX2 45 yX2_layInFront ∈ tbl := by decide +kernel
theorem fl_X2_56 : Cond.fieldLink RX2 56 (TX2 4).1 (TX2 4).2.1 (TX2 4).2.2.1 ∈ tbl := by decide +kernel
theorem fl_X2_59 : Cond.fieldLink RX2 59 (TX2 7).1 (TX2 7).2.1 (TX2 7).2.2.1 ∈ tbl := by decide +kernel
theorem fl_X2_18 : Cond.fieldLink RX2 18 (TX2 2).1 (TX2 2).2.1 (TX2 2).2.2.1 ∈ tbl := by decide +kernel
theorem mi_X2_liftedAmong : MI yX2_liftedAmong cX2_liftedAmong 3 (some .int) 2 := ⟨by decide +kernel, by decide +kernel, by decide +kernel, by decide +kernel, by decide +kernel⟩
theorem mv_X2_liftedAmong : MV yX2_liftedAmong := ⟨by decide +kernel, by decide +kernel⟩
theorem ml_X2_62 : Cond.methodLink RX2 62 yX2_liftedAmong ∈ tbl := by decide +kernel
theorem fl_X2_21 : Cond.fieldLink RX2 21 (TX2 3).1 (TX2 3).2.1 (TX2 3).2.2.1 ∈ tbl := by decide +kernel
theorem fl_X3_15 : Cond.fieldLink RX3 15 (TX3 1).1 (TX3 1).2.1 (TX3 1).2.2.1 ∈ tbl := by decide +kernel
theorem fl_X3_19 : Cond.fieldLink RX3 19 (TX3 2).1 (TX3 2).2.1 (TX3 2).2.2.1 ∈ tbl := by decide +kernel
theorem fl_X3_23 : Cond.fieldLink RX3 23 (TX3 3).1 (TX3 3).2.1 (TX3 3).2.2.1 ∈ tbl := by decide +kernel
theorem fl_X3_9 : Cond.fieldLink RX3 9 (TX3 0).1 (TX3 0).2.1 (TX3 0).2.2.1 ∈ tbl := by decide +kernel
theorem fl_X4_15 : Cond.fieldLink RX4 15 (TX4 2).1 (TX4 2).2.1 (TX4 2).2.2.1 ∈ tbl := by decide +kernel
theorem fl_X4_30 : Cond.fieldLink RX4 30 (TX4 4).1 (TX4 4).2.1 (TX4 4).2.2.1 ∈ tbl := by decide +kernel
theorem fl_X4_19 : Cond.fieldLink RX4 19 (TX4 1).1 (TX4 1).2.1 (TX4 1).2.2.1 ∈ tbl := by decide +kernel
theorem mi_X4_keep : MI yX4_keep cX4_keep 3 (none) 2 := ⟨by decide +kernel, by decide +kernel, by decide +kernel, by decide +kernel, by decide +kernel⟩
theorem mv_X4_keep : MV yX4_keep := ⟨by decide +kernel, by decide +kernel⟩
theorem ml_X4_26 : Cond.methodLink RX4 26 yX4_keep ∈ tbl := by decide +kernel
theorem mn_X4_22 : Cond.methodLinkNest RX4 22 yX6_bit "ShoesHall" ∈ nests := by decide +kernel
theorem ml_X4_40 : Cond.methodLink RX4 40 yX4_guestAt ∈ tbl := by decide +kernel
theorem mn_X4_43 : Cond.methodLinkNest RX4 43 yX6_has "ShoesHall" ∈ nests := by decide +kernel
theorem fl_X5_18 : Cond.fieldLink RX5 18 (TX5 0).1 (TX5 0).2.1 (TX5 0).2.2.1 ∈ tbl := by decide +kernel
theorem fl_X5_22 : Cond.fieldLink RX5 22 (TX5 2).1 (TX5 2).2.1 (TX5 2).2.2.1 ∈ tbl := by decide +kernel
theorem mn_X5_25 : Cond.methodLinkNest RX5 25 yX6_bit "ShoesHall" ∈ nests := by decide +kernel
theorem fl_X5_9 : Cond.fieldLink RX5 9 (TX5 1).1 (TX5 1).2.1 (TX5 1).2.2.1 ∈ tbl := by decide +kernel
theorem mn_X5_29 : Cond.methodLinkNest RX5 29 yX6_has "ShoesHall" ∈ nests := by decide +kernel
theorem fl_X5_15 : Cond.fieldLink RX5 15 (TX5 3).1 (TX5 3).2.1 (TX5 3).2.2.1 ∈ tbl := by decide +kernel
theorem mi_X5_holdsFor : MI yX5_holdsFor cX5_holdsFor 4 (some .boolean) 1 := ⟨by decide +kernel, by decide +kernel, by decide +kernel, by decide +kernel, by decide +kernel⟩
theorem mv_X5_holdsFor : MV yX5_holdsFor := ⟨by decide +kernel, by decide +kernel⟩
theorem ml_X5_33 : Cond.methodLink RX5 33 yX5_holdsFor ∈ tbl := by decide +kernel
theorem ml_X5_40 : Cond.methodLink RX5 40 yJ6_bitCount_0f7a4 ∈ tbl := by decide +kernel
theorem mi_X5_waysToGoFirst : MI yX5_waysToGoFirst cX5_waysToGoFirst 5 (some .int) 1 := ⟨by decide +kernel, by decide +kernel, by decide +kernel, by decide +kernel, by decide +kernel⟩
theorem mv_X5_waysToGoFirst : MV yX5_waysToGoFirst := ⟨by decide +kernel, by decide +kernel⟩
theorem ml_X5_37 : Cond.methodLink RX5 37 yX5_waysToGoFirst ∈ tbl := by decide +kernel
section
variable {l : Launch} {D : va_G} {c0 : Nat → ClassId} {K : KT} {N : Nat} {R : (Int32 × Int32 × Int32)} {a0 a1 : Nat} {outs : Nat → Int32} {entered room latestEntry : Int32} {p1 : Int32}
def fX1_empty (entered room latestEntry : Int32) (p1 : Int32) : Option (Int32 × Int32 × Int32) :=
  some ((0 : Int32), p1, (0 : Int32))
theorem kX1_empty (l : Launch) (D : va_G) (c0 : Nat → ClassId) (a0 a1 : Nat) (outs : Nat → Int32) (entered room latestEntry : Int32) (p1 : Int32) {R : (Int32 × Int32 × Int32)} (hf : fX1_empty entered room latestEntry p1 = some R) : Ct l D c0 yX1_empty cX1_empty 2 (none) (rmF 0 0) [.ref a0, .int p1] (wX1 c0 a0 a1 outs entered room latestEntry) none (wX1 c0 a0 a1 outs R.1 R.2.1 R.2.2) := by
  refine Ct.mk (own := RX1) [(0, .ref a0), (1, .int p1)] rfl pl_X1 rfl (Nat.le_of_ble_eq_true rfl) (fun K h  => ?_)
  unfold fX1_empty at hf
  refine r_aload_n (n := 1) h 0 dX1_empty_0 rfl rfl rfl ?_
  refine r_iconst (n := 2) h (0 : Int32) dX1_empty_1 (by decide) rfl ?_
  refine r_put (n := 5) h cf1 0 1 (wX1 c0 a0 a1 outs (0 : Int32) room latestEntry) fl_X1_15 rfl (by decide) rfl rfl rfl (Nat.le_of_ble_eq_true rfl) rfl dX1_empty_2 rfl ?_
  refine r_aload_n (n := 6) h 0 dX1_empty_5 rfl rfl rfl ?_
  refine r_iload_n (n := 7) h 1 dX1_empty_6 rfl rfl rfl ?_
  refine r_put (n := 10) h cf1 0 2 (wX1 c0 a0 a1 outs (0 : Int32) p1 latestEntry) fl_X1_19 rfl (by decide) rfl rfl rfl (Nat.le_of_ble_eq_true rfl) rfl dX1_empty_7 rfl ?_
  refine r_aload_n (n := 11) h 0 dX1_empty_10 rfl rfl rfl ?_
  refine r_iconst (n := 12) h (0 : Int32) dX1_empty_11 (by decide) rfl ?_
  refine r_put (n := 15) h cf1 0 3 (wX1 c0 a0 a1 outs (0 : Int32) p1 (0 : Int32)) fl_X1_22 rfl (by decide) rfl rfl rfl (Nat.le_of_ble_eq_true rfl) rfl dX1_empty_12 rfl ?_
  have hf := Option.some.inj hf
  subst hf
  exact r_vret h dX1_empty_15
end
section
variable {l : Launch} {D : va_G} {c0 : Nat → ClassId} {K : KT} {N : Nat} {R : Int32} {a0 a1 : Nat} {outs : Nat → Int32} {entered room latestEntry : Int32} {p1 : Int32}
def bX1_inside_25 (N : Nat) (outs : Nat → Int32) (entered : Int32) (p1 : Int32) (k4 : (Int32 × Int32) → Option Int32) (v2 : Int32) (v3 : Int32) : Option Int32 :=
  k4 (v2, (v3 + (1 : Int32)))
theorem tX1_inside_25 {k4 : (Int32 × Int32) → Option Int32} (h : OKm D c0 K RX1 cX1_inside 4 (some .int) (rmF 0 0) (some (.int R)) (wX1 c0 a0 a1 outs entered room latestEntry))  (hk4 : ∀ s : (Int32 × Int32), k4 s = some R → WW l D K 4 4 [(0, .ref a0), (1, .int p1), (2, .int s.1), (3, .int s.2)] [] (wX1 c0 a0 a1 outs entered room latestEntry)) (v2 : Int32) (v3 : Int32) (hf : bX1_inside_25 N outs entered p1 k4 v2 v3 = some R) : WW l D K 4 25 [(0, .ref a0), (1, .int p1), (2, .int v2), (3, .int v3)] [] (wX1 c0 a0 a1 outs entered room latestEntry) := by
  unfold bX1_inside_25 at hf
  refine r_iinc (n := 28) h 3 (v3 + (1 : Int32)) [(0, .ref a0), (1, .int p1), (2, .int v2), (3, .int (v3 + (1 : Int32)))] dX1_inside_25 rfl rfl (by decide) rfl rfl ?_
  refine r_goto h 4 dX1_inside_28 (by decide) ?_
  exact hk4 (v2, (v3 + (1 : Int32))) hf
def bX1_inside_4 (N : Nat) (outs : Nat → Int32) (entered : Int32) (p1 : Int32) (k4 : (Int32 × Int32) → Option Int32) (s : (Int32 × Int32)) : Option Int32 :=
  (if entered ≤ s.2 then some s.1 else if chk s.2 10 = true then (if (outs (Int32.toNatClampNeg s.2)) ≤ p1 then bX1_inside_25 N outs entered p1 k4 s.1 s.2 else bX1_inside_25 N outs entered p1 k4 (s.1 + (1 : Int32)) s.2) else none)
theorem tX1_inside_4  (h : OKm D c0 K RX1 cX1_inside 4 (some .int) (rmF 0 0) (some (.int R)) (wX1 c0 a0 a1 outs entered room latestEntry))  : ∀ (n : Nat) (s : (Int32 × Int32)), lp (bX1_inside_4 N outs entered p1) n s = some R → WW l D K 4 4 [(0, .ref a0), (1, .int p1), (2, .int s.1), (3, .int s.2)] [] (wX1 c0 a0 a1 outs entered room latestEntry) := by
  refine lp_ind (fun k4 hk4 s hf => ?_)
  unfold bX1_inside_4 at hf
  refine r_iload_n (n := 5) h 3 dX1_inside_4 rfl rfl rfl ?_
  refine r_aload_n (n := 6) h 0 dX1_inside_5 rfl rfl rfl ?_
  refine r_get (n := 9) h cf1 0 1 (v := .int entered) fl_X1_15 rfl (by decide) rfl dX1_inside_6 rfl ?_
  refine r_icmp_ge (n := 12) h 31 dX1_inside_9 (by decide) rfl (fun hc1 => ?_) (fun hc1 => ?_)
  · have hf := h_pos hc1 hf
    refine r_iload_n (n := 32) h 2 dX1_inside_31 rfl rfl rfl ?_
    have hf := Option.some.inj hf
    subst hf
    exact r_iret h dX1_inside_32
  · have hf := h_neg hc1 hf
    refine r_aload_n (n := 13) h 0 dX1_inside_12 rfl rfl rfl ?_
    refine r_get (n := 16) h cf1 0 0 (v := .ref a1) fl_X1_9 rfl (by decide) rfl dX1_inside_13 rfl ?_
    refine r_iload_n (n := 17) h 3 dX1_inside_16 rfl rfl rfl ?_
    obtain ⟨hi2, hf⟩ := h_chk hf
    refine r_iald (n := 18) h 1 rfl hi2 dX1_inside_17 rfl ?_
    refine r_iload_n (n := 19) h 1 dX1_inside_18 rfl rfl rfl ?_
    refine r_icmp_le (n := 22) h 25 dX1_inside_19 (by decide) rfl (fun hc3 => ?_) (fun hc3 => ?_)
    · have hf := h_pos hc3 hf
      exact tX1_inside_25 h hk4 s.1 s.2 hf
    · have hf := h_neg hc3 hf
      refine r_iinc (n := 25) h 2 (s.1 + (1 : Int32)) [(0, .ref a0), (1, .int p1), (2, .int (s.1 + (1 : Int32))), (3, .int s.2)] dX1_inside_22 rfl rfl (by decide) rfl rfl ?_
      exact tX1_inside_25 h hk4 (s.1 + (1 : Int32)) s.2 hf
def fX1_inside (N : Nat) (outs : Nat → Int32) (entered : Int32) (p1 : Int32) : Option Int32 :=
  lp (bX1_inside_4 N outs entered p1) N ((0 : Int32), (0 : Int32))
theorem kX1_inside (l : Launch) (D : va_G) (c0 : Nat → ClassId) (a0 a1 : Nat) (outs : Nat → Int32) (entered room latestEntry : Int32) (p1 : Int32) {N : Nat} {R : Int32} (hf : fX1_inside N outs entered p1 = some R) : Ct l D c0 yX1_inside cX1_inside 4 (some .int) (rmF 0 0) [.ref a0, .int p1] (wX1 c0 a0 a1 outs entered room latestEntry) (some (.int R)) (wX1 c0 a0 a1 outs entered room latestEntry) := by
  refine Ct.mk (own := RX1) [(0, .ref a0), (1, .int p1)] rfl pl_X1 rfl (Nat.le_of_ble_eq_true rfl) (fun K h  => ?_)
  unfold fX1_inside at hf
  refine r_iconst (n := 1) h (0 : Int32) dX1_inside_0 (by decide) rfl ?_
  refine r_istore_n (n := 2) h [(0, .ref a0), (1, .int p1), (2, .int (0 : Int32))] dX1_inside_1 rfl (by decide) rfl rfl ?_
  refine r_iconst (n := 3) h (0 : Int32) dX1_inside_2 (by decide) rfl ?_
  refine r_istore_n (n := 4) h [(0, .ref a0), (1, .int p1), (2, .int (0 : Int32)), (3, .int (0 : Int32))] dX1_inside_3 rfl (by decide) rfl rfl ?_
  exact tX1_inside_4 h  N ((0 : Int32), (0 : Int32)) hf
end
section
variable {l : Launch} {D : va_G} {c0 : Nat → ClassId} {K : KT} {N : Nat} {R : Int32} {a0 a1 : Nat} {outs : Nat → Int32} {entered room latestEntry : Int32}
def bX1_lastOut_4 (N : Nat) (outs : Nat → Int32) (entered : Int32) (k4 : (Int32 × Int32) → Option Int32) (s : (Int32 × Int32)) : Option Int32 :=
  (if entered ≤ s.2 then some s.1 else if chk s.2 10 = true then nm (if s.1 < (outs (Int32.toNatClampNeg s.2)) then (outs (Int32.toNatClampNeg s.2)) else s.1) (fun y3 => k4 (y3, (s.2 + (1 : Int32)))) else none)
theorem tX1_lastOut_4  (h : OKm D c0 K RX1 cX1_lastOut 3 (some .int) (rmF 1 21) (some (.int R)) (wX1 c0 a0 a1 outs entered room latestEntry))  : ∀ (n : Nat) (s : (Int32 × Int32)), lp (bX1_lastOut_4 N outs entered) n s = some R → WW l D K 3 4 [(0, .ref a0), (1, .int s.1), (2, .int s.2)] [] (wX1 c0 a0 a1 outs entered room latestEntry) := by
  refine lp_ind (fun k4 hk4 s hf => ?_)
  unfold bX1_lastOut_4 at hf
  refine r_iload_n (n := 5) h 2 dX1_lastOut_4 rfl rfl rfl ?_
  refine r_aload_n (n := 6) h 0 dX1_lastOut_5 rfl rfl rfl ?_
  refine r_get (n := 9) h cf1 0 1 (v := .int entered) fl_X1_15 rfl (by decide) rfl dX1_lastOut_6 rfl ?_
  refine r_icmp_ge (n := 12) h 29 dX1_lastOut_9 (by decide) rfl (fun hc1 => ?_) (fun hc1 => ?_)
  · have hf := h_pos hc1 hf
    refine r_iload_n (n := 30) h 1 dX1_lastOut_29 rfl rfl rfl ?_
    have hf := Option.some.inj hf
    subst hf
    exact r_iret h dX1_lastOut_30
  · have hf := h_neg hc1 hf
    refine r_iload_n (n := 13) h 1 dX1_lastOut_12 rfl rfl rfl ?_
    refine r_aload_n (n := 14) h 0 dX1_lastOut_13 rfl rfl rfl ?_
    refine r_get (n := 17) h cf1 0 0 (v := .ref a1) fl_X1_9 rfl (by decide) rfl dX1_lastOut_14 rfl ?_
    refine r_iload_n (n := 18) h 2 dX1_lastOut_17 rfl rfl rfl ?_
    obtain ⟨hi2, hf⟩ := h_chk hf
    refine r_iald (n := 19) h 1 rfl hi2 dX1_lastOut_18 rfl ?_
    refine r_mmax (n := 22) h ml_X1_25 (by decide) (Nat.le_of_ble_eq_true rfl) dX1_lastOut_19 rfl ?_
    refine r_nmi hf (fun y3 hf => ?_)
    refine r_istore_n (n := 23) h [(0, .ref a0), (1, .int y3), (2, .int s.2)] dX1_lastOut_22 rfl (by decide) rfl rfl ?_
    refine r_iinc (n := 26) h 2 (s.2 + (1 : Int32)) [(0, .ref a0), (1, .int y3), (2, .int (s.2 + (1 : Int32)))] dX1_lastOut_23 rfl rfl (by decide) rfl rfl ?_
    refine r_goto h 4 dX1_lastOut_26 (by decide) ?_
    exact hk4 (y3, (s.2 + (1 : Int32))) hf
def fX1_lastOut (N : Nat) (outs : Nat → Int32) (entered : Int32) : Option Int32 :=
  lp (bX1_lastOut_4 N outs entered) N ((0 : Int32), (0 : Int32))
theorem kX1_lastOut (l : Launch) (D : va_G) (c0 : Nat → ClassId) (a0 a1 : Nat) (outs : Nat → Int32) (entered room latestEntry : Int32) {N : Nat} {R : Int32} (hf : fX1_lastOut N outs entered = some R) : Ct l D c0 yX1_lastOut cX1_lastOut 3 (some .int) (rmF 1 21) [.ref a0] (wX1 c0 a0 a1 outs entered room latestEntry) (some (.int R)) (wX1 c0 a0 a1 outs entered room latestEntry) := by
  refine Ct.mk (own := RX1) [(0, .ref a0)] rfl pl_X1 rfl (Nat.le_of_ble_eq_true rfl) (fun K h  => ?_)
  unfold fX1_lastOut at hf
  refine r_iconst (n := 1) h (0 : Int32) dX1_lastOut_0 (by decide) rfl ?_
  refine r_istore_n (n := 2) h [(0, .ref a0), (1, .int (0 : Int32))] dX1_lastOut_1 rfl (by decide) rfl rfl ?_
  refine r_iconst (n := 3) h (0 : Int32) dX1_lastOut_2 (by decide) rfl ?_
  refine r_istore_n (n := 4) h [(0, .ref a0), (1, .int (0 : Int32)), (2, .int (0 : Int32))] dX1_lastOut_3 rfl (by decide) rfl rfl ?_
  exact tX1_lastOut_4 h  N ((0 : Int32), (0 : Int32)) hf
end
section
variable {l : Launch} {D : va_G} {c0 : Nat → ClassId} {K : KT} {N : Nat} {R : Int32} {a0 a1 : Nat} {outs : Nat → Int32} {entered room latestEntry : Int32} {p1 : Int32}
def bX1_nextOut_36 (N : Nat) (outs : Nat → Int32) (entered : Int32) (p1 : Int32) (k7 : (Int32 × Int32) → Option Int32) (v2 : Int32) (v3 : Int32) : Option Int32 :=
  k7 (v2, (v3 + (1 : Int32)))
theorem tX1_nextOut_36 {k7 : (Int32 × Int32) → Option Int32} (h : OKm D c0 K RX1 cX1_nextOut 4 (some .int) (rmF 2 43) (some (.int R)) (wX1 c0 a0 a1 outs entered room latestEntry))  (hk7 : ∀ s : (Int32 × Int32), k7 s = some R → WW l D K 4 7 [(0, .ref a0), (1, .int p1), (2, .int s.1), (3, .int s.2)] [] (wX1 c0 a0 a1 outs entered room latestEntry)) (v2 : Int32) (v3 : Int32) (hf : bX1_nextOut_36 N outs entered p1 k7 v2 v3 = some R) : WW l D K 4 36 [(0, .ref a0), (1, .int p1), (2, .int v2), (3, .int v3)] [] (wX1 c0 a0 a1 outs entered room latestEntry) := by
  unfold bX1_nextOut_36 at hf
  refine r_iinc (n := 39) h 3 (v3 + (1 : Int32)) [(0, .ref a0), (1, .int p1), (2, .int v2), (3, .int (v3 + (1 : Int32)))] dX1_nextOut_36 rfl rfl (by decide) rfl rfl ?_
  refine r_goto h 7 dX1_nextOut_39 (by decide) ?_
  exact hk7 (v2, (v3 + (1 : Int32))) hf
def bX1_nextOut_7 (N : Nat) (outs : Nat → Int32) (entered : Int32) (p1 : Int32) (k7 : (Int32 × Int32) → Option Int32) (s : (Int32 × Int32)) : Option Int32 :=
  (if entered ≤ s.2 then some s.1 else if chk s.2 10 = true then (if (outs (Int32.toNatClampNeg s.2)) ≤ p1 then bX1_nextOut_36 N outs entered p1 k7 s.1 s.2 else if chk s.2 10 = true then nm (if (outs (Int32.toNatClampNeg s.2)) < s.1 then (outs (Int32.toNatClampNeg s.2)) else s.1) (fun y7 => bX1_nextOut_36 N outs entered p1 k7 y7 s.2) else none) else none)
theorem tX1_nextOut_7  (h : OKm D c0 K RX1 cX1_nextOut 4 (some .int) (rmF 2 43) (some (.int R)) (wX1 c0 a0 a1 outs entered room latestEntry))  : ∀ (n : Nat) (s : (Int32 × Int32)), lp (bX1_nextOut_7 N outs entered p1) n s = some R → WW l D K 4 7 [(0, .ref a0), (1, .int p1), (2, .int s.1), (3, .int s.2)] [] (wX1 c0 a0 a1 outs entered room latestEntry) := by
  refine lp_ind (fun k7 hk7 s hf => ?_)
  unfold bX1_nextOut_7 at hf
  refine r_iload_n (n := 8) h 3 dX1_nextOut_7 rfl rfl rfl ?_
  refine r_aload_n (n := 9) h 0 dX1_nextOut_8 rfl rfl rfl ?_
  refine r_get (n := 12) h cf1 0 1 (v := .int entered) fl_X1_15 rfl (by decide) rfl dX1_nextOut_9 rfl ?_
  refine r_icmp_ge (n := 15) h 42 dX1_nextOut_12 (by decide) rfl (fun hc3 => ?_) (fun hc3 => ?_)
  · have hf := h_pos hc3 hf
    refine r_iload_n (n := 43) h 2 dX1_nextOut_42 rfl rfl rfl ?_
    have hf := Option.some.inj hf
    subst hf
    exact r_iret h dX1_nextOut_43
  · have hf := h_neg hc3 hf
    refine r_aload_n (n := 16) h 0 dX1_nextOut_15 rfl rfl rfl ?_
    refine r_get (n := 19) h cf1 0 0 (v := .ref a1) fl_X1_9 rfl (by decide) rfl dX1_nextOut_16 rfl ?_
    refine r_iload_n (n := 20) h 3 dX1_nextOut_19 rfl rfl rfl ?_
    obtain ⟨hi4, hf⟩ := h_chk hf
    refine r_iald (n := 21) h 1 rfl hi4 dX1_nextOut_20 rfl ?_
    refine r_iload_n (n := 22) h 1 dX1_nextOut_21 rfl rfl rfl ?_
    refine r_icmp_le (n := 25) h 36 dX1_nextOut_22 (by decide) rfl (fun hc5 => ?_) (fun hc5 => ?_)
    · have hf := h_pos hc5 hf
      exact tX1_nextOut_36 h hk7 s.1 s.2 hf
    · have hf := h_neg hc5 hf
      refine r_iload_n (n := 26) h 2 dX1_nextOut_25 rfl rfl rfl ?_
      refine r_aload_n (n := 27) h 0 dX1_nextOut_26 rfl rfl rfl ?_
      refine r_get (n := 30) h cf1 0 0 (v := .ref a1) fl_X1_9 rfl (by decide) rfl dX1_nextOut_27 rfl ?_
      refine r_iload_n (n := 31) h 3 dX1_nextOut_30 rfl rfl rfl ?_
      obtain ⟨hi6, hf⟩ := h_chk hf
      refine r_iald (n := 32) h 1 rfl hi6 dX1_nextOut_31 rfl ?_
      refine r_mmin (n := 35) h ml_X1_42 (by decide) (Nat.le_of_ble_eq_true rfl) dX1_nextOut_32 rfl ?_
      refine r_nmi hf (fun y7 hf => ?_)
      refine r_istore_n (n := 36) h [(0, .ref a0), (1, .int p1), (2, .int y7), (3, .int s.2)] dX1_nextOut_35 rfl (by decide) rfl rfl ?_
      exact tX1_nextOut_36 h hk7 y7 s.2 hf
def fX1_nextOut (N : Nat) (outs : Nat → Int32) (entered : Int32) (p1 : Int32) : Option Int32 :=
  (fX1_lastOut N outs entered).bind (fun u1 => lp (bX1_nextOut_7 N outs entered p1) N (u1, (0 : Int32)))
theorem kX1_nextOut (l : Launch) (D : va_G) (c0 : Nat → ClassId) (a0 a1 : Nat) (outs : Nat → Int32) (entered room latestEntry : Int32) (p1 : Int32) {N : Nat} {R : Int32} (hf : fX1_nextOut N outs entered p1 = some R) : Ct l D c0 yX1_nextOut cX1_nextOut 4 (some .int) (rmF 2 43) [.ref a0, .int p1] (wX1 c0 a0 a1 outs entered room latestEntry) (some (.int R)) (wX1 c0 a0 a1 outs entered room latestEntry) := by
  refine Ct.mk (own := RX1) [(0, .ref a0), (1, .int p1)] rfl pl_X1 rfl (Nat.le_of_ble_eq_true rfl) (fun K h  => ?_)
  unfold fX1_nextOut at hf
  refine r_aload_n (n := 1) h 0 dX1_nextOut_0 rfl rfl rfl ?_
  obtain ⟨u1, hu2, hf⟩ := h_bind hf
  refine r_callT (n := 4) h mi_X1_lastOut mv_X1_lastOut ml_X1_38 (kX1_lastOut l D c0 a0 a1 outs entered room latestEntry hu2) (wX1 c0 a0 a1 outs entered room latestEntry) (ws := (wX1 c0 a0 a1 outs entered room latestEntry)) (st := []) (st1 := [.int u1]) rfl rfl rfl rfl rfl rfl ⟨rfl, rfl, by decide, by decide⟩ rfl rfl (Nat.le_of_ble_eq_true rfl) dX1_nextOut_1 rfl ?_
  refine r_istore_n (n := 5) h [(0, .ref a0), (1, .int p1), (2, .int u1)] dX1_nextOut_4 rfl (by decide) rfl rfl ?_
  refine r_iconst (n := 6) h (0 : Int32) dX1_nextOut_5 (by decide) rfl ?_
  refine r_istore_n (n := 7) h [(0, .ref a0), (1, .int p1), (2, .int u1), (3, .int (0 : Int32))] dX1_nextOut_6 rfl (by decide) rfl rfl ?_
  exact tX1_nextOut_7 h  N (u1, (0 : Int32)) hf
end
section
variable {l : Launch} {D : va_G} {c0 : Nat → ClassId} {K : KT} {N : Nat} {R : (Int32 × (Nat → Int32) × Int32 × Int32)} {a0 a1 : Nat} {outs : Nat → Int32} {entered room latestEntry : Int32} {p1 : Int32} {p2 : Int32}
def bX1_enter_81 (N : Nat) (room : Int32) (p1 : Int32) (p2 : Int32) (v3 : Int32) (outs : Nat → Int32) (entered : Int32) (latestEntry : Int32) : Option (Int32 × (Nat → Int32) × Int32 × Int32) :=
  some ((v3 + p2), outs, entered, latestEntry)
theorem tX1_enter_81  (h : OKm D c0 K RX1 cX1_enter 5 (some .int) (rmF 3 66) (some (.int R.1)) (wX1 c0 a0 a1 R.2.1 R.2.2.1 room R.2.2.2))  (v3 : Int32) (outs : Nat → Int32) (entered : Int32) (latestEntry : Int32) (hf : bX1_enter_81 N room p1 p2 v3 outs entered latestEntry = some R) : WW l D K 5 81 [(2, .int p2), (3, .int v3)] [] (wX1 c0 a0 a1 outs entered room latestEntry) := by
  unfold bX1_enter_81 at hf
  refine r_iload_n (n := 82) h 1 dX1_enter_81 rfl rfl rfl ?_
  refine r_iload_n (n := 83) h 0 dX1_enter_82 rfl rfl rfl ?_
  refine r_iadd (n := 84) h dX1_enter_83 rfl ?_
  have hf := Option.some.inj hf
  subst hf
  exact r_iret h dX1_enter_84
def bX1_enter_45 (N : Nat) (room : Int32) (p1 : Int32) (p2 : Int32) (v3 : Int32) (outs : Nat → Int32) (entered : Int32) (latestEntry : Int32) : Option (Int32 × (Nat → Int32) × Int32 × Int32) :=
  (if (10 : Int32) ≤ entered then bX1_enter_81 N room p1 p2 v3 outs entered v3 else if chk entered 10 = true then bX1_enter_81 N room p1 p2 v3 (upd outs (Int32.toNatClampNeg entered) (v3 + p2)) (entered + (1 : Int32)) v3 else none)
theorem tX1_enter_45  (h : OKm D c0 K RX1 cX1_enter 5 (some .int) (rmF 3 66) (some (.int R.1)) (wX1 c0 a0 a1 R.2.1 R.2.2.1 room R.2.2.2))  (v3 : Int32) (outs : Nat → Int32) (entered : Int32) (latestEntry : Int32) (hf : bX1_enter_45 N room p1 p2 v3 outs entered latestEntry = some R) : WW l D K 5 45 [(0, .ref a0), (2, .int p2), (3, .int v3)] [] (wX1 c0 a0 a1 outs entered room latestEntry) := by
  unfold bX1_enter_45 at hf
  refine r_aload_n (n := 46) h 0 dX1_enter_45 rfl rfl rfl ?_
  refine r_iload_n (n := 47) h 2 dX1_enter_46 rfl rfl rfl ?_
  refine r_put (n := 50) h cf1 0 3 (wX1 c0 a0 a1 outs entered room v3) fl_X1_22 rfl (by decide) rfl rfl rfl (Nat.le_of_ble_eq_true rfl) rfl dX1_enter_47 rfl ?_
  refine r_aload_n (n := 51) h 0 dX1_enter_50 rfl rfl rfl ?_
  refine r_get (n := 54) h cf1 0 1 (v := .int entered) fl_X1_15 rfl (by decide) rfl dX1_enter_51 rfl ?_
  refine r_bipush (n := 56) h (10 : Int32) dX1_enter_54 (by decide) rfl ?_
  refine r_icmp_ge (n := 59) h 81 dX1_enter_56 (by decide) rfl (fun hc2 => ?_) (fun hc2 => ?_)
  · have hf := h_pos hc2 hf
    refine r_lv [1, 2] (lv' := [(2, .int p2), (3, .int v3)]) rfl ?_
    exact tX1_enter_81 h v3 outs entered v3 hf
  · have hf := h_neg hc2 hf
    refine r_aload_n (n := 60) h 0 dX1_enter_59 rfl rfl rfl ?_
    refine r_get (n := 63) h cf1 0 0 (v := .ref a1) fl_X1_9 rfl (by decide) rfl dX1_enter_60 rfl ?_
    refine r_aload_n (n := 64) h 0 dX1_enter_63 rfl rfl rfl ?_
    refine r_get (n := 67) h cf1 0 1 (v := .int entered) fl_X1_15 rfl (by decide) rfl dX1_enter_64 rfl ?_
    refine r_iload_n (n := 68) h 2 dX1_enter_67 rfl rfl rfl ?_
    refine r_iload_n (n := 69) h 1 dX1_enter_68 rfl rfl rfl ?_
    refine r_iadd (n := 70) h dX1_enter_69 rfl ?_
    obtain ⟨hi3, hf⟩ := h_chk hf
    refine r_iast (n := 71) h 1 (wX1 c0 a0 a1 (upd outs (Int32.toNatClampNeg entered) (v3 + p2)) entered room v3) rfl hi3 rfl dX1_enter_70 rfl ?_
    refine r_aload_n (n := 72) h 0 dX1_enter_71 rfl rfl rfl ?_
    refine r_dup (n := 73) h dX1_enter_72 rfl rfl ?_
    refine r_get (n := 76) h cf1 0 1 (v := .int entered) fl_X1_15 rfl (by decide) rfl dX1_enter_73 rfl ?_
    refine r_iconst (n := 77) h (1 : Int32) dX1_enter_76 (by decide) rfl ?_
    refine r_iadd (n := 78) h dX1_enter_77 rfl ?_
    refine r_put (n := 81) h cf1 0 1 (wX1 c0 a0 a1 (upd outs (Int32.toNatClampNeg entered) (v3 + p2)) (entered + (1 : Int32)) room v3) fl_X1_15 rfl (by decide) rfl rfl rfl (Nat.le_of_ble_eq_true rfl) rfl dX1_enter_78 rfl ?_
    refine r_lv [1, 2] (lv' := [(2, .int p2), (3, .int v3)]) rfl ?_
    exact tX1_enter_81 h v3 (upd outs (Int32.toNatClampNeg entered) (v3 + p2)) (entered + (1 : Int32)) v3 hf
def bX1_enter_12 (N : Nat) (room : Int32) (p1 : Int32) (p2 : Int32) (outs : Nat → Int32) (entered : Int32) (latestEntry : Int32) (k12 : (Int32 × Int32) → Option (Int32 × (Nat → Int32) × Int32 × Int32)) (s : (Int32 × Int32)) : Option (Int32 × (Nat → Int32) × Int32 × Int32) :=
  (if entered ≤ s.2 then bX1_enter_45 N room p1 p2 s.1 outs entered latestEntry else (fX1_inside N outs entered s.1).bind (fun u4 => (if u4 < room then bX1_enter_45 N room p1 p2 s.1 outs entered latestEntry else (fX1_nextOut N outs entered s.1).bind (fun u7 => k12 (u7, (s.2 + (1 : Int32)))))))
theorem tX1_enter_12 {outs : Nat → Int32} {entered : Int32} {latestEntry : Int32} (h : OKm D c0 K RX1 cX1_enter 5 (some .int) (rmF 3 66) (some (.int R.1)) (wX1 c0 a0 a1 R.2.1 R.2.2.1 room R.2.2.2))  : ∀ (n : Nat) (s : (Int32 × Int32)), lp (bX1_enter_12 N room p1 p2 outs entered latestEntry) n s = some R → WW l D K 5 12 [(0, .ref a0), (2, .int p2), (3, .int s.1), (4, .int s.2)] [] (wX1 c0 a0 a1 outs entered room latestEntry) := by
  refine lp_ind (fun k12 hk12 s hf => ?_)
  unfold bX1_enter_12 at hf
  refine r_iload (n := 14) h 3 dX1_enter_12 rfl rfl ?_
  refine r_aload_n (n := 15) h 0 dX1_enter_14 rfl rfl rfl ?_
  refine r_get (n := 18) h cf1 0 1 (v := .int entered) fl_X1_15 rfl (by decide) rfl dX1_enter_15 rfl ?_
  refine r_icmp_ge (n := 21) h 45 dX1_enter_18 (by decide) rfl (fun hc1 => ?_) (fun hc1 => ?_)
  · have hf := h_pos hc1 hf
    refine r_lv [0, 1, 2] (lv' := [(0, .ref a0), (2, .int p2), (3, .int s.1)]) rfl ?_
    exact tX1_enter_45 h s.1 outs entered latestEntry hf
  · have hf := h_neg hc1 hf
    refine r_aload_n (n := 22) h 0 dX1_enter_21 rfl rfl rfl ?_
    refine r_iload_n (n := 23) h 2 dX1_enter_22 rfl rfl rfl ?_
    obtain ⟨u4, hu5, hf⟩ := h_bind hf
    refine r_callT (n := 26) h mi_X1_inside mv_X1_inside ml_X1_31 (kX1_inside l D c0 a0 a1 outs entered room latestEntry s.1 hu5) (wX1 c0 a0 a1 outs entered room latestEntry) (ws := (wX1 c0 a0 a1 outs entered room latestEntry)) (st := []) (st1 := [.int u4]) rfl rfl rfl rfl rfl rfl ⟨rfl, rfl, by decide, by decide⟩ rfl rfl (Nat.le_of_ble_eq_true rfl) dX1_enter_23 rfl ?_
    refine r_aload_n (n := 27) h 0 dX1_enter_26 rfl rfl rfl ?_
    refine r_get (n := 30) h cf1 0 2 (v := .int room) fl_X1_19 rfl (by decide) rfl dX1_enter_27 rfl ?_
    refine r_icmp_lt (n := 33) h 45 dX1_enter_30 (by decide) rfl (fun hc6 => ?_) (fun hc6 => ?_)
    · have hf := h_pos hc6 hf
      refine r_lv [0, 1, 2] (lv' := [(0, .ref a0), (2, .int p2), (3, .int s.1)]) rfl ?_
      exact tX1_enter_45 h s.1 outs entered latestEntry hf
    · have hf := h_neg hc6 hf
      refine r_aload_n (n := 34) h 0 dX1_enter_33 rfl rfl rfl ?_
      refine r_iload_n (n := 35) h 2 dX1_enter_34 rfl rfl rfl ?_
      obtain ⟨u7, hu8, hf⟩ := h_bind hf
      refine r_callT (n := 38) h mi_X1_nextOut mv_X1_nextOut ml_X1_35 (kX1_nextOut l D c0 a0 a1 outs entered room latestEntry s.1 hu8) (wX1 c0 a0 a1 outs entered room latestEntry) (ws := (wX1 c0 a0 a1 outs entered room latestEntry)) (st := []) (st1 := [.int u7]) rfl rfl rfl rfl rfl rfl ⟨rfl, rfl, by decide, by decide⟩ rfl rfl (Nat.le_of_ble_eq_true rfl) dX1_enter_35 rfl ?_
      refine r_istore_n (n := 39) h [(0, .ref a0), (2, .int p2), (3, .int u7), (4, .int s.2)] dX1_enter_38 rfl (by decide) rfl rfl ?_
      refine r_iinc (n := 42) h 3 (s.2 + (1 : Int32)) [(0, .ref a0), (2, .int p2), (3, .int u7), (4, .int (s.2 + (1 : Int32)))] dX1_enter_39 rfl rfl (by decide) rfl rfl ?_
      refine r_goto h 12 dX1_enter_42 (by decide) ?_
      exact hk12 (u7, (s.2 + (1 : Int32))) hf
def fX1_enter (N : Nat) (outs : Nat → Int32) (entered room latestEntry : Int32) (p1 : Int32) (p2 : Int32) : Option (Int32 × (Nat → Int32) × Int32 × Int32) :=
  lp (bX1_enter_12 N room p1 p2 outs entered latestEntry) N ((if latestEntry < p1 then p1 else latestEntry), (0 : Int32))
theorem kX1_enter (l : Launch) (D : va_G) (c0 : Nat → ClassId) (a0 a1 : Nat) (outs : Nat → Int32) (entered room latestEntry : Int32) (p1 : Int32) (p2 : Int32) {N : Nat} {R : (Int32 × (Nat → Int32) × Int32 × Int32)} (hf : fX1_enter N outs entered room latestEntry p1 p2 = some R) : Ct l D c0 yX1_enter cX1_enter 5 (some .int) (rmF 3 66) [.ref a0, .int p1, .int p2] (wX1 c0 a0 a1 outs entered room latestEntry) (some (.int R.1)) (wX1 c0 a0 a1 R.2.1 R.2.2.1 room R.2.2.2) := by
  refine Ct.mk (own := RX1) [(0, .ref a0), (1, .int p1), (2, .int p2)] rfl pl_X1 rfl (Nat.le_of_ble_eq_true rfl) (fun K h  => ?_)
  unfold fX1_enter at hf
  refine r_aload_n (n := 1) h 0 dX1_enter_0 rfl rfl rfl ?_
  refine r_get (n := 4) h cf1 0 3 (v := .int latestEntry) fl_X1_22 rfl (by decide) rfl dX1_enter_1 rfl ?_
  refine r_iload_n (n := 5) h 1 dX1_enter_4 rfl rfl rfl ?_
  refine r_mmax (n := 8) h ml_X1_25 (by decide) (Nat.le_of_ble_eq_true rfl) dX1_enter_5 rfl ?_
  refine r_istore_n (n := 9) h [(0, .ref a0), (1, .int p1), (2, .int p2), (3, .int (if latestEntry < p1 then p1 else latestEntry))] dX1_enter_8 rfl (by decide) rfl rfl ?_
  refine r_iconst (n := 10) h (0 : Int32) dX1_enter_9 (by decide) rfl ?_
  refine r_istore (n := 12) h [(0, .ref a0), (1, .int p1), (2, .int p2), (3, .int (if latestEntry < p1 then p1 else latestEntry)), (4, .int (0 : Int32))] dX1_enter_10 (by decide) rfl rfl ?_
  refine r_lv [0, 2, 3, 4] (lv' := [(0, .ref a0), (2, .int p2), (3, .int (if latestEntry < p1 then p1 else latestEntry)), (4, .int (0 : Int32))]) rfl ?_
  exact tX1_enter_12 h  N ((if latestEntry < p1 then p1 else latestEntry), (0 : Int32)) hf
end
section
variable {l : Launch} {D : va_G} {c0 : Nat → ClassId} {K : KT} {N : Nat} {R : Int32} {p0 : Int32} {p1 : Int32} {p2 : Int32}
def fX6_within (p0 : Int32) (p1 : Int32) (p2 : Int32) : Option Int32 :=
  (if p0 < p1 then some (0 : Int32) else (if p2 < p0 then some (0 : Int32) else some (1 : Int32)))
theorem kX6_within (l : Launch) (D : va_G) (c0 : Nat → ClassId)  (p0 : Int32) (p1 : Int32) (p2 : Int32) {R : Int32} (hf : fX6_within p0 p1 p2 = some R) : Ct l D c0 yX6_within cX6_within 3 (some .boolean) (rmF 0 0) [.int p0, .int p1, .int p2] ([] : va_W) (some (.int R)) ([] : va_W) := by
  refine Ct.mk (own := RX6) [(0, .int p0), (1, .int p1), (2, .int p2)] rfl pl_X6 rfl (Nat.le_of_ble_eq_true rfl) (fun K h  => ?_)
  unfold fX6_within at hf
  refine r_iload_n (n := 1) h 0 dX6_within_0 rfl rfl rfl ?_
  refine r_iload_n (n := 2) h 1 dX6_within_1 rfl rfl rfl ?_
  refine r_icmp_lt (n := 5) h 14 dX6_within_2 (by decide) rfl (fun hc1 => ?_) (fun hc1 => ?_)
  · have hf := h_pos hc1 hf
    refine r_iconst (n := 15) h (0 : Int32) dX6_within_14 (by decide) rfl ?_
    have hf := Option.some.inj hf
    subst hf
    exact r_zret h (by decide) dX6_within_15
  · have hf := h_neg hc1 hf
    refine r_iload_n (n := 6) h 0 dX6_within_5 rfl rfl rfl ?_
    refine r_iload_n (n := 7) h 2 dX6_within_6 rfl rfl rfl ?_
    refine r_icmp_gt (n := 10) h 14 dX6_within_7 (by decide) rfl (fun hc2 => ?_) (fun hc2 => ?_)
    · have hf := h_pos hc2 hf
      refine r_iconst (n := 15) h (0 : Int32) dX6_within_14 (by decide) rfl ?_
      have hf := Option.some.inj hf
      subst hf
      exact r_zret h (by decide) dX6_within_15
    · have hf := h_neg hc2 hf
      refine r_iconst (n := 11) h (1 : Int32) dX6_within_10 (by decide) rfl ?_
      refine r_goto h 15 dX6_within_11 (by decide) ?_
      have hf := Option.some.inj hf
      subst hf
      exact r_zret h (by decide) dX6_within_15
end
section
variable {l : Launch} {D : va_G} {c0 : Nat → ClassId} {K : KT} {N : Nat} {R : Int32} {a0 a1 : Nat} {bytes : Nat → Int32} {size faultAt known bits : Int32} {p1 : Int32}
def fX4_guestAt (bytes : Nat → Int32) (known : Int32) (p1 : Int32) : Option Int32 :=
  (fX6_within p1 (0 : Int32) (known - (1 : Int32))).bind (fun u1 => (if u1 = 0 then some (-1 : Int32) else if chk p1 10 = true then some ((bytes (Int32.toNatClampNeg p1)) - (97 : Int32)) else none))
theorem kX4_guestAt (l : Launch) (D : va_G) (c0 : Nat → ClassId) (a0 a1 : Nat) (bytes : Nat → Int32) (size faultAt known bits : Int32) (p1 : Int32) {R : Int32} (hf : fX4_guestAt bytes known p1 = some R) : Ct l D c0 yX4_guestAt cX4_guestAt 2 (some .int) (rmF 1 22) [.ref a0, .int p1] (wX4 c0 a0 a1 bytes size faultAt known bits) (some (.int R)) (wX4 c0 a0 a1 bytes size faultAt known bits) := by
  refine Ct.mk (own := RX4) [(0, .ref a0), (1, .int p1)] rfl pl_X4 rfl (Nat.le_of_ble_eq_true rfl) (fun K h  => ?_)
  unfold fX4_guestAt at hf
  refine r_iload_n (n := 1) h 1 dX4_guestAt_0 rfl rfl rfl ?_
  refine r_iconst (n := 2) h (0 : Int32) dX4_guestAt_1 (by decide) rfl ?_
  refine r_aload_n (n := 3) h 0 dX4_guestAt_2 rfl rfl rfl ?_
  refine r_get (n := 6) h cf4 0 3 (v := .int known) fl_X4_33 rfl (by decide) rfl dX4_guestAt_3 rfl ?_
  refine r_iconst (n := 7) h (1 : Int32) dX4_guestAt_6 (by decide) rfl ?_
  refine r_isub (n := 8) h dX4_guestAt_7 rfl ?_
  obtain ⟨u1, hu2, hf⟩ := h_bind hf
  refine r_callN (n := 11) h mi_X6_within ms_X6_within mn_X4_36 (kX6_within l D c0 p1 (0 : Int32) (known - (1 : Int32)) hu2) [] (wX4 c0 a0 a1 bytes size faultAt known bits) (ws := (wX4 c0 a0 a1 bytes size faultAt known bits)) (st := []) (st1 := [.int u1]) rfl rfl rfl rfl rfl rfl ⟨rfl, rfl, by decide, by decide⟩ rfl rfl (Nat.le_of_ble_eq_true rfl) dX4_guestAt_8 rfl ?_
  refine r_if_eq (n := 14) h 26 dX4_guestAt_11 (by decide) rfl (fun hc3 => ?_) (fun hc3 => ?_)
  · have hf := h_pos hc3 hf
    refine r_iconst (n := 27) h (-1 : Int32) dX4_guestAt_26 (by decide) rfl ?_
    have hf := Option.some.inj hf
    subst hf
    exact r_iret h dX4_guestAt_27
  · have hf := h_neg hc3 hf
    refine r_aload_n (n := 15) h 0 dX4_guestAt_14 rfl rfl rfl ?_
    refine r_get (n := 18) h cf4 0 0 (v := .ref a1) fl_X4_9 rfl (by decide) rfl dX4_guestAt_15 rfl ?_
    refine r_iload_n (n := 19) h 1 dX4_guestAt_18 rfl rfl rfl ?_
    obtain ⟨hi4, hf⟩ := h_chk hf
    refine r_iald (n := 20) h 1 rfl hi4 dX4_guestAt_19 rfl ?_
    refine r_bipush (n := 22) h (97 : Int32) dX4_guestAt_20 (by decide) rfl ?_
    refine r_isub (n := 23) h dX4_guestAt_22 rfl ?_
    refine r_goto h 27 dX4_guestAt_23 (by decide) ?_
    have hf := Option.some.inj hf
    subst hf
    exact r_iret h dX4_guestAt_27
end
section
variable {l : Launch} {D : va_G} {c0 : Nat → ClassId} {K : KT} {N : Nat} {R : Int32}
def fJ6_bitCount_0f7a4 (p0 : Int32) : Option Int32 :=
  nm (p0 - ((((p0).toUInt32 >>> (((1 : Int32)).toUInt32 &&& Int32.toUInt32 31)).toInt32) &&& (1431655765 : Int32))) (fun y1 => nm ((y1 &&& (858993459 : Int32)) + ((((y1).toUInt32 >>> (((2 : Int32)).toUInt32 &&& Int32.toUInt32 31)).toInt32) &&& (858993459 : Int32))) (fun y2 => nm ((y2 + (((y2).toUInt32 >>> (((4 : Int32)).toUInt32 &&& Int32.toUInt32 31)).toInt32)) &&& (252645135 : Int32)) (fun y3 => nm (y3 + (((y3).toUInt32 >>> (((8 : Int32)).toUInt32 &&& Int32.toUInt32 31)).toInt32)) (fun y4 => nm (y4 + (((y4).toUInt32 >>> (((16 : Int32)).toUInt32 &&& Int32.toUInt32 31)).toInt32)) (fun y5 => some (y5 &&& (63 : Int32)))))))
theorem kJ6_bitCount_0f7a4 (l : Launch) (D : va_G) (c0 : Nat → ClassId)  (p0 : Int32) {R : Int32} (hf : fJ6_bitCount_0f7a4 p0 = some R) : Ct l D c0 yJ6_bitCount_0f7a4 cJ6_bitCount_0f7a4 1 (some .int) (rmF 0 0) [.int p0] ([] : va_W) (some (.int R)) ([] : va_W) := by
  refine Ct.mk (own := RJ6) [(0, .int p0)] rfl pl_J6 rfl (Nat.le_of_ble_eq_true rfl) (fun K h  => ?_)
  unfold fJ6_bitCount_0f7a4 at hf
  refine r_iload_n (n := 1) h 0 dJ6_bitCount_0f7a4_0 rfl rfl rfl ?_
  refine r_iload_n (n := 2) h 0 dJ6_bitCount_0f7a4_1 rfl rfl rfl ?_
  refine r_iconst (n := 3) h (1 : Int32) dJ6_bitCount_0f7a4_2 (by decide) rfl ?_
  refine r_iushr (n := 4) h dJ6_bitCount_0f7a4_3 rfl ?_
  refine r_ldc_w (n := 7) h co_J6_265 dJ6_bitCount_0f7a4_4 rfl ?_
  refine r_iand (n := 8) h dJ6_bitCount_0f7a4_7 rfl ?_
  refine r_isub (n := 9) h dJ6_bitCount_0f7a4_8 rfl ?_
  refine r_nmi hf (fun y1 hf => ?_)
  refine r_istore_n (n := 10) h [(0, .int y1)] dJ6_bitCount_0f7a4_9 rfl (by decide) rfl rfl ?_
  refine r_iload_n (n := 11) h 0 dJ6_bitCount_0f7a4_10 rfl rfl rfl ?_
  refine r_ldc_w (n := 14) h co_J6_266 dJ6_bitCount_0f7a4_11 rfl ?_
  refine r_iand (n := 15) h dJ6_bitCount_0f7a4_14 rfl ?_
  refine r_iload_n (n := 16) h 0 dJ6_bitCount_0f7a4_15 rfl rfl rfl ?_
  refine r_iconst (n := 17) h (2 : Int32) dJ6_bitCount_0f7a4_16 (by decide) rfl ?_
  refine r_iushr (n := 18) h dJ6_bitCount_0f7a4_17 rfl ?_
  refine r_ldc_w (n := 21) h co_J6_266 dJ6_bitCount_0f7a4_18 rfl ?_
  refine r_iand (n := 22) h dJ6_bitCount_0f7a4_21 rfl ?_
  refine r_iadd (n := 23) h dJ6_bitCount_0f7a4_22 rfl ?_
  refine r_nmi hf (fun y2 hf => ?_)
  refine r_istore_n (n := 24) h [(0, .int y2)] dJ6_bitCount_0f7a4_23 rfl (by decide) rfl rfl ?_
  refine r_iload_n (n := 25) h 0 dJ6_bitCount_0f7a4_24 rfl rfl rfl ?_
  refine r_iload_n (n := 26) h 0 dJ6_bitCount_0f7a4_25 rfl rfl rfl ?_
  refine r_iconst (n := 27) h (4 : Int32) dJ6_bitCount_0f7a4_26 (by decide) rfl ?_
  refine r_iushr (n := 28) h dJ6_bitCount_0f7a4_27 rfl ?_
  refine r_iadd (n := 29) h dJ6_bitCount_0f7a4_28 rfl ?_
  refine r_ldc_w (n := 32) h co_J6_267 dJ6_bitCount_0f7a4_29 rfl ?_
  refine r_iand (n := 33) h dJ6_bitCount_0f7a4_32 rfl ?_
  refine r_nmi hf (fun y3 hf => ?_)
  refine r_istore_n (n := 34) h [(0, .int y3)] dJ6_bitCount_0f7a4_33 rfl (by decide) rfl rfl ?_
  refine r_iload_n (n := 35) h 0 dJ6_bitCount_0f7a4_34 rfl rfl rfl ?_
  refine r_iload_n (n := 36) h 0 dJ6_bitCount_0f7a4_35 rfl rfl rfl ?_
  refine r_bipush (n := 38) h (8 : Int32) dJ6_bitCount_0f7a4_36 (by decide) rfl ?_
  refine r_iushr (n := 39) h dJ6_bitCount_0f7a4_38 rfl ?_
  refine r_iadd (n := 40) h dJ6_bitCount_0f7a4_39 rfl ?_
  refine r_nmi hf (fun y4 hf => ?_)
  refine r_istore_n (n := 41) h [(0, .int y4)] dJ6_bitCount_0f7a4_40 rfl (by decide) rfl rfl ?_
  refine r_iload_n (n := 42) h 0 dJ6_bitCount_0f7a4_41 rfl rfl rfl ?_
  refine r_iload_n (n := 43) h 0 dJ6_bitCount_0f7a4_42 rfl rfl rfl ?_
  refine r_bipush (n := 45) h (16 : Int32) dJ6_bitCount_0f7a4_43 (by decide) rfl ?_
  refine r_iushr (n := 46) h dJ6_bitCount_0f7a4_45 rfl ?_
  refine r_iadd (n := 47) h dJ6_bitCount_0f7a4_46 rfl ?_
  refine r_nmi hf (fun y5 hf => ?_)
  refine r_istore_n (n := 48) h [(0, .int y5)] dJ6_bitCount_0f7a4_47 rfl (by decide) rfl rfl ?_
  refine r_iload_n (n := 49) h 0 dJ6_bitCount_0f7a4_48 rfl rfl rfl ?_
  refine r_bipush (n := 51) h (63 : Int32) dJ6_bitCount_0f7a4_49 (by decide) rfl ?_
  refine r_iand (n := 52) h dJ6_bitCount_0f7a4_51 rfl ?_
  have hf := Option.some.inj hf
  subst hf
  exact r_iret h dJ6_bitCount_0f7a4_52
end
section
variable {l : Launch} {D : va_G} {c0 : Nat → ClassId} {K : KT} {N : Nat} {R : Int32} {p0 : Int32} {p1 : Int32}
def fX6_has (p0 : Int32) (p1 : Int32) : Option Int32 :=
  (if p1 < 0 then some (0 : Int32) else (if (10 : Int32) ≤ p1 then some (0 : Int32) else (if (p0 &&& ((1 : Int32) <<< (p1 &&& 31))) = 0 then some (0 : Int32) else some (1 : Int32))))
theorem kX6_has (l : Launch) (D : va_G) (c0 : Nat → ClassId)  (p0 : Int32) (p1 : Int32) {R : Int32} (hf : fX6_has p0 p1 = some R) : Ct l D c0 yX6_has cX6_has 2 (some .boolean) (rmF 0 0) [.int p0, .int p1] ([] : va_W) (some (.int R)) ([] : va_W) := by
  refine Ct.mk (own := RX6) [(0, .int p0), (1, .int p1)] rfl pl_X6 rfl (Nat.le_of_ble_eq_true rfl) (fun K h  => ?_)
  unfold fX6_has at hf
  refine r_iload_n (n := 1) h 1 dX6_has_0 rfl rfl rfl ?_
  refine r_if_lt (n := 4) h 22 dX6_has_1 (by decide) rfl (fun hc1 => ?_) (fun hc1 => ?_)
  · have hf := h_pos hc1 hf
    refine r_iconst (n := 23) h (0 : Int32) dX6_has_22 (by decide) rfl ?_
    have hf := Option.some.inj hf
    subst hf
    exact r_zret h (by decide) dX6_has_23
  · have hf := h_neg hc1 hf
    refine r_iload_n (n := 5) h 1 dX6_has_4 rfl rfl rfl ?_
    refine r_bipush (n := 7) h (10 : Int32) dX6_has_5 (by decide) rfl ?_
    refine r_icmp_ge (n := 10) h 22 dX6_has_7 (by decide) rfl (fun hc2 => ?_) (fun hc2 => ?_)
    · have hf := h_pos hc2 hf
      refine r_iconst (n := 23) h (0 : Int32) dX6_has_22 (by decide) rfl ?_
      have hf := Option.some.inj hf
      subst hf
      exact r_zret h (by decide) dX6_has_23
    · have hf := h_neg hc2 hf
      refine r_iload_n (n := 11) h 0 dX6_has_10 rfl rfl rfl ?_
      refine r_iconst (n := 12) h (1 : Int32) dX6_has_11 (by decide) rfl ?_
      refine r_iload_n (n := 13) h 1 dX6_has_12 rfl rfl rfl ?_
      refine r_ishl (n := 14) h dX6_has_13 rfl ?_
      refine r_iand (n := 15) h dX6_has_14 rfl ?_
      refine r_if_eq (n := 18) h 22 dX6_has_15 (by decide) rfl (fun hc3 => ?_) (fun hc3 => ?_)
      · have hf := h_pos hc3 hf
        refine r_iconst (n := 23) h (0 : Int32) dX6_has_22 (by decide) rfl ?_
        have hf := Option.some.inj hf
        subst hf
        exact r_zret h (by decide) dX6_has_23
      · have hf := h_neg hc3 hf
        refine r_iconst (n := 19) h (1 : Int32) dX6_has_18 (by decide) rfl ?_
        refine r_goto h 23 dX6_has_19 (by decide) ?_
        have hf := Option.some.inj hf
        subst hf
        exact r_zret h (by decide) dX6_has_23
end
section
variable {l : Launch} {D : va_G} {c0 : Nat → ClassId} {K : KT} {N : Nat} {R : Int32} {p0 : Int32}
def fX6_bit (p0 : Int32) : Option Int32 :=
  (if p0 < 0 then some (0 : Int32) else (if (10 : Int32) ≤ p0 then some (0 : Int32) else some ((1 : Int32) <<< (p0 &&& 31))))
theorem kX6_bit (l : Launch) (D : va_G) (c0 : Nat → ClassId)  (p0 : Int32) {R : Int32} (hf : fX6_bit p0 = some R) : Ct l D c0 yX6_bit cX6_bit 1 (some .int) (rmF 0 0) [.int p0] ([] : va_W) (some (.int R)) ([] : va_W) := by
  refine Ct.mk (own := RX6) [(0, .int p0)] rfl pl_X6 rfl (Nat.le_of_ble_eq_true rfl) (fun K h  => ?_)
  unfold fX6_bit at hf
  refine r_iload_n (n := 1) h 0 dX6_bit_0 rfl rfl rfl ?_
  refine r_if_lt (n := 4) h 16 dX6_bit_1 (by decide) rfl (fun hc1 => ?_) (fun hc1 => ?_)
  · have hf := h_pos hc1 hf
    refine r_iconst (n := 17) h (0 : Int32) dX6_bit_16 (by decide) rfl ?_
    have hf := Option.some.inj hf
    subst hf
    exact r_iret h dX6_bit_17
  · have hf := h_neg hc1 hf
    refine r_iload_n (n := 5) h 0 dX6_bit_4 rfl rfl rfl ?_
    refine r_bipush (n := 7) h (10 : Int32) dX6_bit_5 (by decide) rfl ?_
    refine r_icmp_ge (n := 10) h 16 dX6_bit_7 (by decide) rfl (fun hc2 => ?_) (fun hc2 => ?_)
    · have hf := h_pos hc2 hf
      refine r_iconst (n := 17) h (0 : Int32) dX6_bit_16 (by decide) rfl ?_
      have hf := Option.some.inj hf
      subst hf
      exact r_iret h dX6_bit_17
    · have hf := h_neg hc2 hf
      refine r_iconst (n := 11) h (1 : Int32) dX6_bit_10 (by decide) rfl ?_
      refine r_iload_n (n := 12) h 0 dX6_bit_11 rfl rfl rfl ?_
      refine r_ishl (n := 13) h dX6_bit_12 rfl ?_
      refine r_goto h 17 dX6_bit_13 (by decide) ?_
      have hf := Option.some.inj hf
      subst hf
      exact r_iret h dX6_bit_17
end
section
variable {l : Launch} {D : va_G} {c0 : Nat → ClassId} {K : KT} {N : Nat} {R : ((Nat → Int32) × (Nat → Int32) × Int32)} {a0 a1 a2 a3 a4 : Nat} {inRow inFrontOf liftedFor takers : Nat → Int32} {takerCount laid judgedGuest liftedInAll : Int32} {p1 : Int32} {p2 : Int32}
def bX2_layInFront_34 (N : Nat) (p1 : Int32) (p2 : Int32) (inRow : Nat → Int32) (laid : Int32) (k2 : (Int32 × (Nat → Int32)) → Option ((Nat → Int32) × (Nat → Int32) × Int32)) (v3 : Int32) (inFrontOf : Nat → Int32) : Option ((Nat → Int32) × (Nat → Int32) × Int32) :=
  k2 ((v3 + (1 : Int32)), inFrontOf)
theorem tX2_layInFront_34 {inRow : Nat → Int32} {laid : Int32} {k2 : (Int32 × (Nat → Int32)) → Option ((Nat → Int32) × (Nat → Int32) × Int32)} (h : OKm D c0 K RX2 cX2_layInFront 4 (none) (rmF 1 21) none (wX2 c0 a0 a1 a2 a3 a4 R.1 R.2.1 liftedFor takers takerCount R.2.2 judgedGuest liftedInAll))  (hk2 : ∀ s : (Int32 × (Nat → Int32)), k2 s = some R → WW l D K 4 2 [(0, .ref a0), (1, .int p1), (2, .int p2), (3, .int s.1)] [] (wX2 c0 a0 a1 a2 a3 a4 inRow s.2 liftedFor takers takerCount laid judgedGuest liftedInAll)) (v3 : Int32) (inFrontOf : Nat → Int32) (hf : bX2_layInFront_34 N p1 p2 inRow laid k2 v3 inFrontOf = some R) : WW l D K 4 34 [(0, .ref a0), (1, .int p1), (2, .int p2), (3, .int v3)] [] (wX2 c0 a0 a1 a2 a3 a4 inRow inFrontOf liftedFor takers takerCount laid judgedGuest liftedInAll) := by
  unfold bX2_layInFront_34 at hf
  refine r_iinc (n := 37) h 3 (v3 + (1 : Int32)) [(0, .ref a0), (1, .int p1), (2, .int p2), (3, .int (v3 + (1 : Int32)))] dX2_layInFront_34 rfl rfl (by decide) rfl rfl ?_
  refine r_goto h 2 dX2_layInFront_37 (by decide) ?_
  exact hk2 ((v3 + (1 : Int32)), inFrontOf) hf
def bX2_layInFront_2 (N : Nat) (p1 : Int32) (p2 : Int32) (inRow : Nat → Int32) (laid : Int32) (k2 : (Int32 × (Nat → Int32)) → Option ((Nat → Int32) × (Nat → Int32) × Int32)) (s : (Int32 × (Nat → Int32))) : Option ((Nat → Int32) × (Nat → Int32) × Int32) :=
  (if (10 : Int32) ≤ s.1 then if chk p2 10 = true then (fX6_bit p1).bind (fun u3 => if chk p2 10 = true then (fX6_bit p1).bind (fun u6 => some ((upd inRow (Int32.toNatClampNeg p2) ((inRow (Int32.toNatClampNeg p2)) ||| u3)), s.2, (laid ||| u6))) else none) else none else if chk p2 10 = true then (fX6_has (inRow (Int32.toNatClampNeg p2)) s.1).bind (fun u9 => (if u9 = 0 then bX2_layInFront_34 N p1 p2 inRow laid k2 s.1 s.2 else if chk s.1 10 = true then (fX6_bit p1).bind (fun u13 => if chk s.1 10 = true then bX2_layInFront_34 N p1 p2 inRow laid k2 s.1 (upd s.2 (Int32.toNatClampNeg s.1) ((s.2 (Int32.toNatClampNeg s.1)) ||| u13)) else none) else none)) else none)
theorem tX2_layInFront_2 {inRow : Nat → Int32} {laid : Int32} (h : OKm D c0 K RX2 cX2_layInFront 4 (none) (rmF 1 21) none (wX2 c0 a0 a1 a2 a3 a4 R.1 R.2.1 liftedFor takers takerCount R.2.2 judgedGuest liftedInAll))  : ∀ (n : Nat) (s : (Int32 × (Nat → Int32))), lp (bX2_layInFront_2 N p1 p2 inRow laid) n s = some R → WW l D K 4 2 [(0, .ref a0), (1, .int p1), (2, .int p2), (3, .int s.1)] [] (wX2 c0 a0 a1 a2 a3 a4 inRow s.2 liftedFor takers takerCount laid judgedGuest liftedInAll) := by
  refine lp_ind (fun k2 hk2 s hf => ?_)
  unfold bX2_layInFront_2 at hf
  refine r_iload_n (n := 3) h 3 dX2_layInFront_2 rfl rfl rfl ?_
  refine r_bipush (n := 5) h (10 : Int32) dX2_layInFront_3 (by decide) rfl ?_
  refine r_icmp_ge (n := 8) h 40 dX2_layInFront_5 (by decide) rfl (fun hc1 => ?_) (fun hc1 => ?_)
  · have hf := h_pos hc1 hf
    refine r_aload_n (n := 41) h 0 dX2_layInFront_40 rfl rfl rfl ?_
    refine r_get (n := 44) h cf2 0 0 (v := .ref a1) fl_X2_9 rfl (by decide) rfl dX2_layInFront_41 rfl ?_
    refine r_iload_n (n := 45) h 2 dX2_layInFront_44 rfl rfl rfl ?_
    refine r_dup2 (n := 46) h dX2_layInFront_45 rfl rfl rfl ?_
    obtain ⟨hi2, hf⟩ := h_chk hf
    refine r_iald (n := 47) h 1 rfl hi2 dX2_layInFront_46 rfl ?_
    refine r_iload_n (n := 48) h 1 dX2_layInFront_47 rfl rfl rfl ?_
    obtain ⟨u3, hu4, hf⟩ := h_bind hf
    refine r_callN (n := 51) h mi_X6_bit ms_X6_bit mn_X2_53 (kX6_bit l D c0 p1 hu4) [] (wX2 c0 a0 a1 a2 a3 a4 inRow s.2 liftedFor takers takerCount laid judgedGuest liftedInAll) (ws := (wX2 c0 a0 a1 a2 a3 a4 inRow s.2 liftedFor takers takerCount laid judgedGuest liftedInAll)) (st := [.int (inRow (Int32.toNatClampNeg p2)), .int p2, .ref a1]) (st1 := [.int u3, .int (inRow (Int32.toNatClampNeg p2)), .int p2, .ref a1]) rfl rfl rfl rfl rfl rfl ⟨rfl, rfl, by decide, by decide⟩ rfl rfl (Nat.le_of_ble_eq_true rfl) dX2_layInFront_48 rfl ?_
    refine r_ior (n := 52) h dX2_layInFront_51 rfl ?_
    obtain ⟨hi5, hf⟩ := h_chk hf
    refine r_iast (n := 53) h 1 (wX2 c0 a0 a1 a2 a3 a4 (upd inRow (Int32.toNatClampNeg p2) ((inRow (Int32.toNatClampNeg p2)) ||| u3)) s.2 liftedFor takers takerCount laid judgedGuest liftedInAll) rfl hi5 rfl dX2_layInFront_52 rfl ?_
    refine r_aload_n (n := 54) h 0 dX2_layInFront_53 rfl rfl rfl ?_
    refine r_dup (n := 55) h dX2_layInFront_54 rfl rfl ?_
    refine r_get (n := 58) h cf2 0 5 (v := .int laid) fl_X2_24 rfl (by decide) rfl dX2_layInFront_55 rfl ?_
    refine r_iload_n (n := 59) h 1 dX2_layInFront_58 rfl rfl rfl ?_
    obtain ⟨u6, hu7, hf⟩ := h_bind hf
    refine r_callN (n := 62) h mi_X6_bit ms_X6_bit mn_X2_53 (kX6_bit l D c0 p1 hu7) [] (wX2 c0 a0 a1 a2 a3 a4 (upd inRow (Int32.toNatClampNeg p2) ((inRow (Int32.toNatClampNeg p2)) ||| u3)) s.2 liftedFor takers takerCount laid judgedGuest liftedInAll) (ws := (wX2 c0 a0 a1 a2 a3 a4 (upd inRow (Int32.toNatClampNeg p2) ((inRow (Int32.toNatClampNeg p2)) ||| u3)) s.2 liftedFor takers takerCount laid judgedGuest liftedInAll)) (st := [.int laid, .ref a0]) (st1 := [.int u6, .int laid, .ref a0]) rfl rfl rfl rfl rfl rfl ⟨rfl, rfl, by decide, by decide⟩ rfl rfl (Nat.le_of_ble_eq_true rfl) dX2_layInFront_59 rfl ?_
    refine r_ior (n := 63) h dX2_layInFront_62 rfl ?_
    refine r_put (n := 66) h cf2 0 5 (wX2 c0 a0 a1 a2 a3 a4 (upd inRow (Int32.toNatClampNeg p2) ((inRow (Int32.toNatClampNeg p2)) ||| u3)) s.2 liftedFor takers takerCount (laid ||| u6) judgedGuest liftedInAll) fl_X2_24 rfl (by decide) rfl rfl rfl (Nat.le_of_ble_eq_true rfl) rfl dX2_layInFront_63 rfl ?_
    have hf := Option.some.inj hf
    subst hf
    exact r_vret h dX2_layInFront_66
  · have hf := h_neg hc1 hf
    refine r_aload_n (n := 9) h 0 dX2_layInFront_8 rfl rfl rfl ?_
    refine r_get (n := 12) h cf2 0 0 (v := .ref a1) fl_X2_9 rfl (by decide) rfl dX2_layInFront_9 rfl ?_
    refine r_iload_n (n := 13) h 2 dX2_layInFront_12 rfl rfl rfl ?_
    obtain ⟨hi8, hf⟩ := h_chk hf
    refine r_iald (n := 14) h 1 rfl hi8 dX2_layInFront_13 rfl ?_
    refine r_iload_n (n := 15) h 3 dX2_layInFront_14 rfl rfl rfl ?_
    obtain ⟨u9, hu10, hf⟩ := h_bind hf
    refine r_callN (n := 18) h mi_X6_has ms_X6_has mn_X2_49 (kX6_has l D c0 (inRow (Int32.toNatClampNeg p2)) s.1 hu10) [] (wX2 c0 a0 a1 a2 a3 a4 inRow s.2 liftedFor takers takerCount laid judgedGuest liftedInAll) (ws := (wX2 c0 a0 a1 a2 a3 a4 inRow s.2 liftedFor takers takerCount laid judgedGuest liftedInAll)) (st := []) (st1 := [.int u9]) rfl rfl rfl rfl rfl rfl ⟨rfl, rfl, by decide, by decide⟩ rfl rfl (Nat.le_of_ble_eq_true rfl) dX2_layInFront_15 rfl ?_
    refine r_if_eq (n := 21) h 34 dX2_layInFront_18 (by decide) rfl (fun hc11 => ?_) (fun hc11 => ?_)
    · have hf := h_pos hc11 hf
      exact tX2_layInFront_34 h hk2 s.1 s.2 hf
    · have hf := h_neg hc11 hf
      refine r_aload_n (n := 22) h 0 dX2_layInFront_21 rfl rfl rfl ?_
      refine r_get (n := 25) h cf2 0 1 (v := .ref a2) fl_X2_15 rfl (by decide) rfl dX2_layInFront_22 rfl ?_
      refine r_iload_n (n := 26) h 3 dX2_layInFront_25 rfl rfl rfl ?_
      refine r_dup2 (n := 27) h dX2_layInFront_26 rfl rfl rfl ?_
      obtain ⟨hi12, hf⟩ := h_chk hf
      refine r_iald (n := 28) h 2 rfl hi12 dX2_layInFront_27 rfl ?_
      refine r_iload_n (n := 29) h 1 dX2_layInFront_28 rfl rfl rfl ?_
      obtain ⟨u13, hu14, hf⟩ := h_bind hf
      refine r_callN (n := 32) h mi_X6_bit ms_X6_bit mn_X2_53 (kX6_bit l D c0 p1 hu14) [] (wX2 c0 a0 a1 a2 a3 a4 inRow s.2 liftedFor takers takerCount laid judgedGuest liftedInAll) (ws := (wX2 c0 a0 a1 a2 a3 a4 inRow s.2 liftedFor takers takerCount laid judgedGuest liftedInAll)) (st := [.int (s.2 (Int32.toNatClampNeg s.1)), .int s.1, .ref a2]) (st1 := [.int u13, .int (s.2 (Int32.toNatClampNeg s.1)), .int s.1, .ref a2]) rfl rfl rfl rfl rfl rfl ⟨rfl, rfl, by decide, by decide⟩ rfl rfl (Nat.le_of_ble_eq_true rfl) dX2_layInFront_29 rfl ?_
      refine r_ior (n := 33) h dX2_layInFront_32 rfl ?_
      obtain ⟨hi15, hf⟩ := h_chk hf
      refine r_iast (n := 34) h 2 (wX2 c0 a0 a1 a2 a3 a4 inRow (upd s.2 (Int32.toNatClampNeg s.1) ((s.2 (Int32.toNatClampNeg s.1)) ||| u13)) liftedFor takers takerCount laid judgedGuest liftedInAll) rfl hi15 rfl dX2_layInFront_33 rfl ?_
      exact tX2_layInFront_34 h hk2 s.1 (upd s.2 (Int32.toNatClampNeg s.1) ((s.2 (Int32.toNatClampNeg s.1)) ||| u13)) hf
def fX2_layInFront (N : Nat) (inRow inFrontOf : Nat → Int32) (laid : Int32) (p1 : Int32) (p2 : Int32) : Option ((Nat → Int32) × (Nat → Int32) × Int32) :=
  lp (bX2_layInFront_2 N p1 p2 inRow laid) N ((0 : Int32), inFrontOf)
theorem kX2_layInFront (l : Launch) (D : va_G) (c0 : Nat → ClassId) (a0 a1 a2 a3 a4 : Nat) (inRow inFrontOf liftedFor takers : Nat → Int32) (takerCount laid judgedGuest liftedInAll : Int32) (p1 : Int32) (p2 : Int32) {N : Nat} {R : ((Nat → Int32) × (Nat → Int32) × Int32)} (hf : fX2_layInFront N inRow inFrontOf laid p1 p2 = some R) : Ct l D c0 yX2_layInFront cX2_layInFront 4 (none) (rmF 1 21) [.ref a0, .int p1, .int p2] (wX2 c0 a0 a1 a2 a3 a4 inRow inFrontOf liftedFor takers takerCount laid judgedGuest liftedInAll) none (wX2 c0 a0 a1 a2 a3 a4 R.1 R.2.1 liftedFor takers takerCount R.2.2 judgedGuest liftedInAll) := by
  refine Ct.mk (own := RX2) [(0, .ref a0), (1, .int p1), (2, .int p2)] rfl pl_X2 rfl (Nat.le_of_ble_eq_true rfl) (fun K h  => ?_)
  unfold fX2_layInFront at hf
  refine r_iconst (n := 1) h (0 : Int32) dX2_layInFront_0 (by decide) rfl ?_
  refine r_istore_n (n := 2) h [(0, .ref a0), (1, .int p1), (2, .int p2), (3, .int (0 : Int32))] dX2_layInFront_1 rfl (by decide) rfl rfl ?_
  exact tX2_layInFront_2 h  N ((0 : Int32), inFrontOf) hf
end
section
variable {l : Launch} {D : va_G} {c0 : Nat → ClassId} {K : KT} {N : Nat} {R : ((Nat → Int32) × (Nat → Int32) × Int32 × Int32)} {a0 a1 a2 a3 a4 a5 a6 a7 : Nat} {inRow inFrontOf liftedFor takers : Nat → Int32} {takerCount laid judgedGuest liftedInAll : Int32} {q_bytes : Nat → Int32} {q_size q_faultAt q_known q_bits : Int32} {rowOf : Nat → Int32} {p3 : Int32}
def bX2_lay_107 (N : Nat) (q_bytes : Nat → Int32) (q_known : Int32) (rowOf : Nat → Int32) (p3 : Int32) (k45 : (Int32 × (Nat → Int32) × (Nat → Int32) × Int32 × Int32) → Option ((Nat → Int32) × (Nat → Int32) × Int32 × Int32)) (v4 : Int32) (inRow : Nat → Int32) (inFrontOf : Nat → Int32) (laid : Int32) (judgedGuest : Int32) : Option ((Nat → Int32) × (Nat → Int32) × Int32 × Int32) :=
  k45 ((v4 + (1 : Int32)), inRow, inFrontOf, laid, judgedGuest)
theorem tX2_lay_107 {k45 : (Int32 × (Nat → Int32) × (Nat → Int32) × Int32 × Int32) → Option ((Nat → Int32) × (Nat → Int32) × Int32 × Int32)} (h : OKm D c0 K RX2 cX2_lay 7 (none) (rmF 2 44) none (wX2_T_A c0 a0 a1 a2 a3 a4 a5 a6 a7 R.1 R.2.1 liftedFor takers takerCount R.2.2.1 R.2.2.2 liftedInAll q_bytes q_size q_faultAt q_known q_bits rowOf))  (hk45 : ∀ s : (Int32 × (Nat → Int32) × (Nat → Int32) × Int32 × Int32), k45 s = some R → WW l D K 7 45 [(0, .ref a0), (1, .ref a5), (2, .ref a7), (3, .int p3), (4, .int s.1)] [] (wX2_T_A c0 a0 a1 a2 a3 a4 a5 a6 a7 s.2.1 s.2.2.1 liftedFor takers takerCount s.2.2.2.1 s.2.2.2.2 liftedInAll q_bytes q_size q_faultAt q_known q_bits rowOf)) (v4 : Int32) (inRow : Nat → Int32) (inFrontOf : Nat → Int32) (laid : Int32) (judgedGuest : Int32) (hf : bX2_lay_107 N q_bytes q_known rowOf p3 k45 v4 inRow inFrontOf laid judgedGuest = some R) : WW l D K 7 107 [(0, .ref a0), (1, .ref a5), (2, .ref a7), (3, .int p3), (4, .int v4)] [] (wX2_T_A c0 a0 a1 a2 a3 a4 a5 a6 a7 inRow inFrontOf liftedFor takers takerCount laid judgedGuest liftedInAll q_bytes q_size q_faultAt q_known q_bits rowOf) := by
  unfold bX2_lay_107 at hf
  refine r_iinc (n := 110) h 4 (v4 + (1 : Int32)) [(0, .ref a0), (1, .ref a5), (2, .ref a7), (3, .int p3), (4, .int (v4 + (1 : Int32)))] dX2_lay_107 rfl rfl (by decide) rfl rfl ?_
  refine r_goto h 45 dX2_lay_110 (by decide) ?_
  exact hk45 ((v4 + (1 : Int32)), inRow, inFrontOf, laid, judgedGuest) hf
def bX2_lay_45 (N : Nat) (q_bytes : Nat → Int32) (q_known : Int32) (rowOf : Nat → Int32) (p3 : Int32) (k45 : (Int32 × (Nat → Int32) × (Nat → Int32) × Int32 × Int32) → Option ((Nat → Int32) × (Nat → Int32) × Int32 × Int32)) (s : (Int32 × (Nat → Int32) × (Nat → Int32) × Int32 × Int32)) : Option ((Nat → Int32) × (Nat → Int32) × Int32 × Int32) :=
  (if q_known ≤ s.1 then some (s.2.1, s.2.2.1, s.2.2.2.1, s.2.2.2.2) else (fX4_guestAt q_bytes q_known s.1).bind (fun u3 => if chk u3 10 = true then if chk (rowOf (Int32.toNatClampNeg u3)) 10 = true then (fJ6_bitCount_0f7a4 (s.2.1 (Int32.toNatClampNeg (rowOf (Int32.toNatClampNeg u3))))).bind (fun u7 => (if p3 ≤ u7 then (if s.2.2.2.2 = (-1 : Int32) then bX2_lay_107 N q_bytes q_known rowOf p3 k45 s.1 s.2.1 s.2.2.1 s.2.2.2.1 u3 else bX2_lay_107 N q_bytes q_known rowOf p3 k45 s.1 s.2.1 s.2.2.1 s.2.2.2.1 s.2.2.2.2) else (fX2_layInFront N s.2.1 s.2.2.1 s.2.2.2.1 u3 (rowOf (Int32.toNatClampNeg u3))).bind (fun u11 => bX2_lay_107 N q_bytes q_known rowOf p3 k45 s.1 u11.1 u11.2.1 u11.2.2 s.2.2.2.2))) else none else none))
theorem tX2_lay_45  (h : OKm D c0 K RX2 cX2_lay 7 (none) (rmF 2 44) none (wX2_T_A c0 a0 a1 a2 a3 a4 a5 a6 a7 R.1 R.2.1 liftedFor takers takerCount R.2.2.1 R.2.2.2 liftedInAll q_bytes q_size q_faultAt q_known q_bits rowOf))  : ∀ (n : Nat) (s : (Int32 × (Nat → Int32) × (Nat → Int32) × Int32 × Int32)), lp (bX2_lay_45 N q_bytes q_known rowOf p3) n s = some R → WW l D K 7 45 [(0, .ref a0), (1, .ref a5), (2, .ref a7), (3, .int p3), (4, .int s.1)] [] (wX2_T_A c0 a0 a1 a2 a3 a4 a5 a6 a7 s.2.1 s.2.2.1 liftedFor takers takerCount s.2.2.2.1 s.2.2.2.2 liftedInAll q_bytes q_size q_faultAt q_known q_bits rowOf) := by
  refine lp_ind (fun k45 hk45 s hf => ?_)
  unfold bX2_lay_45 at hf
  refine r_iload (n := 47) h 4 dX2_lay_45 rfl rfl ?_
  refine r_aload_n (n := 48) h 1 dX2_lay_47 rfl rfl rfl ?_
  refine r_get (n := 51) h cf4 5 3 (v := .int q_known) fl_X2_31 rfl (by decide) rfl dX2_lay_48 rfl ?_
  refine r_icmp_ge (n := 54) h 113 dX2_lay_51 (by decide) rfl (fun hc2 => ?_) (fun hc2 => ?_)
  · have hf := h_pos hc2 hf
    have hf := Option.some.inj hf
    subst hf
    exact r_vret h dX2_lay_113
  · have hf := h_neg hc2 hf
    refine r_aload_n (n := 55) h 1 dX2_lay_54 rfl rfl rfl ?_
    refine r_iload (n := 57) h 4 dX2_lay_55 rfl rfl ?_
    obtain ⟨u3, hu4, hf⟩ := h_bind hf
    refine r_callV (n := 60) h mi_X4_guestAt mv_X4_guestAt ml_X2_36 (kX4_guestAt l D c0 a5 a6 q_bytes q_size q_faultAt q_known q_bits s.1 hu4) [5, 6] (wX2_T_A c0 a0 a1 a2 a3 a4 a5 a6 a7 s.2.1 s.2.2.1 liftedFor takers takerCount s.2.2.2.1 s.2.2.2.2 liftedInAll q_bytes q_size q_faultAt q_known q_bits rowOf) (ws := (wX2_T_A c0 a0 a1 a2 a3 a4 a5 a6 a7 s.2.1 s.2.2.1 liftedFor takers takerCount s.2.2.2.1 s.2.2.2.2 liftedInAll q_bytes q_size q_faultAt q_known q_bits rowOf)) (st := []) (st1 := [.int u3]) rfl rfl rfl rfl rfl rfl rfl rfl rfl ⟨rfl, rfl, by decide, by decide⟩ rfl rfl (Nat.le_of_ble_eq_true rfl) dX2_lay_57 rfl ?_
    refine r_istore (n := 62) h [(0, .ref a0), (1, .ref a5), (2, .ref a7), (3, .int p3), (4, .int s.1), (5, .int u3)] dX2_lay_60 (by decide) rfl rfl ?_
    refine r_aload_n (n := 63) h 2 dX2_lay_62 rfl rfl rfl ?_
    refine r_iload (n := 65) h 5 dX2_lay_63 rfl rfl ?_
    obtain ⟨hi5, hf⟩ := h_chk hf
    refine r_iald (n := 66) h 7 rfl hi5 dX2_lay_65 rfl ?_
    refine r_istore (n := 68) h [(0, .ref a0), (1, .ref a5), (2, .ref a7), (3, .int p3), (4, .int s.1), (5, .int u3), (6, .int (rowOf (Int32.toNatClampNeg u3)))] dX2_lay_66 (by decide) rfl rfl ?_
    refine r_aload_n (n := 69) h 0 dX2_lay_68 rfl rfl rfl ?_
    refine r_get (n := 72) h cf2 0 0 (v := .ref a1) fl_X2_9 rfl (by decide) rfl dX2_lay_69 rfl ?_
    refine r_iload (n := 74) h 6 dX2_lay_72 rfl rfl ?_
    obtain ⟨hi6, hf⟩ := h_chk hf
    refine r_iald (n := 75) h 1 rfl hi6 dX2_lay_74 rfl ?_
    obtain ⟨u7, hu8, hf⟩ := h_bind hf
    refine r_callS (n := 78) h mi_J6_bitCount_0f7a4 ms_J6_bitCount_0f7a4 ml_X2_40 (kJ6_bitCount_0f7a4 l D c0 (s.2.1 (Int32.toNatClampNeg (rowOf (Int32.toNatClampNeg u3)))) hu8) [] (wX2_T_A c0 a0 a1 a2 a3 a4 a5 a6 a7 s.2.1 s.2.2.1 liftedFor takers takerCount s.2.2.2.1 s.2.2.2.2 liftedInAll q_bytes q_size q_faultAt q_known q_bits rowOf) (ws := (wX2_T_A c0 a0 a1 a2 a3 a4 a5 a6 a7 s.2.1 s.2.2.1 liftedFor takers takerCount s.2.2.2.1 s.2.2.2.2 liftedInAll q_bytes q_size q_faultAt q_known q_bits rowOf)) (st := []) (st1 := [.int u7]) rfl rfl rfl rfl rfl rfl ⟨rfl, rfl, by decide, by decide⟩ rfl rfl (Nat.le_of_ble_eq_true rfl) dX2_lay_75 rfl ?_
    refine r_iload_n (n := 79) h 3 dX2_lay_78 rfl rfl rfl ?_
    refine r_icmp_ge (n := 82) h 93 dX2_lay_79 (by decide) rfl (fun hc9 => ?_) (fun hc9 => ?_)
    · have hf := h_pos hc9 hf
      refine r_aload_n (n := 94) h 0 dX2_lay_93 rfl rfl rfl ?_
      refine r_get (n := 97) h cf2 0 6 (v := .int s.2.2.2.2) fl_X2_28 rfl (by decide) rfl dX2_lay_94 rfl ?_
      refine r_iconst (n := 98) h (-1 : Int32) dX2_lay_97 (by decide) rfl ?_
      refine r_icmp_ne (n := 101) h 107 dX2_lay_98 (by decide) rfl (fun hc10 => ?_) (fun hc10 => ?_)
      · have hf := h_neg hc10 hf
        refine r_lv [0, 1, 2, 3, 4] (lv' := [(0, .ref a0), (1, .ref a5), (2, .ref a7), (3, .int p3), (4, .int s.1)]) rfl ?_
        exact tX2_lay_107 h hk45 s.1 s.2.1 s.2.2.1 s.2.2.2.1 s.2.2.2.2 hf
      · have hf := h_pos hc10 hf
        refine r_aload_n (n := 102) h 0 dX2_lay_101 rfl rfl rfl ?_
        refine r_iload (n := 104) h 5 dX2_lay_102 rfl rfl ?_
        refine r_put (n := 107) h cf2 0 6 (wX2_T_A c0 a0 a1 a2 a3 a4 a5 a6 a7 s.2.1 s.2.2.1 liftedFor takers takerCount s.2.2.2.1 u3 liftedInAll q_bytes q_size q_faultAt q_known q_bits rowOf) fl_X2_28 rfl (by decide) rfl rfl rfl (Nat.le_of_ble_eq_true rfl) rfl dX2_lay_104 rfl ?_
        refine r_lv [0, 1, 2, 3, 4] (lv' := [(0, .ref a0), (1, .ref a5), (2, .ref a7), (3, .int p3), (4, .int s.1)]) rfl ?_
        exact tX2_lay_107 h hk45 s.1 s.2.1 s.2.2.1 s.2.2.2.1 u3 hf
    · have hf := h_neg hc9 hf
      refine r_aload_n (n := 83) h 0 dX2_lay_82 rfl rfl rfl ?_
      refine r_iload (n := 85) h 5 dX2_lay_83 rfl rfl ?_
      refine r_iload (n := 87) h 6 dX2_lay_85 rfl rfl ?_
      obtain ⟨u11, hu12, hf⟩ := h_bind hf
      refine r_callV (n := 90) h mi_X2_layInFront mv_X2_layInFront ml_X2_45 (kX2_layInFront l D c0 a0 a1 a2 a3 a4 s.2.1 s.2.2.1 liftedFor takers takerCount s.2.2.2.1 s.2.2.2.2 liftedInAll u3 (rowOf (Int32.toNatClampNeg u3)) hu12) [0, 1, 2, 3, 4] (wX2_T_A c0 a0 a1 a2 a3 a4 a5 a6 a7 u11.1 u11.2.1 liftedFor takers takerCount u11.2.2 s.2.2.2.2 liftedInAll q_bytes q_size q_faultAt q_known q_bits rowOf) (ws := (wX2_T_A c0 a0 a1 a2 a3 a4 a5 a6 a7 s.2.1 s.2.2.1 liftedFor takers takerCount s.2.2.2.1 s.2.2.2.2 liftedInAll q_bytes q_size q_faultAt q_known q_bits rowOf)) (st := []) (st1 := []) rfl rfl rfl rfl rfl rfl rfl rfl rfl ⟨rfl, rfl, by decide, by decide⟩ rfl rfl (Nat.le_of_ble_eq_true rfl) dX2_lay_87 rfl ?_
      refine r_goto h 107 dX2_lay_90 (by decide) ?_
      refine r_lv [0, 1, 2, 3, 4] (lv' := [(0, .ref a0), (1, .ref a5), (2, .ref a7), (3, .int p3), (4, .int s.1)]) rfl ?_
      exact tX2_lay_107 h hk45 s.1 u11.1 u11.2.1 u11.2.2 s.2.2.2.2 hf
def bX2_lay_3 (N : Nat) (q_bytes : Nat → Int32) (q_known : Int32) (rowOf : Nat → Int32) (p3 : Int32) (laid : Int32) (judgedGuest : Int32) (k3 : (Int32 × (Nat → Int32) × (Nat → Int32)) → Option ((Nat → Int32) × (Nat → Int32) × Int32 × Int32)) (s : (Int32 × (Nat → Int32) × (Nat → Int32))) : Option ((Nat → Int32) × (Nat → Int32) × Int32 × Int32) :=
  (if (10 : Int32) ≤ s.1 then lp (bX2_lay_45 N q_bytes q_known rowOf p3) N ((0 : Int32), s.2.1, s.2.2, (0 : Int32), (-1 : Int32)) else if chk s.1 10 = true then if chk s.1 10 = true then k3 ((s.1 + (1 : Int32)), (upd s.2.1 (Int32.toNatClampNeg s.1) (0 : Int32)), (upd s.2.2 (Int32.toNatClampNeg s.1) (0 : Int32))) else none else none)
theorem tX2_lay_3 {laid : Int32} {judgedGuest : Int32} (h : OKm D c0 K RX2 cX2_lay 7 (none) (rmF 2 44) none (wX2_T_A c0 a0 a1 a2 a3 a4 a5 a6 a7 R.1 R.2.1 liftedFor takers takerCount R.2.2.1 R.2.2.2 liftedInAll q_bytes q_size q_faultAt q_known q_bits rowOf))  : ∀ (n : Nat) (s : (Int32 × (Nat → Int32) × (Nat → Int32))), lp (bX2_lay_3 N q_bytes q_known rowOf p3 laid judgedGuest) n s = some R → WW l D K 7 3 [(0, .ref a0), (1, .ref a5), (2, .ref a7), (3, .int p3), (4, .int s.1)] [] (wX2_T_A c0 a0 a1 a2 a3 a4 a5 a6 a7 s.2.1 s.2.2 liftedFor takers takerCount laid judgedGuest liftedInAll q_bytes q_size q_faultAt q_known q_bits rowOf) := by
  refine lp_ind (fun k3 hk3 s hf => ?_)
  unfold bX2_lay_3 at hf
  refine r_iload (n := 5) h 4 dX2_lay_3 rfl rfl ?_
  refine r_bipush (n := 7) h (10 : Int32) dX2_lay_5 (by decide) rfl ?_
  refine r_icmp_ge (n := 10) h 32 dX2_lay_7 (by decide) rfl (fun hc1 => ?_) (fun hc1 => ?_)
  · have hf := h_pos hc1 hf
    refine r_aload_n (n := 33) h 0 dX2_lay_32 rfl rfl rfl ?_
    refine r_iconst (n := 34) h (0 : Int32) dX2_lay_33 (by decide) rfl ?_
    refine r_put (n := 37) h cf2 0 5 (wX2_T_A c0 a0 a1 a2 a3 a4 a5 a6 a7 s.2.1 s.2.2 liftedFor takers takerCount (0 : Int32) judgedGuest liftedInAll q_bytes q_size q_faultAt q_known q_bits rowOf) fl_X2_24 rfl (by decide) rfl rfl rfl (Nat.le_of_ble_eq_true rfl) rfl dX2_lay_34 rfl ?_
    refine r_aload_n (n := 38) h 0 dX2_lay_37 rfl rfl rfl ?_
    refine r_iconst (n := 39) h (-1 : Int32) dX2_lay_38 (by decide) rfl ?_
    refine r_put (n := 42) h cf2 0 6 (wX2_T_A c0 a0 a1 a2 a3 a4 a5 a6 a7 s.2.1 s.2.2 liftedFor takers takerCount (0 : Int32) (-1 : Int32) liftedInAll q_bytes q_size q_faultAt q_known q_bits rowOf) fl_X2_28 rfl (by decide) rfl rfl rfl (Nat.le_of_ble_eq_true rfl) rfl dX2_lay_39 rfl ?_
    refine r_iconst (n := 43) h (0 : Int32) dX2_lay_42 (by decide) rfl ?_
    refine r_istore (n := 45) h [(0, .ref a0), (1, .ref a5), (2, .ref a7), (3, .int p3), (4, .int (0 : Int32))] dX2_lay_43 (by decide) rfl rfl ?_
    exact tX2_lay_45 h  N ((0 : Int32), s.2.1, s.2.2, (0 : Int32), (-1 : Int32)) hf
  · have hf := h_neg hc1 hf
    refine r_aload_n (n := 11) h 0 dX2_lay_10 rfl rfl rfl ?_
    refine r_get (n := 14) h cf2 0 0 (v := .ref a1) fl_X2_9 rfl (by decide) rfl dX2_lay_11 rfl ?_
    refine r_iload (n := 16) h 4 dX2_lay_14 rfl rfl ?_
    refine r_iconst (n := 17) h (0 : Int32) dX2_lay_16 (by decide) rfl ?_
    obtain ⟨hi13, hf⟩ := h_chk hf
    refine r_iast (n := 18) h 1 (wX2_T_A c0 a0 a1 a2 a3 a4 a5 a6 a7 (upd s.2.1 (Int32.toNatClampNeg s.1) (0 : Int32)) s.2.2 liftedFor takers takerCount laid judgedGuest liftedInAll q_bytes q_size q_faultAt q_known q_bits rowOf) rfl hi13 rfl dX2_lay_17 rfl ?_
    refine r_aload_n (n := 19) h 0 dX2_lay_18 rfl rfl rfl ?_
    refine r_get (n := 22) h cf2 0 1 (v := .ref a2) fl_X2_15 rfl (by decide) rfl dX2_lay_19 rfl ?_
    refine r_iload (n := 24) h 4 dX2_lay_22 rfl rfl ?_
    refine r_iconst (n := 25) h (0 : Int32) dX2_lay_24 (by decide) rfl ?_
    obtain ⟨hi14, hf⟩ := h_chk hf
    refine r_iast (n := 26) h 2 (wX2_T_A c0 a0 a1 a2 a3 a4 a5 a6 a7 (upd s.2.1 (Int32.toNatClampNeg s.1) (0 : Int32)) (upd s.2.2 (Int32.toNatClampNeg s.1) (0 : Int32)) liftedFor takers takerCount laid judgedGuest liftedInAll q_bytes q_size q_faultAt q_known q_bits rowOf) rfl hi14 rfl dX2_lay_25 rfl ?_
    refine r_iinc (n := 29) h 4 (s.1 + (1 : Int32)) [(0, .ref a0), (1, .ref a5), (2, .ref a7), (3, .int p3), (4, .int (s.1 + (1 : Int32)))] dX2_lay_26 rfl rfl (by decide) rfl rfl ?_
    refine r_goto h 3 dX2_lay_29 (by decide) ?_
    exact hk3 ((s.1 + (1 : Int32)), (upd s.2.1 (Int32.toNatClampNeg s.1) (0 : Int32)), (upd s.2.2 (Int32.toNatClampNeg s.1) (0 : Int32))) hf
def fX2_lay (N : Nat) (inRow inFrontOf : Nat → Int32) (laid judgedGuest : Int32) (q_bytes : Nat → Int32) (q_known : Int32) (rowOf : Nat → Int32) (p3 : Int32) : Option ((Nat → Int32) × (Nat → Int32) × Int32 × Int32) :=
  lp (bX2_lay_3 N q_bytes q_known rowOf p3 laid judgedGuest) N ((0 : Int32), inRow, inFrontOf)
theorem kX2_lay (l : Launch) (D : va_G) (c0 : Nat → ClassId) (a0 a1 a2 a3 a4 a5 a6 a7 : Nat) (inRow inFrontOf liftedFor takers : Nat → Int32) (takerCount laid judgedGuest liftedInAll : Int32) (q_bytes : Nat → Int32) (q_size q_faultAt q_known q_bits : Int32) (rowOf : Nat → Int32) (p3 : Int32) {N : Nat} {R : ((Nat → Int32) × (Nat → Int32) × Int32 × Int32)} (hf : fX2_lay N inRow inFrontOf laid judgedGuest q_bytes q_known rowOf p3 = some R) : Ct l D c0 yX2_lay cX2_lay 7 (none) (rmF 2 44) [.ref a0, .ref a5, .ref a7, .int p3] (wX2_T_A c0 a0 a1 a2 a3 a4 a5 a6 a7 inRow inFrontOf liftedFor takers takerCount laid judgedGuest liftedInAll q_bytes q_size q_faultAt q_known q_bits rowOf) none (wX2_T_A c0 a0 a1 a2 a3 a4 a5 a6 a7 R.1 R.2.1 liftedFor takers takerCount R.2.2.1 R.2.2.2 liftedInAll q_bytes q_size q_faultAt q_known q_bits rowOf) := by
  refine Ct.mk (own := RX2) [(0, .ref a0), (1, .ref a5), (2, .ref a7), (3, .int p3)] rfl pl_X2 rfl (Nat.le_of_ble_eq_true rfl) (fun K h  => ?_)
  unfold fX2_lay at hf
  refine r_iconst (n := 1) h (0 : Int32) dX2_lay_0 (by decide) rfl ?_
  refine r_istore (n := 3) h [(0, .ref a0), (1, .ref a5), (2, .ref a7), (3, .int p3), (4, .int (0 : Int32))] dX2_lay_1 (by decide) rfl rfl ?_
  exact tX2_lay_3 h  N ((0 : Int32), inRow, inFrontOf) hf
end
section
variable {l : Launch} {D : va_G} {c0 : Nat → ClassId} {K : KT} {N : Nat} {R : Int32} {a0 a1 a2 a3 a4 : Nat} {inRow inFrontOf liftedFor takers : Nat → Int32} {takerCount laid judgedGuest liftedInAll : Int32} {p1 : Int32} {p2 : Int32}
def fX2_liftedAmong (inFrontOf : Nat → Int32) (p1 : Int32) (p2 : Int32) : Option Int32 :=
  (fX6_has p2 p1).bind (fun u1 => (if u1 = 0 then some (0 : Int32) else if chk p1 10 = true then (fJ6_bitCount_0f7a4 ((inFrontOf (Int32.toNatClampNeg p1)) &&& p2)).bind (fun u5 => some u5) else none))
theorem kX2_liftedAmong (l : Launch) (D : va_G) (c0 : Nat → ClassId) (a0 a1 a2 a3 a4 : Nat) (inRow inFrontOf liftedFor takers : Nat → Int32) (takerCount laid judgedGuest liftedInAll : Int32) (p1 : Int32) (p2 : Int32) {R : Int32} (hf : fX2_liftedAmong inFrontOf p1 p2 = some R) : Ct l D c0 yX2_liftedAmong cX2_liftedAmong 3 (some .int) (rmF 1 21) [.ref a0, .int p1, .int p2] (wX2 c0 a0 a1 a2 a3 a4 inRow inFrontOf liftedFor takers takerCount laid judgedGuest liftedInAll) (some (.int R)) (wX2 c0 a0 a1 a2 a3 a4 inRow inFrontOf liftedFor takers takerCount laid judgedGuest liftedInAll) := by
  refine Ct.mk (own := RX2) [(0, .ref a0), (1, .int p1), (2, .int p2)] rfl pl_X2 rfl (Nat.le_of_ble_eq_true rfl) (fun K h  => ?_)
  unfold fX2_liftedAmong at hf
  refine r_iload_n (n := 1) h 2 dX2_liftedAmong_0 rfl rfl rfl ?_
  refine r_iload_n (n := 2) h 1 dX2_liftedAmong_1 rfl rfl rfl ?_
  obtain ⟨u1, hu2, hf⟩ := h_bind hf
  refine r_callN (n := 5) h mi_X6_has ms_X6_has mn_X2_49 (kX6_has l D c0 p2 p1 hu2) [] (wX2 c0 a0 a1 a2 a3 a4 inRow inFrontOf liftedFor takers takerCount laid judgedGuest liftedInAll) (ws := (wX2 c0 a0 a1 a2 a3 a4 inRow inFrontOf liftedFor takers takerCount laid judgedGuest liftedInAll)) (st := []) (st1 := [.int u1]) rfl rfl rfl rfl rfl rfl ⟨rfl, rfl, by decide, by decide⟩ rfl rfl (Nat.le_of_ble_eq_true rfl) dX2_liftedAmong_2 rfl ?_
  refine r_if_eq (n := 8) h 22 dX2_liftedAmong_5 (by decide) rfl (fun hc3 => ?_) (fun hc3 => ?_)
  · have hf := h_pos hc3 hf
    refine r_iconst (n := 23) h (0 : Int32) dX2_liftedAmong_22 (by decide) rfl ?_
    have hf := Option.some.inj hf
    subst hf
    exact r_iret h dX2_liftedAmong_23
  · have hf := h_neg hc3 hf
    refine r_aload_n (n := 9) h 0 dX2_liftedAmong_8 rfl rfl rfl ?_
    refine r_get (n := 12) h cf2 0 1 (v := .ref a2) fl_X2_15 rfl (by decide) rfl dX2_liftedAmong_9 rfl ?_
    refine r_iload_n (n := 13) h 1 dX2_liftedAmong_12 rfl rfl rfl ?_
    obtain ⟨hi4, hf⟩ := h_chk hf
    refine r_iald (n := 14) h 2 rfl hi4 dX2_liftedAmong_13 rfl ?_
    refine r_iload_n (n := 15) h 2 dX2_liftedAmong_14 rfl rfl rfl ?_
    refine r_iand (n := 16) h dX2_liftedAmong_15 rfl ?_
    obtain ⟨u5, hu6, hf⟩ := h_bind hf
    refine r_callS (n := 19) h mi_J6_bitCount_0f7a4 ms_J6_bitCount_0f7a4 ml_X2_40 (kJ6_bitCount_0f7a4 l D c0 ((inFrontOf (Int32.toNatClampNeg p1)) &&& p2) hu6) [] (wX2 c0 a0 a1 a2 a3 a4 inRow inFrontOf liftedFor takers takerCount laid judgedGuest liftedInAll) (ws := (wX2 c0 a0 a1 a2 a3 a4 inRow inFrontOf liftedFor takers takerCount laid judgedGuest liftedInAll)) (st := []) (st1 := [.int u5]) rfl rfl rfl rfl rfl rfl ⟨rfl, rfl, by decide, by decide⟩ rfl rfl (Nat.le_of_ble_eq_true rfl) dX2_liftedAmong_16 rfl ?_
    refine r_goto h 23 dX2_liftedAmong_19 (by decide) ?_
    have hf := Option.some.inj hf
    subst hf
    exact r_iret h dX2_liftedAmong_23
end
section
variable {l : Launch} {D : va_G} {c0 : Nat → ClassId} {K : KT} {N : Nat} {R : ((Nat → Int32) × (Nat → Int32) × Int32 × Int32)} {a0 a1 a2 a3 a4 a5 a6 : Nat} {inRow inFrontOf liftedFor takers : Nat → Int32} {takerCount laid judgedGuest liftedInAll : Int32} {q_bytes : Nat → Int32} {q_size q_faultAt q_known q_bits : Int32}
def bX2_letGo_127 (N : Nat) (inFrontOf : Nat → Int32) (laid : Int32) (q_bytes : Nat → Int32) (q_known : Int32) (k39 : (Int32 × Int32 × (Nat → Int32) × (Nat → Int32) × Int32 × Int32) → Option ((Nat → Int32) × (Nat → Int32) × Int32 × Int32)) (v2 : Int32) (v3 : Int32) (liftedFor : Nat → Int32) (takers : Nat → Int32) (takerCount : Int32) (liftedInAll : Int32) : Option ((Nat → Int32) × (Nat → Int32) × Int32 × Int32) :=
  k39 (v2, (v3 + (1 : Int32)), liftedFor, takers, takerCount, liftedInAll)
theorem tX2_letGo_127 {k39 : (Int32 × Int32 × (Nat → Int32) × (Nat → Int32) × Int32 × Int32) → Option ((Nat → Int32) × (Nat → Int32) × Int32 × Int32)} (h : OKm D c0 K RX2 cX2_letGo 5 (none) (rmF 2 43) none (wX2_T c0 a0 a1 a2 a3 a4 a5 a6 inRow inFrontOf R.1 R.2.1 R.2.2.1 laid judgedGuest R.2.2.2 q_bytes q_size q_faultAt q_known q_bits))  (hk39 : ∀ s : (Int32 × Int32 × (Nat → Int32) × (Nat → Int32) × Int32 × Int32), k39 s = some R → WW l D K 5 39 [(0, .ref a0), (1, .ref a5), (2, .int s.1), (3, .int s.2.1)] [] (wX2_T c0 a0 a1 a2 a3 a4 a5 a6 inRow inFrontOf s.2.2.1 s.2.2.2.1 s.2.2.2.2.1 laid judgedGuest s.2.2.2.2.2 q_bytes q_size q_faultAt q_known q_bits)) (v2 : Int32) (v3 : Int32) (liftedFor : Nat → Int32) (takers : Nat → Int32) (takerCount : Int32) (liftedInAll : Int32) (hf : bX2_letGo_127 N inFrontOf laid q_bytes q_known k39 v2 v3 liftedFor takers takerCount liftedInAll = some R) : WW l D K 5 127 [(0, .ref a0), (1, .ref a5), (2, .int v2), (3, .int v3)] [] (wX2_T c0 a0 a1 a2 a3 a4 a5 a6 inRow inFrontOf liftedFor takers takerCount laid judgedGuest liftedInAll q_bytes q_size q_faultAt q_known q_bits) := by
  unfold bX2_letGo_127 at hf
  refine r_iinc (n := 130) h 3 (v3 + (1 : Int32)) [(0, .ref a0), (1, .ref a5), (2, .int v2), (3, .int (v3 + (1 : Int32)))] dX2_letGo_127 rfl rfl (by decide) rfl rfl ?_
  refine r_goto h 39 dX2_letGo_130 (by decide) ?_
  exact hk39 (v2, (v3 + (1 : Int32)), liftedFor, takers, takerCount, liftedInAll) hf
def bX2_letGo_39 (N : Nat) (inFrontOf : Nat → Int32) (laid : Int32) (q_bytes : Nat → Int32) (q_known : Int32) (k39 : (Int32 × Int32 × (Nat → Int32) × (Nat → Int32) × Int32 × Int32) → Option ((Nat → Int32) × (Nat → Int32) × Int32 × Int32)) (s : (Int32 × Int32 × (Nat → Int32) × (Nat → Int32) × Int32 × Int32)) : Option ((Nat → Int32) × (Nat → Int32) × Int32 × Int32) :=
  (if q_known ≤ s.2.1 then some (s.2.2.1, s.2.2.2.1, s.2.2.2.2.1, s.2.2.2.2.2) else (fX4_guestAt q_bytes q_known s.2.1).bind (fun u3 => (fX6_has laid u3).bind (fun u5 => (if u5 = 0 then bX2_letGo_127 N inFrontOf laid q_bytes q_known k39 s.1 s.2.1 s.2.2.1 s.2.2.2.1 s.2.2.2.2.1 s.2.2.2.2.2 else (fX2_liftedAmong inFrontOf u3 s.1).bind (fun u8 => if chk u3 10 = true then if chk u3 10 = true then nm (s.2.2.2.2.2 + ((upd s.2.2.1 (Int32.toNatClampNeg u3) u8) (Int32.toNatClampNeg u3))) (fun y12 => if chk s.2.2.2.2.1 10 = true then (fX6_bit u3).bind (fun u14 => bX2_letGo_127 N inFrontOf laid q_bytes q_known k39 (s.1 &&& (u14 ^^^ (-1 : Int32))) s.2.1 (upd s.2.2.1 (Int32.toNatClampNeg u3) u8) (upd s.2.2.2.1 (Int32.toNatClampNeg s.2.2.2.2.1) u3) (s.2.2.2.2.1 + (1 : Int32)) y12) else none) else none else none)))))
theorem tX2_letGo_39  (h : OKm D c0 K RX2 cX2_letGo 5 (none) (rmF 2 43) none (wX2_T c0 a0 a1 a2 a3 a4 a5 a6 inRow inFrontOf R.1 R.2.1 R.2.2.1 laid judgedGuest R.2.2.2 q_bytes q_size q_faultAt q_known q_bits))  : ∀ (n : Nat) (s : (Int32 × Int32 × (Nat → Int32) × (Nat → Int32) × Int32 × Int32)), lp (bX2_letGo_39 N inFrontOf laid q_bytes q_known) n s = some R → WW l D K 5 39 [(0, .ref a0), (1, .ref a5), (2, .int s.1), (3, .int s.2.1)] [] (wX2_T c0 a0 a1 a2 a3 a4 a5 a6 inRow inFrontOf s.2.2.1 s.2.2.2.1 s.2.2.2.2.1 laid judgedGuest s.2.2.2.2.2 q_bytes q_size q_faultAt q_known q_bits) := by
  refine lp_ind (fun k39 hk39 s hf => ?_)
  unfold bX2_letGo_39 at hf
  refine r_iload_n (n := 40) h 3 dX2_letGo_39 rfl rfl rfl ?_
  refine r_aload_n (n := 41) h 1 dX2_letGo_40 rfl rfl rfl ?_
  refine r_get (n := 44) h cf4 5 3 (v := .int q_known) fl_X2_31 rfl (by decide) rfl dX2_letGo_41 rfl ?_
  refine r_icmp_ge (n := 47) h 133 dX2_letGo_44 (by decide) rfl (fun hc2 => ?_) (fun hc2 => ?_)
  · have hf := h_pos hc2 hf
    have hf := Option.some.inj hf
    subst hf
    exact r_vret h dX2_letGo_133
  · have hf := h_neg hc2 hf
    refine r_aload_n (n := 48) h 1 dX2_letGo_47 rfl rfl rfl ?_
    refine r_iload_n (n := 49) h 3 dX2_letGo_48 rfl rfl rfl ?_
    obtain ⟨u3, hu4, hf⟩ := h_bind hf
    refine r_callV (n := 52) h mi_X4_guestAt mv_X4_guestAt ml_X2_36 (kX4_guestAt l D c0 a5 a6 q_bytes q_size q_faultAt q_known q_bits s.2.1 hu4) [5, 6] (wX2_T c0 a0 a1 a2 a3 a4 a5 a6 inRow inFrontOf s.2.2.1 s.2.2.2.1 s.2.2.2.2.1 laid judgedGuest s.2.2.2.2.2 q_bytes q_size q_faultAt q_known q_bits) (ws := (wX2_T c0 a0 a1 a2 a3 a4 a5 a6 inRow inFrontOf s.2.2.1 s.2.2.2.1 s.2.2.2.2.1 laid judgedGuest s.2.2.2.2.2 q_bytes q_size q_faultAt q_known q_bits)) (st := []) (st1 := [.int u3]) rfl rfl rfl rfl rfl rfl rfl rfl rfl ⟨rfl, rfl, by decide, by decide⟩ rfl rfl (Nat.le_of_ble_eq_true rfl) dX2_letGo_49 rfl ?_
    refine r_istore (n := 54) h [(0, .ref a0), (1, .ref a5), (2, .int s.1), (3, .int s.2.1), (4, .int u3)] dX2_letGo_52 (by decide) rfl rfl ?_
    refine r_aload_n (n := 55) h 0 dX2_letGo_54 rfl rfl rfl ?_
    refine r_get (n := 58) h cf2 0 5 (v := .int laid) fl_X2_24 rfl (by decide) rfl dX2_letGo_55 rfl ?_
    refine r_iload (n := 60) h 4 dX2_letGo_58 rfl rfl ?_
    obtain ⟨u5, hu6, hf⟩ := h_bind hf
    refine r_callN (n := 63) h mi_X6_has ms_X6_has mn_X2_49 (kX6_has l D c0 laid u3 hu6) [] (wX2_T c0 a0 a1 a2 a3 a4 a5 a6 inRow inFrontOf s.2.2.1 s.2.2.2.1 s.2.2.2.2.1 laid judgedGuest s.2.2.2.2.2 q_bytes q_size q_faultAt q_known q_bits) (ws := (wX2_T c0 a0 a1 a2 a3 a4 a5 a6 inRow inFrontOf s.2.2.1 s.2.2.2.1 s.2.2.2.2.1 laid judgedGuest s.2.2.2.2.2 q_bytes q_size q_faultAt q_known q_bits)) (st := []) (st1 := [.int u5]) rfl rfl rfl rfl rfl rfl ⟨rfl, rfl, by decide, by decide⟩ rfl rfl (Nat.le_of_ble_eq_true rfl) dX2_letGo_60 rfl ?_
    refine r_if_eq (n := 66) h 127 dX2_letGo_63 (by decide) rfl (fun hc7 => ?_) (fun hc7 => ?_)
    · have hf := h_pos hc7 hf
      refine r_lv [0, 1, 2, 3] (lv' := [(0, .ref a0), (1, .ref a5), (2, .int s.1), (3, .int s.2.1)]) rfl ?_
      exact tX2_letGo_127 h hk39 s.1 s.2.1 s.2.2.1 s.2.2.2.1 s.2.2.2.2.1 s.2.2.2.2.2 hf
    · have hf := h_neg hc7 hf
      refine r_aload_n (n := 67) h 0 dX2_letGo_66 rfl rfl rfl ?_
      refine r_get (n := 70) h cf2 0 2 (v := .ref a3) fl_X2_18 rfl (by decide) rfl dX2_letGo_67 rfl ?_
      refine r_iload (n := 72) h 4 dX2_letGo_70 rfl rfl ?_
      refine r_aload_n (n := 73) h 0 dX2_letGo_72 rfl rfl rfl ?_
      refine r_iload (n := 75) h 4 dX2_letGo_73 rfl rfl ?_
      refine r_iload_n (n := 76) h 2 dX2_letGo_75 rfl rfl rfl ?_
      obtain ⟨u8, hu9, hf⟩ := h_bind hf
      refine r_callV (n := 79) h mi_X2_liftedAmong mv_X2_liftedAmong ml_X2_62 (kX2_liftedAmong l D c0 a0 a1 a2 a3 a4 inRow inFrontOf s.2.2.1 s.2.2.2.1 s.2.2.2.2.1 laid judgedGuest s.2.2.2.2.2 u3 s.1 hu9) [0, 1, 2, 3, 4] (wX2_T c0 a0 a1 a2 a3 a4 a5 a6 inRow inFrontOf s.2.2.1 s.2.2.2.1 s.2.2.2.2.1 laid judgedGuest s.2.2.2.2.2 q_bytes q_size q_faultAt q_known q_bits) (ws := (wX2_T c0 a0 a1 a2 a3 a4 a5 a6 inRow inFrontOf s.2.2.1 s.2.2.2.1 s.2.2.2.2.1 laid judgedGuest s.2.2.2.2.2 q_bytes q_size q_faultAt q_known q_bits)) (st := [.int u3, .ref a3]) (st1 := [.int u8, .int u3, .ref a3]) rfl rfl rfl rfl rfl rfl rfl rfl rfl ⟨rfl, rfl, by decide, by decide⟩ rfl rfl (Nat.le_of_ble_eq_true rfl) dX2_letGo_76 rfl ?_
      obtain ⟨hi10, hf⟩ := h_chk hf
      refine r_iast (n := 80) h 3 (wX2_T c0 a0 a1 a2 a3 a4 a5 a6 inRow inFrontOf (upd s.2.2.1 (Int32.toNatClampNeg u3) u8) s.2.2.2.1 s.2.2.2.2.1 laid judgedGuest s.2.2.2.2.2 q_bytes q_size q_faultAt q_known q_bits) rfl hi10 rfl dX2_letGo_79 rfl ?_
      refine r_aload_n (n := 81) h 0 dX2_letGo_80 rfl rfl rfl ?_
      refine r_dup (n := 82) h dX2_letGo_81 rfl rfl ?_
      refine r_get (n := 85) h cf2 0 7 (v := .int s.2.2.2.2.2) fl_X2_59 rfl (by decide) rfl dX2_letGo_82 rfl ?_
      refine r_aload_n (n := 86) h 0 dX2_letGo_85 rfl rfl rfl ?_
      refine r_get (n := 89) h cf2 0 2 (v := .ref a3) fl_X2_18 rfl (by decide) rfl dX2_letGo_86 rfl ?_
      refine r_iload (n := 91) h 4 dX2_letGo_89 rfl rfl ?_
      obtain ⟨hi11, hf⟩ := h_chk hf
      refine r_iald (n := 92) h 3 rfl hi11 dX2_letGo_91 rfl ?_
      refine r_iadd (n := 93) h dX2_letGo_92 rfl ?_
      refine r_nmi hf (fun y12 hf => ?_)
      refine r_put (n := 96) h cf2 0 7 (wX2_T c0 a0 a1 a2 a3 a4 a5 a6 inRow inFrontOf (upd s.2.2.1 (Int32.toNatClampNeg u3) u8) s.2.2.2.1 s.2.2.2.2.1 laid judgedGuest y12 q_bytes q_size q_faultAt q_known q_bits) fl_X2_59 rfl (by decide) rfl rfl rfl (Nat.le_of_ble_eq_true rfl) rfl dX2_letGo_93 rfl ?_
      refine r_aload_n (n := 97) h 0 dX2_letGo_96 rfl rfl rfl ?_
      refine r_get (n := 100) h cf2 0 3 (v := .ref a4) fl_X2_21 rfl (by decide) rfl dX2_letGo_97 rfl ?_
      refine r_aload_n (n := 101) h 0 dX2_letGo_100 rfl rfl rfl ?_
      refine r_get (n := 104) h cf2 0 4 (v := .int s.2.2.2.2.1) fl_X2_56 rfl (by decide) rfl dX2_letGo_101 rfl ?_
      refine r_iload (n := 106) h 4 dX2_letGo_104 rfl rfl ?_
      obtain ⟨hi13, hf⟩ := h_chk hf
      refine r_iast (n := 107) h 4 (wX2_T c0 a0 a1 a2 a3 a4 a5 a6 inRow inFrontOf (upd s.2.2.1 (Int32.toNatClampNeg u3) u8) (upd s.2.2.2.1 (Int32.toNatClampNeg s.2.2.2.2.1) u3) s.2.2.2.2.1 laid judgedGuest y12 q_bytes q_size q_faultAt q_known q_bits) rfl hi13 rfl dX2_letGo_106 rfl ?_
      refine r_aload_n (n := 108) h 0 dX2_letGo_107 rfl rfl rfl ?_
      refine r_dup (n := 109) h dX2_letGo_108 rfl rfl ?_
      refine r_get (n := 112) h cf2 0 4 (v := .int s.2.2.2.2.1) fl_X2_56 rfl (by decide) rfl dX2_letGo_109 rfl ?_
      refine r_iconst (n := 113) h (1 : Int32) dX2_letGo_112 (by decide) rfl ?_
      refine r_iadd (n := 114) h dX2_letGo_113 rfl ?_
      refine r_put (n := 117) h cf2 0 4 (wX2_T c0 a0 a1 a2 a3 a4 a5 a6 inRow inFrontOf (upd s.2.2.1 (Int32.toNatClampNeg u3) u8) (upd s.2.2.2.1 (Int32.toNatClampNeg s.2.2.2.2.1) u3) (s.2.2.2.2.1 + (1 : Int32)) laid judgedGuest y12 q_bytes q_size q_faultAt q_known q_bits) fl_X2_56 rfl (by decide) rfl rfl rfl (Nat.le_of_ble_eq_true rfl) rfl dX2_letGo_114 rfl ?_
      refine r_iload_n (n := 118) h 2 dX2_letGo_117 rfl rfl rfl ?_
      refine r_iload (n := 120) h 4 dX2_letGo_118 rfl rfl ?_
      obtain ⟨u14, hu15, hf⟩ := h_bind hf
      refine r_callN (n := 123) h mi_X6_bit ms_X6_bit mn_X2_53 (kX6_bit l D c0 u3 hu15) [] (wX2_T c0 a0 a1 a2 a3 a4 a5 a6 inRow inFrontOf (upd s.2.2.1 (Int32.toNatClampNeg u3) u8) (upd s.2.2.2.1 (Int32.toNatClampNeg s.2.2.2.2.1) u3) (s.2.2.2.2.1 + (1 : Int32)) laid judgedGuest y12 q_bytes q_size q_faultAt q_known q_bits) (ws := (wX2_T c0 a0 a1 a2 a3 a4 a5 a6 inRow inFrontOf (upd s.2.2.1 (Int32.toNatClampNeg u3) u8) (upd s.2.2.2.1 (Int32.toNatClampNeg s.2.2.2.2.1) u3) (s.2.2.2.2.1 + (1 : Int32)) laid judgedGuest y12 q_bytes q_size q_faultAt q_known q_bits)) (st := [.int s.1]) (st1 := [.int u14, .int s.1]) rfl rfl rfl rfl rfl rfl ⟨rfl, rfl, by decide, by decide⟩ rfl rfl (Nat.le_of_ble_eq_true rfl) dX2_letGo_120 rfl ?_
      refine r_iconst (n := 124) h (-1 : Int32) dX2_letGo_123 (by decide) rfl ?_
      refine r_ixor (n := 125) h dX2_letGo_124 rfl ?_
      refine r_iand (n := 126) h dX2_letGo_125 rfl ?_
      refine r_istore_n (n := 127) h [(0, .ref a0), (1, .ref a5), (2, .int (s.1 &&& (u14 ^^^ (-1 : Int32)))), (3, .int s.2.1), (4, .int u3)] dX2_letGo_126 rfl (by decide) rfl rfl ?_
      refine r_lv [0, 1, 2, 3] (lv' := [(0, .ref a0), (1, .ref a5), (2, .int (s.1 &&& (u14 ^^^ (-1 : Int32)))), (3, .int s.2.1)]) rfl ?_
      exact tX2_letGo_127 h hk39 (s.1 &&& (u14 ^^^ (-1 : Int32))) s.2.1 (upd s.2.2.1 (Int32.toNatClampNeg u3) u8) (upd s.2.2.2.1 (Int32.toNatClampNeg s.2.2.2.2.1) u3) (s.2.2.2.2.1 + (1 : Int32)) y12 hf
def bX2_letGo_2 (N : Nat) (inFrontOf : Nat → Int32) (laid : Int32) (q_bytes : Nat → Int32) (q_known : Int32) (takers : Nat → Int32) (takerCount : Int32) (liftedInAll : Int32) (k2 : (Int32 × (Nat → Int32)) → Option ((Nat → Int32) × (Nat → Int32) × Int32 × Int32)) (s : (Int32 × (Nat → Int32))) : Option ((Nat → Int32) × (Nat → Int32) × Int32 × Int32) :=
  (if (10 : Int32) ≤ s.1 then lp (bX2_letGo_39 N inFrontOf laid q_bytes q_known) N (laid, (0 : Int32), s.2, takers, (0 : Int32), (0 : Int32)) else if chk s.1 10 = true then k2 ((s.1 + (1 : Int32)), (upd s.2 (Int32.toNatClampNeg s.1) (-3 : Int32))) else none)
theorem tX2_letGo_2 {takers : Nat → Int32} {takerCount : Int32} {liftedInAll : Int32} (h : OKm D c0 K RX2 cX2_letGo 5 (none) (rmF 2 43) none (wX2_T c0 a0 a1 a2 a3 a4 a5 a6 inRow inFrontOf R.1 R.2.1 R.2.2.1 laid judgedGuest R.2.2.2 q_bytes q_size q_faultAt q_known q_bits))  : ∀ (n : Nat) (s : (Int32 × (Nat → Int32))), lp (bX2_letGo_2 N inFrontOf laid q_bytes q_known takers takerCount liftedInAll) n s = some R → WW l D K 5 2 [(0, .ref a0), (1, .ref a5), (2, .int s.1)] [] (wX2_T c0 a0 a1 a2 a3 a4 a5 a6 inRow inFrontOf s.2 takers takerCount laid judgedGuest liftedInAll q_bytes q_size q_faultAt q_known q_bits) := by
  refine lp_ind (fun k2 hk2 s hf => ?_)
  unfold bX2_letGo_2 at hf
  refine r_iload_n (n := 3) h 2 dX2_letGo_2 rfl rfl rfl ?_
  refine r_bipush (n := 5) h (10 : Int32) dX2_letGo_3 (by decide) rfl ?_
  refine r_icmp_ge (n := 8) h 22 dX2_letGo_5 (by decide) rfl (fun hc1 => ?_) (fun hc1 => ?_)
  · have hf := h_pos hc1 hf
    refine r_aload_n (n := 23) h 0 dX2_letGo_22 rfl rfl rfl ?_
    refine r_iconst (n := 24) h (0 : Int32) dX2_letGo_23 (by decide) rfl ?_
    refine r_put (n := 27) h cf2 0 4 (wX2_T c0 a0 a1 a2 a3 a4 a5 a6 inRow inFrontOf s.2 takers (0 : Int32) laid judgedGuest liftedInAll q_bytes q_size q_faultAt q_known q_bits) fl_X2_56 rfl (by decide) rfl rfl rfl (Nat.le_of_ble_eq_true rfl) rfl dX2_letGo_24 rfl ?_
    refine r_aload_n (n := 28) h 0 dX2_letGo_27 rfl rfl rfl ?_
    refine r_iconst (n := 29) h (0 : Int32) dX2_letGo_28 (by decide) rfl ?_
    refine r_put (n := 32) h cf2 0 7 (wX2_T c0 a0 a1 a2 a3 a4 a5 a6 inRow inFrontOf s.2 takers (0 : Int32) laid judgedGuest (0 : Int32) q_bytes q_size q_faultAt q_known q_bits) fl_X2_59 rfl (by decide) rfl rfl rfl (Nat.le_of_ble_eq_true rfl) rfl dX2_letGo_29 rfl ?_
    refine r_aload_n (n := 33) h 0 dX2_letGo_32 rfl rfl rfl ?_
    refine r_get (n := 36) h cf2 0 5 (v := .int laid) fl_X2_24 rfl (by decide) rfl dX2_letGo_33 rfl ?_
    refine r_istore_n (n := 37) h [(0, .ref a0), (1, .ref a5), (2, .int laid)] dX2_letGo_36 rfl (by decide) rfl rfl ?_
    refine r_iconst (n := 38) h (0 : Int32) dX2_letGo_37 (by decide) rfl ?_
    refine r_istore_n (n := 39) h [(0, .ref a0), (1, .ref a5), (2, .int laid), (3, .int (0 : Int32))] dX2_letGo_38 rfl (by decide) rfl rfl ?_
    exact tX2_letGo_39 h  N (laid, (0 : Int32), s.2, takers, (0 : Int32), (0 : Int32)) hf
  · have hf := h_neg hc1 hf
    refine r_aload_n (n := 9) h 0 dX2_letGo_8 rfl rfl rfl ?_
    refine r_get (n := 12) h cf2 0 2 (v := .ref a3) fl_X2_18 rfl (by decide) rfl dX2_letGo_9 rfl ?_
    refine r_iload_n (n := 13) h 2 dX2_letGo_12 rfl rfl rfl ?_
    refine r_bipush (n := 15) h (-3 : Int32) dX2_letGo_13 (by decide) rfl ?_
    obtain ⟨hi16, hf⟩ := h_chk hf
    refine r_iast (n := 16) h 3 (wX2_T c0 a0 a1 a2 a3 a4 a5 a6 inRow inFrontOf (upd s.2 (Int32.toNatClampNeg s.1) (-3 : Int32)) takers takerCount laid judgedGuest liftedInAll q_bytes q_size q_faultAt q_known q_bits) rfl hi16 rfl dX2_letGo_15 rfl ?_
    refine r_iinc (n := 19) h 2 (s.1 + (1 : Int32)) [(0, .ref a0), (1, .ref a5), (2, .int (s.1 + (1 : Int32)))] dX2_letGo_16 rfl rfl (by decide) rfl rfl ?_
    refine r_goto h 2 dX2_letGo_19 (by decide) ?_
    exact hk2 ((s.1 + (1 : Int32)), (upd s.2 (Int32.toNatClampNeg s.1) (-3 : Int32))) hf
def fX2_letGo (N : Nat) (inFrontOf liftedFor takers : Nat → Int32) (takerCount laid liftedInAll : Int32) (q_bytes : Nat → Int32) (q_known : Int32) : Option ((Nat → Int32) × (Nat → Int32) × Int32 × Int32) :=
  lp (bX2_letGo_2 N inFrontOf laid q_bytes q_known takers takerCount liftedInAll) N ((0 : Int32), liftedFor)
theorem kX2_letGo (l : Launch) (D : va_G) (c0 : Nat → ClassId) (a0 a1 a2 a3 a4 a5 a6 : Nat) (inRow inFrontOf liftedFor takers : Nat → Int32) (takerCount laid judgedGuest liftedInAll : Int32) (q_bytes : Nat → Int32) (q_size q_faultAt q_known q_bits : Int32) {N : Nat} {R : ((Nat → Int32) × (Nat → Int32) × Int32 × Int32)} (hf : fX2_letGo N inFrontOf liftedFor takers takerCount laid liftedInAll q_bytes q_known = some R) : Ct l D c0 yX2_letGo cX2_letGo 5 (none) (rmF 2 43) [.ref a0, .ref a5] (wX2_T c0 a0 a1 a2 a3 a4 a5 a6 inRow inFrontOf liftedFor takers takerCount laid judgedGuest liftedInAll q_bytes q_size q_faultAt q_known q_bits) none (wX2_T c0 a0 a1 a2 a3 a4 a5 a6 inRow inFrontOf R.1 R.2.1 R.2.2.1 laid judgedGuest R.2.2.2 q_bytes q_size q_faultAt q_known q_bits) := by
  refine Ct.mk (own := RX2) [(0, .ref a0), (1, .ref a5)] rfl pl_X2 rfl (Nat.le_of_ble_eq_true rfl) (fun K h  => ?_)
  unfold fX2_letGo at hf
  refine r_iconst (n := 1) h (0 : Int32) dX2_letGo_0 (by decide) rfl ?_
  refine r_istore_n (n := 2) h [(0, .ref a0), (1, .ref a5), (2, .int (0 : Int32))] dX2_letGo_1 rfl (by decide) rfl rfl ?_
  exact tX2_letGo_2 h  N ((0 : Int32), liftedFor) hf
end
section
variable {l : Launch} {D : va_G} {c0 : Nat → ClassId} {K : KT} {N : Nat} {R : Int32} {a0 a1 a2 a3 a4 : Nat} {inRow inFrontOf liftedFor takers : Nat → Int32} {takerCount laid judgedGuest liftedInAll : Int32}
def bX2_liftedBackwards_14 (N : Nat) (inFrontOf takers : Nat → Int32) (takerCount laid : Int32) (k14 : (Int32 × Int32 × Int32) → Option Int32) (s : (Int32 × Int32 × Int32)) : Option Int32 :=
  (if s.2.2 < 0 then some s.1 else if chk s.2.2 10 = true then (fX2_liftedAmong inFrontOf (takers (Int32.toNatClampNeg s.2.2)) s.2.1).bind (fun u3 => if chk s.2.2 10 = true then (fX6_bit (takers (Int32.toNatClampNeg s.2.2))).bind (fun u6 => k14 ((s.1 + u3), (s.2.1 &&& (u6 ^^^ (-1 : Int32))), (s.2.2 + (-1 : Int32)))) else none) else none)
theorem tX2_liftedBackwards_14  (h : OKm D c0 K RX2 cX2_liftedBackwards 4 (some .int) (rmF 2 43) (some (.int R)) (wX2 c0 a0 a1 a2 a3 a4 inRow inFrontOf liftedFor takers takerCount laid judgedGuest liftedInAll))  : ∀ (n : Nat) (s : (Int32 × Int32 × Int32)), lp (bX2_liftedBackwards_14 N inFrontOf takers takerCount laid) n s = some R → WW l D K 4 14 [(0, .ref a0), (1, .int s.1), (2, .int s.2.1), (3, .int s.2.2)] [] (wX2 c0 a0 a1 a2 a3 a4 inRow inFrontOf liftedFor takers takerCount laid judgedGuest liftedInAll) := by
  refine lp_ind (fun k14 hk14 s hf => ?_)
  unfold bX2_liftedBackwards_14 at hf
  refine r_iload_n (n := 15) h 3 dX2_liftedBackwards_14 rfl rfl rfl ?_
  refine r_if_lt (n := 18) h 52 dX2_liftedBackwards_15 (by decide) rfl (fun hc1 => ?_) (fun hc1 => ?_)
  · have hf := h_pos hc1 hf
    refine r_iload_n (n := 53) h 1 dX2_liftedBackwards_52 rfl rfl rfl ?_
    have hf := Option.some.inj hf
    subst hf
    exact r_iret h dX2_liftedBackwards_53
  · have hf := h_neg hc1 hf
    refine r_iload_n (n := 19) h 1 dX2_liftedBackwards_18 rfl rfl rfl ?_
    refine r_aload_n (n := 20) h 0 dX2_liftedBackwards_19 rfl rfl rfl ?_
    refine r_aload_n (n := 21) h 0 dX2_liftedBackwards_20 rfl rfl rfl ?_
    refine r_get (n := 24) h cf2 0 3 (v := .ref a4) fl_X2_21 rfl (by decide) rfl dX2_liftedBackwards_21 rfl ?_
    refine r_iload_n (n := 25) h 3 dX2_liftedBackwards_24 rfl rfl rfl ?_
    obtain ⟨hi2, hf⟩ := h_chk hf
    refine r_iald (n := 26) h 4 rfl hi2 dX2_liftedBackwards_25 rfl ?_
    refine r_iload_n (n := 27) h 2 dX2_liftedBackwards_26 rfl rfl rfl ?_
    obtain ⟨u3, hu4, hf⟩ := h_bind hf
    refine r_callT (n := 30) h mi_X2_liftedAmong mv_X2_liftedAmong ml_X2_62 (kX2_liftedAmong l D c0 a0 a1 a2 a3 a4 inRow inFrontOf liftedFor takers takerCount laid judgedGuest liftedInAll (takers (Int32.toNatClampNeg s.2.2)) s.2.1 hu4) (wX2 c0 a0 a1 a2 a3 a4 inRow inFrontOf liftedFor takers takerCount laid judgedGuest liftedInAll) (ws := (wX2 c0 a0 a1 a2 a3 a4 inRow inFrontOf liftedFor takers takerCount laid judgedGuest liftedInAll)) (st := [.int s.1]) (st1 := [.int u3, .int s.1]) rfl rfl rfl rfl rfl rfl ⟨rfl, rfl, by decide, by decide⟩ rfl rfl (Nat.le_of_ble_eq_true rfl) dX2_liftedBackwards_27 rfl ?_
    refine r_iadd (n := 31) h dX2_liftedBackwards_30 rfl ?_
    refine r_istore_n (n := 32) h [(0, .ref a0), (1, .int (s.1 + u3)), (2, .int s.2.1), (3, .int s.2.2)] dX2_liftedBackwards_31 rfl (by decide) rfl rfl ?_
    refine r_iload_n (n := 33) h 2 dX2_liftedBackwards_32 rfl rfl rfl ?_
    refine r_aload_n (n := 34) h 0 dX2_liftedBackwards_33 rfl rfl rfl ?_
    refine r_get (n := 37) h cf2 0 3 (v := .ref a4) fl_X2_21 rfl (by decide) rfl dX2_liftedBackwards_34 rfl ?_
    refine r_iload_n (n := 38) h 3 dX2_liftedBackwards_37 rfl rfl rfl ?_
    obtain ⟨hi5, hf⟩ := h_chk hf
    refine r_iald (n := 39) h 4 rfl hi5 dX2_liftedBackwards_38 rfl ?_
    obtain ⟨u6, hu7, hf⟩ := h_bind hf
    refine r_callN (n := 42) h mi_X6_bit ms_X6_bit mn_X2_53 (kX6_bit l D c0 (takers (Int32.toNatClampNeg s.2.2)) hu7) [] (wX2 c0 a0 a1 a2 a3 a4 inRow inFrontOf liftedFor takers takerCount laid judgedGuest liftedInAll) (ws := (wX2 c0 a0 a1 a2 a3 a4 inRow inFrontOf liftedFor takers takerCount laid judgedGuest liftedInAll)) (st := [.int s.2.1]) (st1 := [.int u6, .int s.2.1]) rfl rfl rfl rfl rfl rfl ⟨rfl, rfl, by decide, by decide⟩ rfl rfl (Nat.le_of_ble_eq_true rfl) dX2_liftedBackwards_39 rfl ?_
    refine r_iconst (n := 43) h (-1 : Int32) dX2_liftedBackwards_42 (by decide) rfl ?_
    refine r_ixor (n := 44) h dX2_liftedBackwards_43 rfl ?_
    refine r_iand (n := 45) h dX2_liftedBackwards_44 rfl ?_
    refine r_istore_n (n := 46) h [(0, .ref a0), (1, .int (s.1 + u3)), (2, .int (s.2.1 &&& (u6 ^^^ (-1 : Int32)))), (3, .int s.2.2)] dX2_liftedBackwards_45 rfl (by decide) rfl rfl ?_
    refine r_iinc (n := 49) h 3 (s.2.2 + (-1 : Int32)) [(0, .ref a0), (1, .int (s.1 + u3)), (2, .int (s.2.1 &&& (u6 ^^^ (-1 : Int32)))), (3, .int (s.2.2 + (-1 : Int32)))] dX2_liftedBackwards_46 rfl rfl (by decide) rfl rfl ?_
    refine r_goto h 14 dX2_liftedBackwards_49 (by decide) ?_
    exact hk14 ((s.1 + u3), (s.2.1 &&& (u6 ^^^ (-1 : Int32))), (s.2.2 + (-1 : Int32))) hf
def fX2_liftedBackwards (N : Nat) (inFrontOf takers : Nat → Int32) (takerCount laid : Int32) : Option Int32 :=
  lp (bX2_liftedBackwards_14 N inFrontOf takers takerCount laid) N ((0 : Int32), laid, (takerCount - (1 : Int32)))
theorem kX2_liftedBackwards (l : Launch) (D : va_G) (c0 : Nat → ClassId) (a0 a1 a2 a3 a4 : Nat) (inRow inFrontOf liftedFor takers : Nat → Int32) (takerCount laid judgedGuest liftedInAll : Int32) {N : Nat} {R : Int32} (hf : fX2_liftedBackwards N inFrontOf takers takerCount laid = some R) : Ct l D c0 yX2_liftedBackwards cX2_liftedBackwards 4 (some .int) (rmF 2 43) [.ref a0] (wX2 c0 a0 a1 a2 a3 a4 inRow inFrontOf liftedFor takers takerCount laid judgedGuest liftedInAll) (some (.int R)) (wX2 c0 a0 a1 a2 a3 a4 inRow inFrontOf liftedFor takers takerCount laid judgedGuest liftedInAll) := by
  refine Ct.mk (own := RX2) [(0, .ref a0)] rfl pl_X2 rfl (Nat.le_of_ble_eq_true rfl) (fun K h  => ?_)
  unfold fX2_liftedBackwards at hf
  refine r_iconst (n := 1) h (0 : Int32) dX2_liftedBackwards_0 (by decide) rfl ?_
  refine r_istore_n (n := 2) h [(0, .ref a0), (1, .int (0 : Int32))] dX2_liftedBackwards_1 rfl (by decide) rfl rfl ?_
  refine r_aload_n (n := 3) h 0 dX2_liftedBackwards_2 rfl rfl rfl ?_
  refine r_get (n := 6) h cf2 0 5 (v := .int laid) fl_X2_24 rfl (by decide) rfl dX2_liftedBackwards_3 rfl ?_
  refine r_istore_n (n := 7) h [(0, .ref a0), (1, .int (0 : Int32)), (2, .int laid)] dX2_liftedBackwards_6 rfl (by decide) rfl rfl ?_
  refine r_aload_n (n := 8) h 0 dX2_liftedBackwards_7 rfl rfl rfl ?_
  refine r_get (n := 11) h cf2 0 4 (v := .int takerCount) fl_X2_56 rfl (by decide) rfl dX2_liftedBackwards_8 rfl ?_
  refine r_iconst (n := 12) h (1 : Int32) dX2_liftedBackwards_11 (by decide) rfl ?_
  refine r_isub (n := 13) h dX2_liftedBackwards_12 rfl ?_
  refine r_istore_n (n := 14) h [(0, .ref a0), (1, .int (0 : Int32)), (2, .int laid), (3, .int (takerCount - (1 : Int32)))] dX2_liftedBackwards_13 rfl (by decide) rfl rfl ?_
  exact tX2_liftedBackwards_14 h  N ((0 : Int32), laid, (takerCount - (1 : Int32))) hf
end
section
variable {l : Launch} {D : va_G} {c0 : Nat → ClassId} {K : KT} {N : Nat} {R : Int32} {a0 a1 a2 a3 a4 : Nat} {inRow inFrontOf liftedFor takers : Nat → Int32} {takerCount laid judgedGuest liftedInAll : Int32}
def bX2_usedRows_22 (N : Nat) (inRow : Nat → Int32) (k4 : (Int32 × Int32) → Option Int32) (v1 : Int32) (v2 : Int32) : Option Int32 :=
  k4 (v1, (v2 + (1 : Int32)))
theorem tX2_usedRows_22 {k4 : (Int32 × Int32) → Option Int32} (h : OKm D c0 K RX2 cX2_usedRows 3 (some .int) (rmF 0 0) (some (.int R)) (wX2 c0 a0 a1 a2 a3 a4 inRow inFrontOf liftedFor takers takerCount laid judgedGuest liftedInAll))  (hk4 : ∀ s : (Int32 × Int32), k4 s = some R → WW l D K 3 4 [(0, .ref a0), (1, .int s.1), (2, .int s.2)] [] (wX2 c0 a0 a1 a2 a3 a4 inRow inFrontOf liftedFor takers takerCount laid judgedGuest liftedInAll)) (v1 : Int32) (v2 : Int32) (hf : bX2_usedRows_22 N inRow k4 v1 v2 = some R) : WW l D K 3 22 [(0, .ref a0), (1, .int v1), (2, .int v2)] [] (wX2 c0 a0 a1 a2 a3 a4 inRow inFrontOf liftedFor takers takerCount laid judgedGuest liftedInAll) := by
  unfold bX2_usedRows_22 at hf
  refine r_iinc (n := 25) h 2 (v2 + (1 : Int32)) [(0, .ref a0), (1, .int v1), (2, .int (v2 + (1 : Int32)))] dX2_usedRows_22 rfl rfl (by decide) rfl rfl ?_
  refine r_goto h 4 dX2_usedRows_25 (by decide) ?_
  exact hk4 (v1, (v2 + (1 : Int32))) hf
def bX2_usedRows_4 (N : Nat) (inRow : Nat → Int32) (k4 : (Int32 × Int32) → Option Int32) (s : (Int32 × Int32)) : Option Int32 :=
  (if (10 : Int32) ≤ s.2 then some s.1 else if chk s.2 10 = true then (if (inRow (Int32.toNatClampNeg s.2)) = 0 then bX2_usedRows_22 N inRow k4 s.1 s.2 else bX2_usedRows_22 N inRow k4 (s.1 + (1 : Int32)) s.2) else none)
theorem tX2_usedRows_4  (h : OKm D c0 K RX2 cX2_usedRows 3 (some .int) (rmF 0 0) (some (.int R)) (wX2 c0 a0 a1 a2 a3 a4 inRow inFrontOf liftedFor takers takerCount laid judgedGuest liftedInAll))  : ∀ (n : Nat) (s : (Int32 × Int32)), lp (bX2_usedRows_4 N inRow) n s = some R → WW l D K 3 4 [(0, .ref a0), (1, .int s.1), (2, .int s.2)] [] (wX2 c0 a0 a1 a2 a3 a4 inRow inFrontOf liftedFor takers takerCount laid judgedGuest liftedInAll) := by
  refine lp_ind (fun k4 hk4 s hf => ?_)
  unfold bX2_usedRows_4 at hf
  refine r_iload_n (n := 5) h 2 dX2_usedRows_4 rfl rfl rfl ?_
  refine r_bipush (n := 7) h (10 : Int32) dX2_usedRows_5 (by decide) rfl ?_
  refine r_icmp_ge (n := 10) h 28 dX2_usedRows_7 (by decide) rfl (fun hc1 => ?_) (fun hc1 => ?_)
  · have hf := h_pos hc1 hf
    refine r_iload_n (n := 29) h 1 dX2_usedRows_28 rfl rfl rfl ?_
    have hf := Option.some.inj hf
    subst hf
    exact r_iret h dX2_usedRows_29
  · have hf := h_neg hc1 hf
    refine r_aload_n (n := 11) h 0 dX2_usedRows_10 rfl rfl rfl ?_
    refine r_get (n := 14) h cf2 0 0 (v := .ref a1) fl_X2_9 rfl (by decide) rfl dX2_usedRows_11 rfl ?_
    refine r_iload_n (n := 15) h 2 dX2_usedRows_14 rfl rfl rfl ?_
    obtain ⟨hi2, hf⟩ := h_chk hf
    refine r_iald (n := 16) h 1 rfl hi2 dX2_usedRows_15 rfl ?_
    refine r_if_eq (n := 19) h 22 dX2_usedRows_16 (by decide) rfl (fun hc3 => ?_) (fun hc3 => ?_)
    · have hf := h_pos hc3 hf
      exact tX2_usedRows_22 h hk4 s.1 s.2 hf
    · have hf := h_neg hc3 hf
      refine r_iinc (n := 22) h 1 (s.1 + (1 : Int32)) [(0, .ref a0), (1, .int (s.1 + (1 : Int32))), (2, .int s.2)] dX2_usedRows_19 rfl rfl (by decide) rfl rfl ?_
      exact tX2_usedRows_22 h hk4 (s.1 + (1 : Int32)) s.2 hf
def fX2_usedRows (N : Nat) (inRow : Nat → Int32) : Option Int32 :=
  lp (bX2_usedRows_4 N inRow) N ((0 : Int32), (0 : Int32))
theorem kX2_usedRows (l : Launch) (D : va_G) (c0 : Nat → ClassId) (a0 a1 a2 a3 a4 : Nat) (inRow inFrontOf liftedFor takers : Nat → Int32) (takerCount laid judgedGuest liftedInAll : Int32) {N : Nat} {R : Int32} (hf : fX2_usedRows N inRow = some R) : Ct l D c0 yX2_usedRows cX2_usedRows 3 (some .int) (rmF 0 0) [.ref a0] (wX2 c0 a0 a1 a2 a3 a4 inRow inFrontOf liftedFor takers takerCount laid judgedGuest liftedInAll) (some (.int R)) (wX2 c0 a0 a1 a2 a3 a4 inRow inFrontOf liftedFor takers takerCount laid judgedGuest liftedInAll) := by
  refine Ct.mk (own := RX2) [(0, .ref a0)] rfl pl_X2 rfl (Nat.le_of_ble_eq_true rfl) (fun K h  => ?_)
  unfold fX2_usedRows at hf
  refine r_iconst (n := 1) h (0 : Int32) dX2_usedRows_0 (by decide) rfl ?_
  refine r_istore_n (n := 2) h [(0, .ref a0), (1, .int (0 : Int32))] dX2_usedRows_1 rfl (by decide) rfl rfl ?_
  refine r_iconst (n := 3) h (0 : Int32) dX2_usedRows_2 (by decide) rfl ?_
  refine r_istore_n (n := 4) h [(0, .ref a0), (1, .int (0 : Int32)), (2, .int (0 : Int32))] dX2_usedRows_3 rfl (by decide) rfl rfl ?_
  exact tX2_usedRows_4 h  N ((0 : Int32), (0 : Int32)) hf
end
section
variable {l : Launch} {D : va_G} {c0 : Nat → ClassId} {K : KT} {N : Nat} {R : ((Nat → Int32) × Int32 × Int32 × Int32)} {a0 a1 : Nat} {items : Nat → Int32} {lost form size : Int32} {p1 : Int32} {p2 : Int32}
def bX3_renew_17 (N : Nat) (p1 : Int32) (p2 : Int32) (lost : Int32) (form : Int32) (size : Int32) (k17 : (Int32 × (Nat → Int32)) → Option ((Nat → Int32) × Int32 × Int32 × Int32)) (s : (Int32 × (Nat → Int32))) : Option ((Nat → Int32) × Int32 × Int32 × Int32) :=
  (if (48 : Int32) ≤ s.1 then some (s.2, lost, form, size) else if chk s.1 48 = true then k17 ((s.1 + (1 : Int32)), (upd s.2 (Int32.toNatClampNeg s.1) (0 : Int32))) else none)
theorem tX3_renew_17 {lost : Int32} {form : Int32} {size : Int32} (h : OKm D c0 K RX3 cX3_renew 4 (none) (rmF 0 0) none (wX3 c0 a0 a1 R.1 R.2.1 R.2.2.1 R.2.2.2))  : ∀ (n : Nat) (s : (Int32 × (Nat → Int32))), lp (bX3_renew_17 N p1 p2 lost form size) n s = some R → WW l D K 4 17 [(0, .ref a0), (3, .int s.1)] [] (wX3 c0 a0 a1 s.2 lost form size) := by
  refine lp_ind (fun k17 hk17 s hf => ?_)
  unfold bX3_renew_17 at hf
  refine r_iload_n (n := 18) h 1 dX3_renew_17 rfl rfl rfl ?_
  refine r_bipush (n := 20) h (48 : Int32) dX3_renew_18 (by decide) rfl ?_
  refine r_icmp_ge (n := 23) h 36 dX3_renew_20 (by decide) rfl (fun hc1 => ?_) (fun hc1 => ?_)
  · have hf := h_pos hc1 hf
    have hf := Option.some.inj hf
    subst hf
    exact r_vret h dX3_renew_36
  · have hf := h_neg hc1 hf
    refine r_aload_n (n := 24) h 0 dX3_renew_23 rfl rfl rfl ?_
    refine r_get (n := 27) h cf3 0 0 (v := .ref a1) fl_X3_9 rfl (by decide) rfl dX3_renew_24 rfl ?_
    refine r_iload_n (n := 28) h 1 dX3_renew_27 rfl rfl rfl ?_
    refine r_iconst (n := 29) h (0 : Int32) dX3_renew_28 (by decide) rfl ?_
    obtain ⟨hi2, hf⟩ := h_chk hf
    refine r_iast (n := 30) h 1 (wX3 c0 a0 a1 (upd s.2 (Int32.toNatClampNeg s.1) (0 : Int32)) lost form size) rfl hi2 rfl dX3_renew_29 rfl ?_
    refine r_iinc (n := 33) h 1 (s.1 + (1 : Int32)) [(0, .ref a0), (3, .int (s.1 + (1 : Int32)))] dX3_renew_30 rfl rfl (by decide) rfl rfl ?_
    refine r_goto h 17 dX3_renew_33 (by decide) ?_
    exact hk17 ((s.1 + (1 : Int32)), (upd s.2 (Int32.toNatClampNeg s.1) (0 : Int32))) hf
def fX3_renew (N : Nat) (items : Nat → Int32) (lost form size : Int32) (p1 : Int32) (p2 : Int32) : Option ((Nat → Int32) × Int32 × Int32 × Int32) :=
  lp (bX3_renew_17 N p1 p2 (0 : Int32) p1 p2) N ((0 : Int32), items)
theorem kX3_renew (l : Launch) (D : va_G) (c0 : Nat → ClassId) (a0 a1 : Nat) (items : Nat → Int32) (lost form size : Int32) (p1 : Int32) (p2 : Int32) {N : Nat} {R : ((Nat → Int32) × Int32 × Int32 × Int32)} (hf : fX3_renew N items lost form size p1 p2 = some R) : Ct l D c0 yX3_renew cX3_renew 4 (none) (rmF 0 0) [.ref a0, .int p1, .int p2] (wX3 c0 a0 a1 items lost form size) none (wX3 c0 a0 a1 R.1 R.2.1 R.2.2.1 R.2.2.2) := by
  refine Ct.mk (own := RX3) [(0, .ref a0), (1, .int p1), (2, .int p2)] rfl pl_X3 rfl (Nat.le_of_ble_eq_true rfl) (fun K h  => ?_)
  unfold fX3_renew at hf
  refine r_aload_n (n := 1) h 0 dX3_renew_0 rfl rfl rfl ?_
  refine r_iconst (n := 2) h (0 : Int32) dX3_renew_1 (by decide) rfl ?_
  refine r_put (n := 5) h cf3 0 1 (wX3 c0 a0 a1 items (0 : Int32) form size) fl_X3_15 rfl (by decide) rfl rfl rfl (Nat.le_of_ble_eq_true rfl) rfl dX3_renew_2 rfl ?_
  refine r_aload_n (n := 6) h 0 dX3_renew_5 rfl rfl rfl ?_
  refine r_iload_n (n := 7) h 1 dX3_renew_6 rfl rfl rfl ?_
  refine r_put (n := 10) h cf3 0 2 (wX3 c0 a0 a1 items (0 : Int32) p1 size) fl_X3_19 rfl (by decide) rfl rfl rfl (Nat.le_of_ble_eq_true rfl) rfl dX3_renew_7 rfl ?_
  refine r_aload_n (n := 11) h 0 dX3_renew_10 rfl rfl rfl ?_
  refine r_iload_n (n := 12) h 2 dX3_renew_11 rfl rfl rfl ?_
  refine r_put (n := 15) h cf3 0 3 (wX3 c0 a0 a1 items (0 : Int32) p1 p2) fl_X3_23 rfl (by decide) rfl rfl rfl (Nat.le_of_ble_eq_true rfl) rfl dX3_renew_12 rfl ?_
  refine r_iconst (n := 16) h (0 : Int32) dX3_renew_15 (by decide) rfl ?_
  refine r_istore_n (n := 17) h [(0, .ref a0), (1, .int p1), (2, .int p2), (3, .int (0 : Int32))] dX3_renew_16 rfl (by decide) rfl rfl ?_
  refine r_lv [0, 3] (lv' := [(0, .ref a0), (3, .int (0 : Int32))]) rfl ?_
  exact tX3_renew_17 h  N ((0 : Int32), items) hf
end
section
variable {l : Launch} {D : va_G} {c0 : Nat → ClassId} {K : KT} {N : Nat} {R : Int32} {a0 a1 : Nat} {items : Nat → Int32} {lost form size : Int32} {p1 : Int32} {p2 : Int32}
def fX3_hasItems (size : Int32) (p1 : Int32) (p2 : Int32) : Option Int32 :=
  (if p1 < 0 then some (0 : Int32) else (if p2 < 0 then some (0 : Int32) else (if size < p2 then some (0 : Int32) else (if (size - p2) < p1 then some (0 : Int32) else some (1 : Int32)))))
theorem kX3_hasItems (l : Launch) (D : va_G) (c0 : Nat → ClassId) (a0 a1 : Nat) (items : Nat → Int32) (lost form size : Int32) (p1 : Int32) (p2 : Int32) {R : Int32} (hf : fX3_hasItems size p1 p2 = some R) : Ct l D c0 yX3_hasItems cX3_hasItems 3 (some .boolean) (rmF 0 0) [.ref a0, .int p1, .int p2] (wX3 c0 a0 a1 items lost form size) (some (.int R)) (wX3 c0 a0 a1 items lost form size) := by
  refine Ct.mk (own := RX3) [(0, .ref a0), (1, .int p1), (2, .int p2)] rfl pl_X3 rfl (Nat.le_of_ble_eq_true rfl) (fun K h  => ?_)
  unfold fX3_hasItems at hf
  refine r_iload_n (n := 1) h 1 dX3_hasItems_0 rfl rfl rfl ?_
  refine r_if_lt (n := 4) h 30 dX3_hasItems_1 (by decide) rfl (fun hc1 => ?_) (fun hc1 => ?_)
  · have hf := h_pos hc1 hf
    refine r_iconst (n := 31) h (0 : Int32) dX3_hasItems_30 (by decide) rfl ?_
    have hf := Option.some.inj hf
    subst hf
    exact r_zret h (by decide) dX3_hasItems_31
  · have hf := h_neg hc1 hf
    refine r_iload_n (n := 5) h 2 dX3_hasItems_4 rfl rfl rfl ?_
    refine r_if_lt (n := 8) h 30 dX3_hasItems_5 (by decide) rfl (fun hc2 => ?_) (fun hc2 => ?_)
    · have hf := h_pos hc2 hf
      refine r_iconst (n := 31) h (0 : Int32) dX3_hasItems_30 (by decide) rfl ?_
      have hf := Option.some.inj hf
      subst hf
      exact r_zret h (by decide) dX3_hasItems_31
    · have hf := h_neg hc2 hf
      refine r_iload_n (n := 9) h 2 dX3_hasItems_8 rfl rfl rfl ?_
      refine r_aload_n (n := 10) h 0 dX3_hasItems_9 rfl rfl rfl ?_
      refine r_get (n := 13) h cf3 0 3 (v := .int size) fl_X3_23 rfl (by decide) rfl dX3_hasItems_10 rfl ?_
      refine r_icmp_gt (n := 16) h 30 dX3_hasItems_13 (by decide) rfl (fun hc3 => ?_) (fun hc3 => ?_)
      · have hf := h_pos hc3 hf
        refine r_iconst (n := 31) h (0 : Int32) dX3_hasItems_30 (by decide) rfl ?_
        have hf := Option.some.inj hf
        subst hf
        exact r_zret h (by decide) dX3_hasItems_31
      · have hf := h_neg hc3 hf
        refine r_iload_n (n := 17) h 1 dX3_hasItems_16 rfl rfl rfl ?_
        refine r_aload_n (n := 18) h 0 dX3_hasItems_17 rfl rfl rfl ?_
        refine r_get (n := 21) h cf3 0 3 (v := .int size) fl_X3_23 rfl (by decide) rfl dX3_hasItems_18 rfl ?_
        refine r_iload_n (n := 22) h 2 dX3_hasItems_21 rfl rfl rfl ?_
        refine r_isub (n := 23) h dX3_hasItems_22 rfl ?_
        refine r_icmp_gt (n := 26) h 30 dX3_hasItems_23 (by decide) rfl (fun hc4 => ?_) (fun hc4 => ?_)
        · have hf := h_pos hc4 hf
          refine r_iconst (n := 31) h (0 : Int32) dX3_hasItems_30 (by decide) rfl ?_
          have hf := Option.some.inj hf
          subst hf
          exact r_zret h (by decide) dX3_hasItems_31
        · have hf := h_neg hc4 hf
          refine r_iconst (n := 27) h (1 : Int32) dX3_hasItems_26 (by decide) rfl ?_
          refine r_goto h 31 dX3_hasItems_27 (by decide) ?_
          have hf := Option.some.inj hf
          subst hf
          exact r_zret h (by decide) dX3_hasItems_31
end
section
variable {l : Launch} {D : va_G} {c0 : Nat → ClassId} {K : KT} {N : Nat} {R : (Int32 × Int32 × Int32)} {a0 a1 : Nat} {bytes : Nat → Int32} {size faultAt known bits : Int32} {p1 : Int32} {p2 : Int32}
def bX4_keep_33 (size : Int32) (p1 : Int32) (p2 : Int32) (s0 : Int32) (faultAt : Int32) (known : Int32) (bits : Int32) : Option (Int32 × Int32 × Int32) :=
  some (faultAt, known, s0)
theorem tX4_keep_33  (h : OKm D c0 K RX4 cX4_keep 3 (none) (rmF 0 0) none (wX4 c0 a0 a1 bytes size R.1 R.2.1 R.2.2))  (s0 : Int32) (faultAt : Int32) (known : Int32) (bits : Int32) (hf : bX4_keep_33 size p1 p2 s0 faultAt known bits = some R) : WW l D K 3 33 [] [.int s0, .ref a0] (wX4 c0 a0 a1 bytes size faultAt known bits) := by
  unfold bX4_keep_33 at hf
  refine r_put (n := 36) h cf4 0 4 (wX4 c0 a0 a1 bytes size faultAt known s0) fl_X4_30 rfl (by decide) rfl rfl rfl (Nat.le_of_ble_eq_true rfl) rfl dX4_keep_33 rfl ?_
  have hf := Option.some.inj hf
  subst hf
  exact r_vret h dX4_keep_36
def bX4_keep_19 (size : Int32) (p1 : Int32) (p2 : Int32) (s0 : Int32) (faultAt : Int32) (known : Int32) (bits : Int32) : Option (Int32 × Int32 × Int32) :=
  (if p1 = (-1 : Int32) then bX4_keep_33 size p1 p2 p2 faultAt s0 bits else bX4_keep_33 size p1 p2 (0 : Int32) faultAt s0 bits)
theorem tX4_keep_19  (h : OKm D c0 K RX4 cX4_keep 3 (none) (rmF 0 0) none (wX4 c0 a0 a1 bytes size R.1 R.2.1 R.2.2))  (s0 : Int32) (faultAt : Int32) (known : Int32) (bits : Int32) (hf : bX4_keep_19 size p1 p2 s0 faultAt known bits = some R) : WW l D K 3 19 [(0, .ref a0), (1, .int p1), (2, .int p2)] [.int s0, .ref a0] (wX4 c0 a0 a1 bytes size faultAt known bits) := by
  unfold bX4_keep_19 at hf
  refine r_put (n := 22) h cf4 0 3 (wX4 c0 a0 a1 bytes size faultAt s0 bits) fl_X4_33 rfl (by decide) rfl rfl rfl (Nat.le_of_ble_eq_true rfl) rfl dX4_keep_19 rfl ?_
  refine r_aload_n (n := 23) h 0 dX4_keep_22 rfl rfl rfl ?_
  refine r_iload_n (n := 24) h 1 dX4_keep_23 rfl rfl rfl ?_
  refine r_iconst (n := 25) h (-1 : Int32) dX4_keep_24 (by decide) rfl ?_
  refine r_icmp_ne (n := 28) h 32 dX4_keep_25 (by decide) rfl (fun hc2 => ?_) (fun hc2 => ?_)
  · have hf := h_neg hc2 hf
    refine r_iconst (n := 33) h (0 : Int32) dX4_keep_32 (by decide) rfl ?_
    refine r_lv [] (lv' := []) rfl ?_
    exact tX4_keep_33 h (0 : Int32) faultAt s0 bits hf
  · have hf := h_pos hc2 hf
    refine r_iload_n (n := 29) h 2 dX4_keep_28 rfl rfl rfl ?_
    refine r_goto h 33 dX4_keep_29 (by decide) ?_
    refine r_lv [] (lv' := []) rfl ?_
    exact tX4_keep_33 h p2 faultAt s0 bits hf
def fX4_keep (size faultAt known bits : Int32) (p1 : Int32) (p2 : Int32) : Option (Int32 × Int32 × Int32) :=
  (if p1 = (-1 : Int32) then bX4_keep_19 size p1 p2 size p1 known bits else bX4_keep_19 size p1 p2 (0 : Int32) p1 known bits)
theorem kX4_keep (l : Launch) (D : va_G) (c0 : Nat → ClassId) (a0 a1 : Nat) (bytes : Nat → Int32) (size faultAt known bits : Int32) (p1 : Int32) (p2 : Int32) {R : (Int32 × Int32 × Int32)} (hf : fX4_keep size faultAt known bits p1 p2 = some R) : Ct l D c0 yX4_keep cX4_keep 3 (none) (rmF 0 0) [.ref a0, .int p1, .int p2] (wX4 c0 a0 a1 bytes size faultAt known bits) none (wX4 c0 a0 a1 bytes size R.1 R.2.1 R.2.2) := by
  refine Ct.mk (own := RX4) [(0, .ref a0), (1, .int p1), (2, .int p2)] rfl pl_X4 rfl (Nat.le_of_ble_eq_true rfl) (fun K h  => ?_)
  unfold fX4_keep at hf
  refine r_aload_n (n := 1) h 0 dX4_keep_0 rfl rfl rfl ?_
  refine r_iload_n (n := 2) h 1 dX4_keep_1 rfl rfl rfl ?_
  refine r_put (n := 5) h cf4 0 2 (wX4 c0 a0 a1 bytes size p1 known bits) fl_X4_15 rfl (by decide) rfl rfl rfl (Nat.le_of_ble_eq_true rfl) rfl dX4_keep_2 rfl ?_
  refine r_aload_n (n := 6) h 0 dX4_keep_5 rfl rfl rfl ?_
  refine r_iload_n (n := 7) h 1 dX4_keep_6 rfl rfl rfl ?_
  refine r_iconst (n := 8) h (-1 : Int32) dX4_keep_7 (by decide) rfl ?_
  refine r_icmp_ne (n := 11) h 18 dX4_keep_8 (by decide) rfl (fun hc1 => ?_) (fun hc1 => ?_)
  · have hf := h_neg hc1 hf
    refine r_iconst (n := 19) h (0 : Int32) dX4_keep_18 (by decide) rfl ?_
    exact tX4_keep_19 h (0 : Int32) p1 known bits hf
  · have hf := h_pos hc1 hf
    refine r_aload_n (n := 12) h 0 dX4_keep_11 rfl rfl rfl ?_
    refine r_get (n := 15) h cf4 0 1 (v := .int size) fl_X4_19 rfl (by decide) rfl dX4_keep_12 rfl ?_
    refine r_goto h 19 dX4_keep_15 (by decide) ?_
    exact tX4_keep_19 h size p1 known bits hf
end
section
variable {l : Launch} {D : va_G} {c0 : Nat → ClassId} {K : KT} {N : Nat} {R : (Int32 × Int32 × Int32)} {a0 a1 : Nat} {bytes : Nat → Int32} {size faultAt known bits : Int32} {p1 : Int32}
def bX4_judge_61 (N : Nat) (bytes : Nat → Int32) (size : Int32) (p1 : Int32) (v2 : Int32) (v3 : Int32) (faultAt : Int32) (known : Int32) (bits : Int32) : Option (Int32 × Int32 × Int32) :=
  (fX4_keep size faultAt known bits v3 v2).bind (fun u2 => some (u2.1, u2.2.1, u2.2.2))
theorem tX4_judge_61  (h : OKm D c0 K RX4 cX4_judge 6 (none) (rmF 1 22) none (wX4 c0 a0 a1 bytes size R.1 R.2.1 R.2.2))  (v2 : Int32) (v3 : Int32) (faultAt : Int32) (known : Int32) (bits : Int32) (hf : bX4_judge_61 N bytes size p1 v2 v3 faultAt known bits = some R) : WW l D K 6 61 [(0, .ref a0), (2, .int v2), (3, .int v3)] [] (wX4 c0 a0 a1 bytes size faultAt known bits) := by
  unfold bX4_judge_61 at hf
  refine r_aload_n (n := 62) h 0 dX4_judge_61 rfl rfl rfl ?_
  refine r_iload_n (n := 63) h 2 dX4_judge_62 rfl rfl rfl ?_
  refine r_iload_n (n := 64) h 1 dX4_judge_63 rfl rfl rfl ?_
  obtain ⟨u2, hu3, hf⟩ := h_bind hf
  refine r_callT (n := 67) h mi_X4_keep mv_X4_keep ml_X4_26 (kX4_keep l D c0 a0 a1 bytes size faultAt known bits v3 v2 hu3) (wX4 c0 a0 a1 bytes size u2.1 u2.2.1 u2.2.2) (ws := (wX4 c0 a0 a1 bytes size faultAt known bits)) (st := []) (st1 := []) rfl rfl rfl rfl rfl rfl ⟨rfl, rfl, by decide, by decide⟩ rfl rfl (Nat.le_of_ble_eq_true rfl) dX4_judge_64 rfl ?_
  have hf := Option.some.inj hf
  subst hf
  exact r_vret h dX4_judge_67
def bX4_judge_50 (N : Nat) (bytes : Nat → Int32) (size : Int32) (p1 : Int32) (faultAt : Int32) (known : Int32) (bits : Int32) (k7 : (Int32 × Int32 × Int32) → Option (Int32 × Int32 × Int32)) (v2 : Int32) (v3 : Int32) (v4 : Int32) (v5 : Int32) : Option (Int32 × Int32 × Int32) :=
  k7 ((v2 ||| v5), v3, (v4 + (1 : Int32)))
theorem tX4_judge_50 {faultAt : Int32} {known : Int32} {bits : Int32} {k7 : (Int32 × Int32 × Int32) → Option (Int32 × Int32 × Int32)} (h : OKm D c0 K RX4 cX4_judge 6 (none) (rmF 1 22) none (wX4 c0 a0 a1 bytes size R.1 R.2.1 R.2.2))  (hk7 : ∀ s : (Int32 × Int32 × Int32), k7 s = some R → WW l D K 6 7 [(0, .ref a0), (1, .int p1), (2, .int s.1), (3, .int s.2.1), (4, .int s.2.2)] [] (wX4 c0 a0 a1 bytes size faultAt known bits)) (v2 : Int32) (v3 : Int32) (v4 : Int32) (v5 : Int32) (hf : bX4_judge_50 N bytes size p1 faultAt known bits k7 v2 v3 v4 v5 = some R) : WW l D K 6 50 [(0, .ref a0), (1, .int p1), (2, .int v2), (3, .int v3), (4, .int v4), (5, .int v5)] [] (wX4 c0 a0 a1 bytes size faultAt known bits) := by
  unfold bX4_judge_50 at hf
  refine r_iload_n (n := 51) h 2 dX4_judge_50 rfl rfl rfl ?_
  refine r_iload (n := 53) h 5 dX4_judge_51 rfl rfl ?_
  refine r_ior (n := 54) h dX4_judge_53 rfl ?_
  refine r_istore_n (n := 55) h [(0, .ref a0), (1, .int p1), (2, .int (v2 ||| v5)), (3, .int v3), (4, .int v4), (5, .int v5)] dX4_judge_54 rfl (by decide) rfl rfl ?_
  refine r_iinc (n := 58) h 4 (v4 + (1 : Int32)) [(0, .ref a0), (1, .int p1), (2, .int (v2 ||| v5)), (3, .int v3), (4, .int (v4 + (1 : Int32))), (5, .int v5)] dX4_judge_55 rfl rfl (by decide) rfl rfl ?_
  refine r_goto h 7 dX4_judge_58 (by decide) ?_
  refine r_lv [0, 1, 2, 3, 4] (lv' := [(0, .ref a0), (1, .int p1), (2, .int (v2 ||| v5)), (3, .int v3), (4, .int (v4 + (1 : Int32)))]) rfl ?_
  exact hk7 ((v2 ||| v5), v3, (v4 + (1 : Int32))) hf
def bX4_judge_7 (N : Nat) (bytes : Nat → Int32) (size : Int32) (p1 : Int32) (faultAt : Int32) (known : Int32) (bits : Int32) (k7 : (Int32 × Int32 × Int32) → Option (Int32 × Int32 × Int32)) (s : (Int32 × Int32 × Int32)) : Option (Int32 × Int32 × Int32) :=
  (if size ≤ s.2.2 then bX4_judge_61 N bytes size p1 s.1 s.2.1 faultAt known bits else (if s.2.1 = (-1 : Int32) then if chk s.2.2 10 = true then (fX6_bit ((bytes (Int32.toNatClampNeg s.2.2)) - (97 : Int32))).bind (fun u6 => (if ((u6 &&& p1) &&& (s.1 ^^^ (-1 : Int32))) = 0 then bX4_judge_50 N bytes size p1 faultAt known bits k7 s.1 s.2.2 s.2.2 ((u6 &&& p1) &&& (s.1 ^^^ (-1 : Int32))) else bX4_judge_50 N bytes size p1 faultAt known bits k7 s.1 s.2.1 s.2.2 ((u6 &&& p1) &&& (s.1 ^^^ (-1 : Int32))))) else none else bX4_judge_61 N bytes size p1 s.1 s.2.1 faultAt known bits))
theorem tX4_judge_7 {faultAt : Int32} {known : Int32} {bits : Int32} (h : OKm D c0 K RX4 cX4_judge 6 (none) (rmF 1 22) none (wX4 c0 a0 a1 bytes size R.1 R.2.1 R.2.2))  : ∀ (n : Nat) (s : (Int32 × Int32 × Int32)), lp (bX4_judge_7 N bytes size p1 faultAt known bits) n s = some R → WW l D K 6 7 [(0, .ref a0), (1, .int p1), (2, .int s.1), (3, .int s.2.1), (4, .int s.2.2)] [] (wX4 c0 a0 a1 bytes size faultAt known bits) := by
  refine lp_ind (fun k7 hk7 s hf => ?_)
  unfold bX4_judge_7 at hf
  refine r_iload (n := 9) h 4 dX4_judge_7 rfl rfl ?_
  refine r_aload_n (n := 10) h 0 dX4_judge_9 rfl rfl rfl ?_
  refine r_get (n := 13) h cf4 0 1 (v := .int size) fl_X4_19 rfl (by decide) rfl dX4_judge_10 rfl ?_
  refine r_icmp_ge (n := 16) h 61 dX4_judge_13 (by decide) rfl (fun hc1 => ?_) (fun hc1 => ?_)
  · have hf := h_pos hc1 hf
    refine r_lv [0, 2, 3] (lv' := [(0, .ref a0), (2, .int s.1), (3, .int s.2.1)]) rfl ?_
    exact tX4_judge_61 h s.1 s.2.1 faultAt known bits hf
  · have hf := h_neg hc1 hf
    refine r_iload_n (n := 17) h 3 dX4_judge_16 rfl rfl rfl ?_
    refine r_iconst (n := 18) h (-1 : Int32) dX4_judge_17 (by decide) rfl ?_
    refine r_icmp_ne (n := 21) h 61 dX4_judge_18 (by decide) rfl (fun hc4 => ?_) (fun hc4 => ?_)
    · have hf := h_neg hc4 hf
      refine r_lv [0, 2, 3] (lv' := [(0, .ref a0), (2, .int s.1), (3, .int s.2.1)]) rfl ?_
      exact tX4_judge_61 h s.1 s.2.1 faultAt known bits hf
    · have hf := h_pos hc4 hf
      refine r_aload_n (n := 22) h 0 dX4_judge_21 rfl rfl rfl ?_
      refine r_get (n := 25) h cf4 0 0 (v := .ref a1) fl_X4_9 rfl (by decide) rfl dX4_judge_22 rfl ?_
      refine r_iload (n := 27) h 4 dX4_judge_25 rfl rfl ?_
      obtain ⟨hi5, hf⟩ := h_chk hf
      refine r_iald (n := 28) h 1 rfl hi5 dX4_judge_27 rfl ?_
      refine r_bipush (n := 30) h (97 : Int32) dX4_judge_28 (by decide) rfl ?_
      refine r_isub (n := 31) h dX4_judge_30 rfl ?_
      obtain ⟨u6, hu7, hf⟩ := h_bind hf
      refine r_callN (n := 34) h mi_X6_bit ms_X6_bit mn_X4_22 (kX6_bit l D c0 ((bytes (Int32.toNatClampNeg s.2.2)) - (97 : Int32)) hu7) [] (wX4 c0 a0 a1 bytes size faultAt known bits) (ws := (wX4 c0 a0 a1 bytes size faultAt known bits)) (st := []) (st1 := [.int u6]) rfl rfl rfl rfl rfl rfl ⟨rfl, rfl, by decide, by decide⟩ rfl rfl (Nat.le_of_ble_eq_true rfl) dX4_judge_31 rfl ?_
      refine r_iload_n (n := 35) h 1 dX4_judge_34 rfl rfl rfl ?_
      refine r_iand (n := 36) h dX4_judge_35 rfl ?_
      refine r_iload_n (n := 37) h 2 dX4_judge_36 rfl rfl rfl ?_
      refine r_iconst (n := 38) h (-1 : Int32) dX4_judge_37 (by decide) rfl ?_
      refine r_ixor (n := 39) h dX4_judge_38 rfl ?_
      refine r_iand (n := 40) h dX4_judge_39 rfl ?_
      refine r_istore (n := 42) h [(0, .ref a0), (1, .int p1), (2, .int s.1), (3, .int s.2.1), (4, .int s.2.2), (5, .int ((u6 &&& p1) &&& (s.1 ^^^ (-1 : Int32))))] dX4_judge_40 (by decide) rfl rfl ?_
      refine r_iload (n := 44) h 5 dX4_judge_42 rfl rfl ?_
      refine r_if_ne (n := 47) h 50 dX4_judge_44 (by decide) rfl (fun hc8 => ?_) (fun hc8 => ?_)
      · have hf := h_neg hc8 hf
        exact tX4_judge_50 h hk7 s.1 s.2.1 s.2.2 ((u6 &&& p1) &&& (s.1 ^^^ (-1 : Int32))) hf
      · have hf := h_pos hc8 hf
        refine r_iload (n := 49) h 4 dX4_judge_47 rfl rfl ?_
        refine r_istore_n (n := 50) h [(0, .ref a0), (1, .int p1), (2, .int s.1), (3, .int s.2.2), (4, .int s.2.2), (5, .int ((u6 &&& p1) &&& (s.1 ^^^ (-1 : Int32))))] dX4_judge_49 rfl (by decide) rfl rfl ?_
        exact tX4_judge_50 h hk7 s.1 s.2.2 s.2.2 ((u6 &&& p1) &&& (s.1 ^^^ (-1 : Int32))) hf
def fX4_judge (N : Nat) (bytes : Nat → Int32) (size faultAt known bits : Int32) (p1 : Int32) : Option (Int32 × Int32 × Int32) :=
  lp (bX4_judge_7 N bytes size p1 faultAt known bits) N ((0 : Int32), (-1 : Int32), (0 : Int32))
theorem kX4_judge (l : Launch) (D : va_G) (c0 : Nat → ClassId) (a0 a1 : Nat) (bytes : Nat → Int32) (size faultAt known bits : Int32) (p1 : Int32) {N : Nat} {R : (Int32 × Int32 × Int32)} (hf : fX4_judge N bytes size faultAt known bits p1 = some R) : Ct l D c0 yX4_judge cX4_judge 6 (none) (rmF 1 22) [.ref a0, .int p1] (wX4 c0 a0 a1 bytes size faultAt known bits) none (wX4 c0 a0 a1 bytes size R.1 R.2.1 R.2.2) := by
  refine Ct.mk (own := RX4) [(0, .ref a0), (1, .int p1)] rfl pl_X4 rfl (Nat.le_of_ble_eq_true rfl) (fun K h  => ?_)
  unfold fX4_judge at hf
  refine r_iconst (n := 1) h (0 : Int32) dX4_judge_0 (by decide) rfl ?_
  refine r_istore_n (n := 2) h [(0, .ref a0), (1, .int p1), (2, .int (0 : Int32))] dX4_judge_1 rfl (by decide) rfl rfl ?_
  refine r_iconst (n := 3) h (-1 : Int32) dX4_judge_2 (by decide) rfl ?_
  refine r_istore_n (n := 4) h [(0, .ref a0), (1, .int p1), (2, .int (0 : Int32)), (3, .int (-1 : Int32))] dX4_judge_3 rfl (by decide) rfl rfl ?_
  refine r_iconst (n := 5) h (0 : Int32) dX4_judge_4 (by decide) rfl ?_
  refine r_istore (n := 7) h [(0, .ref a0), (1, .int p1), (2, .int (0 : Int32)), (3, .int (-1 : Int32)), (4, .int (0 : Int32))] dX4_judge_5 (by decide) rfl rfl ?_
  exact tX4_judge_7 h  N ((0 : Int32), (-1 : Int32), (0 : Int32)) hf
end
section
variable {l : Launch} {D : va_G} {c0 : Nat → ClassId} {K : KT} {N : Nat} {R : (Int32 × Int32 × Int32)} {a0 a1 : Nat} {bytes : Nat → Int32} {size faultAt known bits : Int32}
def fX4_judgeEnd (size faultAt known bits : Int32) : Option (Int32 × Int32 × Int32) :=
  (if faultAt = (-1 : Int32) then (if bits = (((1 : Int32) <<< (size &&& 31)) - (1 : Int32)) then some (faultAt, known, bits) else (fX4_keep size faultAt known bits size (0 : Int32)).bind (fun u3 => some (u3.1, u3.2.1, u3.2.2))) else some (faultAt, known, bits))
theorem kX4_judgeEnd (l : Launch) (D : va_G) (c0 : Nat → ClassId) (a0 a1 : Nat) (bytes : Nat → Int32) (size faultAt known bits : Int32)  {R : (Int32 × Int32 × Int32)} (hf : fX4_judgeEnd size faultAt known bits = some R) : Ct l D c0 yX4_judgeEnd cX4_judgeEnd 1 (none) (rmF 1 22) [.ref a0] (wX4 c0 a0 a1 bytes size faultAt known bits) none (wX4 c0 a0 a1 bytes size R.1 R.2.1 R.2.2) := by
  refine Ct.mk (own := RX4) [(0, .ref a0)] rfl pl_X4 rfl (Nat.le_of_ble_eq_true rfl) (fun K h  => ?_)
  unfold fX4_judgeEnd at hf
  refine r_aload_n (n := 1) h 0 dX4_judgeEnd_0 rfl rfl rfl ?_
  refine r_get (n := 4) h cf4 0 2 (v := .int faultAt) fl_X4_15 rfl (by decide) rfl dX4_judgeEnd_1 rfl ?_
  refine r_iconst (n := 5) h (-1 : Int32) dX4_judgeEnd_4 (by decide) rfl ?_
  refine r_icmp_ne (n := 8) h 32 dX4_judgeEnd_5 (by decide) rfl (fun hc1 => ?_) (fun hc1 => ?_)
  · have hf := h_neg hc1 hf
    have hf := Option.some.inj hf
    subst hf
    exact r_vret h dX4_judgeEnd_32
  · have hf := h_pos hc1 hf
    refine r_aload_n (n := 9) h 0 dX4_judgeEnd_8 rfl rfl rfl ?_
    refine r_get (n := 12) h cf4 0 4 (v := .int bits) fl_X4_30 rfl (by decide) rfl dX4_judgeEnd_9 rfl ?_
    refine r_iconst (n := 13) h (1 : Int32) dX4_judgeEnd_12 (by decide) rfl ?_
    refine r_aload_n (n := 14) h 0 dX4_judgeEnd_13 rfl rfl rfl ?_
    refine r_get (n := 17) h cf4 0 1 (v := .int size) fl_X4_19 rfl (by decide) rfl dX4_judgeEnd_14 rfl ?_
    refine r_ishl (n := 18) h dX4_judgeEnd_17 rfl ?_
    refine r_iconst (n := 19) h (1 : Int32) dX4_judgeEnd_18 (by decide) rfl ?_
    refine r_isub (n := 20) h dX4_judgeEnd_19 rfl ?_
    refine r_icmp_eq (n := 23) h 32 dX4_judgeEnd_20 (by decide) rfl (fun hc2 => ?_) (fun hc2 => ?_)
    · have hf := h_pos hc2 hf
      have hf := Option.some.inj hf
      subst hf
      exact r_vret h dX4_judgeEnd_32
    · have hf := h_neg hc2 hf
      refine r_aload_n (n := 24) h 0 dX4_judgeEnd_23 rfl rfl rfl ?_
      refine r_aload_n (n := 25) h 0 dX4_judgeEnd_24 rfl rfl rfl ?_
      refine r_get (n := 28) h cf4 0 1 (v := .int size) fl_X4_19 rfl (by decide) rfl dX4_judgeEnd_25 rfl ?_
      refine r_iconst (n := 29) h (0 : Int32) dX4_judgeEnd_28 (by decide) rfl ?_
      obtain ⟨u3, hu4, hf⟩ := h_bind hf
      refine r_callT (n := 32) h mi_X4_keep mv_X4_keep ml_X4_26 (kX4_keep l D c0 a0 a1 bytes size faultAt known bits size (0 : Int32) hu4) (wX4 c0 a0 a1 bytes size u3.1 u3.2.1 u3.2.2) (ws := (wX4 c0 a0 a1 bytes size faultAt known bits)) (st := []) (st1 := []) rfl rfl rfl rfl rfl rfl ⟨rfl, rfl, by decide, by decide⟩ rfl rfl (Nat.le_of_ble_eq_true rfl) dX4_judgeEnd_29 rfl ?_
      have hf := Option.some.inj hf
      subst hf
      exact r_vret h dX4_judgeEnd_32
end
section
variable {l : Launch} {D : va_G} {c0 : Nat → ClassId} {K : KT} {N : Nat} {R : Int32} {a0 a1 : Nat} {bytes : Nat → Int32} {size faultAt known bits : Int32} {p1 : Int32}
def bX4_placeOf_2 (N : Nat) (bytes : Nat → Int32) (known : Int32) (p1 : Int32) (k2 : Int32 → Option Int32) (s : Int32) : Option Int32 :=
  (if known ≤ s then some (-1 : Int32) else (fX4_guestAt bytes known s).bind (fun u2 => (if u2 = p1 then some s else k2 (s + (1 : Int32)))))
theorem tX4_placeOf_2  (h : OKm D c0 K RX4 cX4_placeOf 3 (some .int) (rmF 2 43) (some (.int R)) (wX4 c0 a0 a1 bytes size faultAt known bits))  : ∀ (n : Nat) (s : Int32), lp (bX4_placeOf_2 N bytes known p1) n s = some R → WW l D K 3 2 [(0, .ref a0), (1, .int p1), (2, .int s)] [] (wX4 c0 a0 a1 bytes size faultAt known bits) := by
  refine lp_ind (fun k2 hk2 s hf => ?_)
  unfold bX4_placeOf_2 at hf
  refine r_iload_n (n := 3) h 2 dX4_placeOf_2 rfl rfl rfl ?_
  refine r_aload_n (n := 4) h 0 dX4_placeOf_3 rfl rfl rfl ?_
  refine r_get (n := 7) h cf4 0 3 (v := .int known) fl_X4_33 rfl (by decide) rfl dX4_placeOf_4 rfl ?_
  refine r_icmp_ge (n := 10) h 27 dX4_placeOf_7 (by decide) rfl (fun hc1 => ?_) (fun hc1 => ?_)
  · have hf := h_pos hc1 hf
    refine r_iconst (n := 28) h (-1 : Int32) dX4_placeOf_27 (by decide) rfl ?_
    have hf := Option.some.inj hf
    subst hf
    exact r_iret h dX4_placeOf_28
  · have hf := h_neg hc1 hf
    refine r_aload_n (n := 11) h 0 dX4_placeOf_10 rfl rfl rfl ?_
    refine r_iload_n (n := 12) h 2 dX4_placeOf_11 rfl rfl rfl ?_
    obtain ⟨u2, hu3, hf⟩ := h_bind hf
    refine r_callT (n := 15) h mi_X4_guestAt mv_X4_guestAt ml_X4_40 (kX4_guestAt l D c0 a0 a1 bytes size faultAt known bits s hu3) (wX4 c0 a0 a1 bytes size faultAt known bits) (ws := (wX4 c0 a0 a1 bytes size faultAt known bits)) (st := []) (st1 := [.int u2]) rfl rfl rfl rfl rfl rfl ⟨rfl, rfl, by decide, by decide⟩ rfl rfl (Nat.le_of_ble_eq_true rfl) dX4_placeOf_12 rfl ?_
    refine r_iload_n (n := 16) h 1 dX4_placeOf_15 rfl rfl rfl ?_
    refine r_icmp_ne (n := 19) h 21 dX4_placeOf_16 (by decide) rfl (fun hc4 => ?_) (fun hc4 => ?_)
    · have hf := h_neg hc4 hf
      refine r_iinc (n := 24) h 2 (s + (1 : Int32)) [(0, .ref a0), (1, .int p1), (2, .int (s + (1 : Int32)))] dX4_placeOf_21 rfl rfl (by decide) rfl rfl ?_
      refine r_goto h 2 dX4_placeOf_24 (by decide) ?_
      exact hk2 (s + (1 : Int32)) hf
    · have hf := h_pos hc4 hf
      refine r_iload_n (n := 20) h 2 dX4_placeOf_19 rfl rfl rfl ?_
      have hf := Option.some.inj hf
      subst hf
      exact r_iret h dX4_placeOf_20
def fX4_placeOf (N : Nat) (bytes : Nat → Int32) (known : Int32) (p1 : Int32) : Option Int32 :=
  lp (bX4_placeOf_2 N bytes known p1) N (0 : Int32)
theorem kX4_placeOf (l : Launch) (D : va_G) (c0 : Nat → ClassId) (a0 a1 : Nat) (bytes : Nat → Int32) (size faultAt known bits : Int32) (p1 : Int32) {N : Nat} {R : Int32} (hf : fX4_placeOf N bytes known p1 = some R) : Ct l D c0 yX4_placeOf cX4_placeOf 3 (some .int) (rmF 2 43) [.ref a0, .int p1] (wX4 c0 a0 a1 bytes size faultAt known bits) (some (.int R)) (wX4 c0 a0 a1 bytes size faultAt known bits) := by
  refine Ct.mk (own := RX4) [(0, .ref a0), (1, .int p1)] rfl pl_X4 rfl (Nat.le_of_ble_eq_true rfl) (fun K h  => ?_)
  unfold fX4_placeOf at hf
  refine r_iconst (n := 1) h (0 : Int32) dX4_placeOf_0 (by decide) rfl ?_
  refine r_istore_n (n := 2) h [(0, .ref a0), (1, .int p1), (2, .int (0 : Int32))] dX4_placeOf_1 rfl (by decide) rfl rfl ?_
  exact tX4_placeOf_2 h  N (0 : Int32) hf
end
section
variable {l : Launch} {D : va_G} {c0 : Nat → ClassId} {K : KT} {N : Nat} {R : Int32} {a0 a1 : Nat} {bytes : Nat → Int32} {size faultAt known bits : Int32} {p1 : Int32} {p2 : Int32}
def bX4_pickOf_42 (N : Nat) (bytes : Nat → Int32) (known : Int32) (p1 : Int32) (p2 : Int32) (k5 : (Int32 × Int32) → Option Int32) (v3 : Int32) (v4 : Int32) : Option Int32 :=
  k5 (v3, (v4 + (1 : Int32)))
theorem tX4_pickOf_42 {k5 : (Int32 × Int32) → Option Int32} (h : OKm D c0 K RX4 cX4_pickOf 6 (some .int) (rmF 2 43) (some (.int R)) (wX4 c0 a0 a1 bytes size faultAt known bits))  (hk5 : ∀ s : (Int32 × Int32), k5 s = some R → WW l D K 6 5 [(0, .ref a0), (1, .int p1), (2, .int p2), (3, .int s.1), (4, .int s.2)] [] (wX4 c0 a0 a1 bytes size faultAt known bits)) (v3 : Int32) (v4 : Int32) (hf : bX4_pickOf_42 N bytes known p1 p2 k5 v3 v4 = some R) : WW l D K 6 42 [(0, .ref a0), (1, .int p1), (2, .int p2), (3, .int v3), (4, .int v4)] [] (wX4 c0 a0 a1 bytes size faultAt known bits) := by
  unfold bX4_pickOf_42 at hf
  refine r_iinc (n := 45) h 4 (v4 + (1 : Int32)) [(0, .ref a0), (1, .int p1), (2, .int p2), (3, .int v3), (4, .int (v4 + (1 : Int32)))] dX4_pickOf_42 rfl rfl (by decide) rfl rfl ?_
  refine r_goto h 5 dX4_pickOf_45 (by decide) ?_
  exact hk5 (v3, (v4 + (1 : Int32))) hf
def bX4_pickOf_5 (N : Nat) (bytes : Nat → Int32) (known : Int32) (p1 : Int32) (p2 : Int32) (k5 : (Int32 × Int32) → Option Int32) (s : (Int32 × Int32)) : Option Int32 :=
  (if known ≤ s.2 then some (-1 : Int32) else (fX4_guestAt bytes known s.2).bind (fun u2 => (fX6_has p1 u2).bind (fun u4 => (if u4 = 0 then bX4_pickOf_42 N bytes known p1 p2 k5 s.1 s.2 else (if s.1 = p2 then some u2 else bX4_pickOf_42 N bytes known p1 p2 k5 (s.1 + (1 : Int32)) s.2)))))
theorem tX4_pickOf_5  (h : OKm D c0 K RX4 cX4_pickOf 6 (some .int) (rmF 2 43) (some (.int R)) (wX4 c0 a0 a1 bytes size faultAt known bits))  : ∀ (n : Nat) (s : (Int32 × Int32)), lp (bX4_pickOf_5 N bytes known p1 p2) n s = some R → WW l D K 6 5 [(0, .ref a0), (1, .int p1), (2, .int p2), (3, .int s.1), (4, .int s.2)] [] (wX4 c0 a0 a1 bytes size faultAt known bits) := by
  refine lp_ind (fun k5 hk5 s hf => ?_)
  unfold bX4_pickOf_5 at hf
  refine r_iload (n := 7) h 4 dX4_pickOf_5 rfl rfl ?_
  refine r_aload_n (n := 8) h 0 dX4_pickOf_7 rfl rfl rfl ?_
  refine r_get (n := 11) h cf4 0 3 (v := .int known) fl_X4_33 rfl (by decide) rfl dX4_pickOf_8 rfl ?_
  refine r_icmp_ge (n := 14) h 48 dX4_pickOf_11 (by decide) rfl (fun hc1 => ?_) (fun hc1 => ?_)
  · have hf := h_pos hc1 hf
    refine r_iconst (n := 49) h (-1 : Int32) dX4_pickOf_48 (by decide) rfl ?_
    have hf := Option.some.inj hf
    subst hf
    exact r_iret h dX4_pickOf_49
  · have hf := h_neg hc1 hf
    refine r_aload_n (n := 15) h 0 dX4_pickOf_14 rfl rfl rfl ?_
    refine r_iload (n := 17) h 4 dX4_pickOf_15 rfl rfl ?_
    obtain ⟨u2, hu3, hf⟩ := h_bind hf
    refine r_callT (n := 20) h mi_X4_guestAt mv_X4_guestAt ml_X4_40 (kX4_guestAt l D c0 a0 a1 bytes size faultAt known bits s.2 hu3) (wX4 c0 a0 a1 bytes size faultAt known bits) (ws := (wX4 c0 a0 a1 bytes size faultAt known bits)) (st := []) (st1 := [.int u2]) rfl rfl rfl rfl rfl rfl ⟨rfl, rfl, by decide, by decide⟩ rfl rfl (Nat.le_of_ble_eq_true rfl) dX4_pickOf_17 rfl ?_
    refine r_istore (n := 22) h [(0, .ref a0), (1, .int p1), (2, .int p2), (3, .int s.1), (4, .int s.2), (5, .int u2)] dX4_pickOf_20 (by decide) rfl rfl ?_
    refine r_iload_n (n := 23) h 1 dX4_pickOf_22 rfl rfl rfl ?_
    refine r_iload (n := 25) h 5 dX4_pickOf_23 rfl rfl ?_
    obtain ⟨u4, hu5, hf⟩ := h_bind hf
    refine r_callN (n := 28) h mi_X6_has ms_X6_has mn_X4_43 (kX6_has l D c0 p1 u2 hu5) [] (wX4 c0 a0 a1 bytes size faultAt known bits) (ws := (wX4 c0 a0 a1 bytes size faultAt known bits)) (st := []) (st1 := [.int u4]) rfl rfl rfl rfl rfl rfl ⟨rfl, rfl, by decide, by decide⟩ rfl rfl (Nat.le_of_ble_eq_true rfl) dX4_pickOf_25 rfl ?_
    refine r_if_eq (n := 31) h 42 dX4_pickOf_28 (by decide) rfl (fun hc6 => ?_) (fun hc6 => ?_)
    · have hf := h_pos hc6 hf
      refine r_lv [0, 1, 2, 3, 4] (lv' := [(0, .ref a0), (1, .int p1), (2, .int p2), (3, .int s.1), (4, .int s.2)]) rfl ?_
      exact tX4_pickOf_42 h hk5 s.1 s.2 hf
    · have hf := h_neg hc6 hf
      refine r_iload_n (n := 32) h 3 dX4_pickOf_31 rfl rfl rfl ?_
      refine r_iload_n (n := 33) h 2 dX4_pickOf_32 rfl rfl rfl ?_
      refine r_icmp_ne (n := 36) h 39 dX4_pickOf_33 (by decide) rfl (fun hc7 => ?_) (fun hc7 => ?_)
      · have hf := h_neg hc7 hf
        refine r_iinc (n := 42) h 3 (s.1 + (1 : Int32)) [(0, .ref a0), (1, .int p1), (2, .int p2), (3, .int (s.1 + (1 : Int32))), (4, .int s.2), (5, .int u2)] dX4_pickOf_39 rfl rfl (by decide) rfl rfl ?_
        refine r_lv [0, 1, 2, 3, 4] (lv' := [(0, .ref a0), (1, .int p1), (2, .int p2), (3, .int (s.1 + (1 : Int32))), (4, .int s.2)]) rfl ?_
        exact tX4_pickOf_42 h hk5 (s.1 + (1 : Int32)) s.2 hf
      · have hf := h_pos hc7 hf
        refine r_iload (n := 38) h 5 dX4_pickOf_36 rfl rfl ?_
        have hf := Option.some.inj hf
        subst hf
        exact r_iret h dX4_pickOf_38
def fX4_pickOf (N : Nat) (bytes : Nat → Int32) (known : Int32) (p1 : Int32) (p2 : Int32) : Option Int32 :=
  lp (bX4_pickOf_5 N bytes known p1 p2) N ((0 : Int32), (0 : Int32))
theorem kX4_pickOf (l : Launch) (D : va_G) (c0 : Nat → ClassId) (a0 a1 : Nat) (bytes : Nat → Int32) (size faultAt known bits : Int32) (p1 : Int32) (p2 : Int32) {N : Nat} {R : Int32} (hf : fX4_pickOf N bytes known p1 p2 = some R) : Ct l D c0 yX4_pickOf cX4_pickOf 6 (some .int) (rmF 2 43) [.ref a0, .int p1, .int p2] (wX4 c0 a0 a1 bytes size faultAt known bits) (some (.int R)) (wX4 c0 a0 a1 bytes size faultAt known bits) := by
  refine Ct.mk (own := RX4) [(0, .ref a0), (1, .int p1), (2, .int p2)] rfl pl_X4 rfl (Nat.le_of_ble_eq_true rfl) (fun K h  => ?_)
  unfold fX4_pickOf at hf
  refine r_iconst (n := 1) h (0 : Int32) dX4_pickOf_0 (by decide) rfl ?_
  refine r_istore_n (n := 2) h [(0, .ref a0), (1, .int p1), (2, .int p2), (3, .int (0 : Int32))] dX4_pickOf_1 rfl (by decide) rfl rfl ?_
  refine r_iconst (n := 3) h (0 : Int32) dX4_pickOf_2 (by decide) rfl ?_
  refine r_istore (n := 5) h [(0, .ref a0), (1, .int p1), (2, .int p2), (3, .int (0 : Int32)), (4, .int (0 : Int32))] dX4_pickOf_3 (by decide) rfl rfl ?_
  exact tX4_pickOf_5 h  N ((0 : Int32), (0 : Int32)) hf
end
section
variable {l : Launch} {D : va_G} {c0 : Nat → ClassId} {K : KT} {N : Nat} {R : Int32} {a0 a1 : Nat} {bytes : Nat → Int32} {size faultAt known bits : Int32} {p1 : Int32}
def bX4_ringLength_8 (N : Nat) (bytes : Nat → Int32) (known : Int32) (p1 : Int32) (k8 : (Int32 × Int32) → Option Int32) (s : (Int32 × Int32)) : Option Int32 :=
  (if known ≤ s.1 then some s.1 else (if s.2 = p1 then some s.1 else (fX4_guestAt bytes known s.2).bind (fun u5 => k8 ((s.1 + (1 : Int32)), u5))))
theorem tX4_ringLength_8  (h : OKm D c0 K RX4 cX4_ringLength 4 (some .int) (rmF 2 43) (some (.int R)) (wX4 c0 a0 a1 bytes size faultAt known bits))  : ∀ (n : Nat) (s : (Int32 × Int32)), lp (bX4_ringLength_8 N bytes known p1) n s = some R → WW l D K 4 8 [(0, .ref a0), (1, .int p1), (2, .int s.1), (3, .int s.2)] [] (wX4 c0 a0 a1 bytes size faultAt known bits) := by
  refine lp_ind (fun k8 hk8 s hf => ?_)
  unfold bX4_ringLength_8 at hf
  refine r_iload_n (n := 9) h 2 dX4_ringLength_8 rfl rfl rfl ?_
  refine r_aload_n (n := 10) h 0 dX4_ringLength_9 rfl rfl rfl ?_
  refine r_get (n := 13) h cf4 0 3 (v := .int known) fl_X4_33 rfl (by decide) rfl dX4_ringLength_10 rfl ?_
  refine r_icmp_ge (n := 16) h 33 dX4_ringLength_13 (by decide) rfl (fun hc3 => ?_) (fun hc3 => ?_)
  · have hf := h_pos hc3 hf
    refine r_iload_n (n := 34) h 2 dX4_ringLength_33 rfl rfl rfl ?_
    have hf := Option.some.inj hf
    subst hf
    exact r_iret h dX4_ringLength_34
  · have hf := h_neg hc3 hf
    refine r_iload_n (n := 17) h 3 dX4_ringLength_16 rfl rfl rfl ?_
    refine r_iload_n (n := 18) h 1 dX4_ringLength_17 rfl rfl rfl ?_
    refine r_icmp_eq (n := 21) h 33 dX4_ringLength_18 (by decide) rfl (fun hc4 => ?_) (fun hc4 => ?_)
    · have hf := h_pos hc4 hf
      refine r_iload_n (n := 34) h 2 dX4_ringLength_33 rfl rfl rfl ?_
      have hf := Option.some.inj hf
      subst hf
      exact r_iret h dX4_ringLength_34
    · have hf := h_neg hc4 hf
      refine r_aload_n (n := 22) h 0 dX4_ringLength_21 rfl rfl rfl ?_
      refine r_iload_n (n := 23) h 3 dX4_ringLength_22 rfl rfl rfl ?_
      obtain ⟨u5, hu6, hf⟩ := h_bind hf
      refine r_callT (n := 26) h mi_X4_guestAt mv_X4_guestAt ml_X4_40 (kX4_guestAt l D c0 a0 a1 bytes size faultAt known bits s.2 hu6) (wX4 c0 a0 a1 bytes size faultAt known bits) (ws := (wX4 c0 a0 a1 bytes size faultAt known bits)) (st := []) (st1 := [.int u5]) rfl rfl rfl rfl rfl rfl ⟨rfl, rfl, by decide, by decide⟩ rfl rfl (Nat.le_of_ble_eq_true rfl) dX4_ringLength_23 rfl ?_
      refine r_istore_n (n := 27) h [(0, .ref a0), (1, .int p1), (2, .int s.1), (3, .int u5)] dX4_ringLength_26 rfl (by decide) rfl rfl ?_
      refine r_iinc (n := 30) h 2 (s.1 + (1 : Int32)) [(0, .ref a0), (1, .int p1), (2, .int (s.1 + (1 : Int32))), (3, .int u5)] dX4_ringLength_27 rfl rfl (by decide) rfl rfl ?_
      refine r_goto h 8 dX4_ringLength_30 (by decide) ?_
      exact hk8 ((s.1 + (1 : Int32)), u5) hf
def fX4_ringLength (N : Nat) (bytes : Nat → Int32) (known : Int32) (p1 : Int32) : Option Int32 :=
  (fX4_guestAt bytes known p1).bind (fun u1 => lp (bX4_ringLength_8 N bytes known p1) N ((1 : Int32), u1))
theorem kX4_ringLength (l : Launch) (D : va_G) (c0 : Nat → ClassId) (a0 a1 : Nat) (bytes : Nat → Int32) (size faultAt known bits : Int32) (p1 : Int32) {N : Nat} {R : Int32} (hf : fX4_ringLength N bytes known p1 = some R) : Ct l D c0 yX4_ringLength cX4_ringLength 4 (some .int) (rmF 2 43) [.ref a0, .int p1] (wX4 c0 a0 a1 bytes size faultAt known bits) (some (.int R)) (wX4 c0 a0 a1 bytes size faultAt known bits) := by
  refine Ct.mk (own := RX4) [(0, .ref a0), (1, .int p1)] rfl pl_X4 rfl (Nat.le_of_ble_eq_true rfl) (fun K h  => ?_)
  unfold fX4_ringLength at hf
  refine r_iconst (n := 1) h (1 : Int32) dX4_ringLength_0 (by decide) rfl ?_
  refine r_istore_n (n := 2) h [(0, .ref a0), (1, .int p1), (2, .int (1 : Int32))] dX4_ringLength_1 rfl (by decide) rfl rfl ?_
  refine r_aload_n (n := 3) h 0 dX4_ringLength_2 rfl rfl rfl ?_
  refine r_iload_n (n := 4) h 1 dX4_ringLength_3 rfl rfl rfl ?_
  obtain ⟨u1, hu2, hf⟩ := h_bind hf
  refine r_callT (n := 7) h mi_X4_guestAt mv_X4_guestAt ml_X4_40 (kX4_guestAt l D c0 a0 a1 bytes size faultAt known bits p1 hu2) (wX4 c0 a0 a1 bytes size faultAt known bits) (ws := (wX4 c0 a0 a1 bytes size faultAt known bits)) (st := []) (st1 := [.int u1]) rfl rfl rfl rfl rfl rfl ⟨rfl, rfl, by decide, by decide⟩ rfl rfl (Nat.le_of_ble_eq_true rfl) dX4_ringLength_4 rfl ?_
  refine r_istore_n (n := 8) h [(0, .ref a0), (1, .int p1), (2, .int (1 : Int32)), (3, .int u1)] dX4_ringLength_7 rfl (by decide) rfl rfl ?_
  exact tX4_ringLength_8 h  N ((1 : Int32), u1) hf
end
section
variable {l : Launch} {D : va_G} {c0 : Nat → ClassId} {K : KT} {N : Nat} {R : Int32} {a0 a1 : Nat} {bytes : Nat → Int32} {size faultAt known bits : Int32}
def bX4_countRings_71 (N : Nat) (bytes : Nat → Int32) (known : Int32) (k6 : (Int32 × Int32 × Int32) → Option Int32) (v1 : Int32) (v2 : Int32) (v3 : Int32) : Option Int32 :=
  k6 (v1, v2, (v3 + (1 : Int32)))
theorem tX4_countRings_71 {k6 : (Int32 × Int32 × Int32) → Option Int32} (h : OKm D c0 K RX4 cX4_countRings 6 (some .int) (rmF 2 43) (some (.int R)) (wX4 c0 a0 a1 bytes size faultAt known bits))  (hk6 : ∀ s : (Int32 × Int32 × Int32), k6 s = some R → WW l D K 6 6 [(0, .ref a0), (1, .int s.1), (2, .int s.2.1), (3, .int s.2.2)] [] (wX4 c0 a0 a1 bytes size faultAt known bits)) (v1 : Int32) (v2 : Int32) (v3 : Int32) (hf : bX4_countRings_71 N bytes known k6 v1 v2 v3 = some R) : WW l D K 6 71 [(0, .ref a0), (1, .int v1), (2, .int v2), (3, .int v3)] [] (wX4 c0 a0 a1 bytes size faultAt known bits) := by
  unfold bX4_countRings_71 at hf
  refine r_iinc (n := 74) h 3 (v3 + (1 : Int32)) [(0, .ref a0), (1, .int v1), (2, .int v2), (3, .int (v3 + (1 : Int32)))] dX4_countRings_71 rfl rfl (by decide) rfl rfl ?_
  refine r_goto h 6 dX4_countRings_74 (by decide) ?_
  exact hk6 (v1, v2, (v3 + (1 : Int32))) hf
def bX4_countRings_31 (N : Nat) (bytes : Nat → Int32) (known : Int32) (k6 : (Int32 × Int32 × Int32) → Option Int32) (v1 : Int32) (v3 : Int32) (k31 : (Int32 × Int32 × Int32) → Option Int32) (s : (Int32 × Int32 × Int32)) : Option Int32 :=
  (if known ≤ s.2.2 then bX4_countRings_71 N bytes known k6 v1 s.1 v3 else (fX6_has s.1 s.2.1).bind (fun u6 => (if u6 = 0 then (fX6_bit s.2.1).bind (fun u9 => (fX4_guestAt bytes known s.2.1).bind (fun u11 => k31 ((s.1 ||| u9), u11, (s.2.2 + (1 : Int32))))) else bX4_countRings_71 N bytes known k6 v1 s.1 v3)))
theorem tX4_countRings_31 {k6 : (Int32 × Int32 × Int32) → Option Int32} {v1 : Int32} {v3 : Int32} (h : OKm D c0 K RX4 cX4_countRings 6 (some .int) (rmF 2 43) (some (.int R)) (wX4 c0 a0 a1 bytes size faultAt known bits))  (hk6 : ∀ s : (Int32 × Int32 × Int32), k6 s = some R → WW l D K 6 6 [(0, .ref a0), (1, .int s.1), (2, .int s.2.1), (3, .int s.2.2)] [] (wX4 c0 a0 a1 bytes size faultAt known bits)) : ∀ (n : Nat) (s : (Int32 × Int32 × Int32)), lp (bX4_countRings_31 N bytes known k6 v1 v3) n s = some R → WW l D K 6 31 [(0, .ref a0), (1, .int v1), (2, .int s.1), (3, .int v3), (4, .int s.2.1), (5, .int s.2.2)] [] (wX4 c0 a0 a1 bytes size faultAt known bits) := by
  refine lp_ind (fun k31 hk31 s hf => ?_)
  unfold bX4_countRings_31 at hf
  refine r_iload (n := 33) h 5 dX4_countRings_31 rfl rfl ?_
  refine r_aload_n (n := 34) h 0 dX4_countRings_33 rfl rfl rfl ?_
  refine r_get (n := 37) h cf4 0 3 (v := .int known) fl_X4_33 rfl (by decide) rfl dX4_countRings_34 rfl ?_
  refine r_icmp_ge (n := 40) h 71 dX4_countRings_37 (by decide) rfl (fun hc5 => ?_) (fun hc5 => ?_)
  · have hf := h_pos hc5 hf
    refine r_lv [0, 1, 2, 3] (lv' := [(0, .ref a0), (1, .int v1), (2, .int s.1), (3, .int v3)]) rfl ?_
    exact tX4_countRings_71 h hk6 v1 s.1 v3 hf
  · have hf := h_neg hc5 hf
    refine r_iload_n (n := 41) h 2 dX4_countRings_40 rfl rfl rfl ?_
    refine r_iload (n := 43) h 4 dX4_countRings_41 rfl rfl ?_
    obtain ⟨u6, hu7, hf⟩ := h_bind hf
    refine r_callN (n := 46) h mi_X6_has ms_X6_has mn_X4_43 (kX6_has l D c0 s.1 s.2.1 hu7) [] (wX4 c0 a0 a1 bytes size faultAt known bits) (ws := (wX4 c0 a0 a1 bytes size faultAt known bits)) (st := []) (st1 := [.int u6]) rfl rfl rfl rfl rfl rfl ⟨rfl, rfl, by decide, by decide⟩ rfl rfl (Nat.le_of_ble_eq_true rfl) dX4_countRings_43 rfl ?_
    refine r_if_ne (n := 49) h 71 dX4_countRings_46 (by decide) rfl (fun hc8 => ?_) (fun hc8 => ?_)
    · have hf := h_neg hc8 hf
      refine r_lv [0, 1, 2, 3] (lv' := [(0, .ref a0), (1, .int v1), (2, .int s.1), (3, .int v3)]) rfl ?_
      exact tX4_countRings_71 h hk6 v1 s.1 v3 hf
    · have hf := h_pos hc8 hf
      refine r_iload_n (n := 50) h 2 dX4_countRings_49 rfl rfl rfl ?_
      refine r_iload (n := 52) h 4 dX4_countRings_50 rfl rfl ?_
      obtain ⟨u9, hu10, hf⟩ := h_bind hf
      refine r_callN (n := 55) h mi_X6_bit ms_X6_bit mn_X4_22 (kX6_bit l D c0 s.2.1 hu10) [] (wX4 c0 a0 a1 bytes size faultAt known bits) (ws := (wX4 c0 a0 a1 bytes size faultAt known bits)) (st := [.int s.1]) (st1 := [.int u9, .int s.1]) rfl rfl rfl rfl rfl rfl ⟨rfl, rfl, by decide, by decide⟩ rfl rfl (Nat.le_of_ble_eq_true rfl) dX4_countRings_52 rfl ?_
      refine r_ior (n := 56) h dX4_countRings_55 rfl ?_
      refine r_istore_n (n := 57) h [(0, .ref a0), (1, .int v1), (2, .int (s.1 ||| u9)), (3, .int v3), (4, .int s.2.1), (5, .int s.2.2)] dX4_countRings_56 rfl (by decide) rfl rfl ?_
      refine r_aload_n (n := 58) h 0 dX4_countRings_57 rfl rfl rfl ?_
      refine r_iload (n := 60) h 4 dX4_countRings_58 rfl rfl ?_
      obtain ⟨u11, hu12, hf⟩ := h_bind hf
      refine r_callT (n := 63) h mi_X4_guestAt mv_X4_guestAt ml_X4_40 (kX4_guestAt l D c0 a0 a1 bytes size faultAt known bits s.2.1 hu12) (wX4 c0 a0 a1 bytes size faultAt known bits) (ws := (wX4 c0 a0 a1 bytes size faultAt known bits)) (st := []) (st1 := [.int u11]) rfl rfl rfl rfl rfl rfl ⟨rfl, rfl, by decide, by decide⟩ rfl rfl (Nat.le_of_ble_eq_true rfl) dX4_countRings_60 rfl ?_
      refine r_istore (n := 65) h [(0, .ref a0), (1, .int v1), (2, .int (s.1 ||| u9)), (3, .int v3), (4, .int u11), (5, .int s.2.2)] dX4_countRings_63 (by decide) rfl rfl ?_
      refine r_iinc (n := 68) h 5 (s.2.2 + (1 : Int32)) [(0, .ref a0), (1, .int v1), (2, .int (s.1 ||| u9)), (3, .int v3), (4, .int u11), (5, .int (s.2.2 + (1 : Int32)))] dX4_countRings_65 rfl rfl (by decide) rfl rfl ?_
      refine r_goto h 31 dX4_countRings_68 (by decide) ?_
      exact hk31 ((s.1 ||| u9), u11, (s.2.2 + (1 : Int32))) hf
def bX4_countRings_25 (N : Nat) (bytes : Nat → Int32) (known : Int32) (k6 : (Int32 × Int32 × Int32) → Option Int32) (v1 : Int32) (v2 : Int32) (v3 : Int32) : Option Int32 :=
  lp (bX4_countRings_31 N bytes known k6 v1 v3) N (v2, v3, (0 : Int32))
theorem tX4_countRings_25 {k6 : (Int32 × Int32 × Int32) → Option Int32} (h : OKm D c0 K RX4 cX4_countRings 6 (some .int) (rmF 2 43) (some (.int R)) (wX4 c0 a0 a1 bytes size faultAt known bits))  (hk6 : ∀ s : (Int32 × Int32 × Int32), k6 s = some R → WW l D K 6 6 [(0, .ref a0), (1, .int s.1), (2, .int s.2.1), (3, .int s.2.2)] [] (wX4 c0 a0 a1 bytes size faultAt known bits)) (v1 : Int32) (v2 : Int32) (v3 : Int32) (hf : bX4_countRings_25 N bytes known k6 v1 v2 v3 = some R) : WW l D K 6 25 [(0, .ref a0), (1, .int v1), (2, .int v2), (3, .int v3)] [] (wX4 c0 a0 a1 bytes size faultAt known bits) := by
  unfold bX4_countRings_25 at hf
  refine r_iload_n (n := 26) h 3 dX4_countRings_25 rfl rfl rfl ?_
  refine r_istore (n := 28) h [(0, .ref a0), (1, .int v1), (2, .int v2), (3, .int v3), (4, .int v3)] dX4_countRings_26 (by decide) rfl rfl ?_
  refine r_iconst (n := 29) h (0 : Int32) dX4_countRings_28 (by decide) rfl ?_
  refine r_istore (n := 31) h [(0, .ref a0), (1, .int v1), (2, .int v2), (3, .int v3), (4, .int v3), (5, .int (0 : Int32))] dX4_countRings_29 (by decide) rfl rfl ?_
  exact tX4_countRings_31 h hk6 N (v2, v3, (0 : Int32)) hf
def bX4_countRings_6 (N : Nat) (bytes : Nat → Int32) (known : Int32) (k6 : (Int32 × Int32 × Int32) → Option Int32) (s : (Int32 × Int32 × Int32)) : Option Int32 :=
  (if known ≤ s.2.2 then some s.1 else (fX6_has s.2.1 s.2.2).bind (fun u2 => (if u2 = 0 then bX4_countRings_25 N bytes known k6 (s.1 + (1 : Int32)) s.2.1 s.2.2 else bX4_countRings_25 N bytes known k6 s.1 s.2.1 s.2.2)))
theorem tX4_countRings_6  (h : OKm D c0 K RX4 cX4_countRings 6 (some .int) (rmF 2 43) (some (.int R)) (wX4 c0 a0 a1 bytes size faultAt known bits))  : ∀ (n : Nat) (s : (Int32 × Int32 × Int32)), lp (bX4_countRings_6 N bytes known) n s = some R → WW l D K 6 6 [(0, .ref a0), (1, .int s.1), (2, .int s.2.1), (3, .int s.2.2)] [] (wX4 c0 a0 a1 bytes size faultAt known bits) := by
  refine lp_ind (fun k6 hk6 s hf => ?_)
  unfold bX4_countRings_6 at hf
  refine r_iload_n (n := 7) h 3 dX4_countRings_6 rfl rfl rfl ?_
  refine r_aload_n (n := 8) h 0 dX4_countRings_7 rfl rfl rfl ?_
  refine r_get (n := 11) h cf4 0 3 (v := .int known) fl_X4_33 rfl (by decide) rfl dX4_countRings_8 rfl ?_
  refine r_icmp_ge (n := 14) h 77 dX4_countRings_11 (by decide) rfl (fun hc1 => ?_) (fun hc1 => ?_)
  · have hf := h_pos hc1 hf
    refine r_iload_n (n := 78) h 1 dX4_countRings_77 rfl rfl rfl ?_
    have hf := Option.some.inj hf
    subst hf
    exact r_iret h dX4_countRings_78
  · have hf := h_neg hc1 hf
    refine r_iload_n (n := 15) h 2 dX4_countRings_14 rfl rfl rfl ?_
    refine r_iload_n (n := 16) h 3 dX4_countRings_15 rfl rfl rfl ?_
    obtain ⟨u2, hu3, hf⟩ := h_bind hf
    refine r_callN (n := 19) h mi_X6_has ms_X6_has mn_X4_43 (kX6_has l D c0 s.2.1 s.2.2 hu3) [] (wX4 c0 a0 a1 bytes size faultAt known bits) (ws := (wX4 c0 a0 a1 bytes size faultAt known bits)) (st := []) (st1 := [.int u2]) rfl rfl rfl rfl rfl rfl ⟨rfl, rfl, by decide, by decide⟩ rfl rfl (Nat.le_of_ble_eq_true rfl) dX4_countRings_16 rfl ?_
    refine r_if_ne (n := 22) h 25 dX4_countRings_19 (by decide) rfl (fun hc4 => ?_) (fun hc4 => ?_)
    · have hf := h_neg hc4 hf
      exact tX4_countRings_25 h hk6 s.1 s.2.1 s.2.2 hf
    · have hf := h_pos hc4 hf
      refine r_iinc (n := 25) h 1 (s.1 + (1 : Int32)) [(0, .ref a0), (1, .int (s.1 + (1 : Int32))), (2, .int s.2.1), (3, .int s.2.2)] dX4_countRings_22 rfl rfl (by decide) rfl rfl ?_
      exact tX4_countRings_25 h hk6 (s.1 + (1 : Int32)) s.2.1 s.2.2 hf
def fX4_countRings (N : Nat) (bytes : Nat → Int32) (known : Int32) : Option Int32 :=
  lp (bX4_countRings_6 N bytes known) N ((0 : Int32), (0 : Int32), (0 : Int32))
theorem kX4_countRings (l : Launch) (D : va_G) (c0 : Nat → ClassId) (a0 a1 : Nat) (bytes : Nat → Int32) (size faultAt known bits : Int32) {N : Nat} {R : Int32} (hf : fX4_countRings N bytes known = some R) : Ct l D c0 yX4_countRings cX4_countRings 6 (some .int) (rmF 2 43) [.ref a0] (wX4 c0 a0 a1 bytes size faultAt known bits) (some (.int R)) (wX4 c0 a0 a1 bytes size faultAt known bits) := by
  refine Ct.mk (own := RX4) [(0, .ref a0)] rfl pl_X4 rfl (Nat.le_of_ble_eq_true rfl) (fun K h  => ?_)
  unfold fX4_countRings at hf
  refine r_iconst (n := 1) h (0 : Int32) dX4_countRings_0 (by decide) rfl ?_
  refine r_istore_n (n := 2) h [(0, .ref a0), (1, .int (0 : Int32))] dX4_countRings_1 rfl (by decide) rfl rfl ?_
  refine r_iconst (n := 3) h (0 : Int32) dX4_countRings_2 (by decide) rfl ?_
  refine r_istore_n (n := 4) h [(0, .ref a0), (1, .int (0 : Int32)), (2, .int (0 : Int32))] dX4_countRings_3 rfl (by decide) rfl rfl ?_
  refine r_iconst (n := 5) h (0 : Int32) dX4_countRings_4 (by decide) rfl ?_
  refine r_istore_n (n := 6) h [(0, .ref a0), (1, .int (0 : Int32)), (2, .int (0 : Int32)), (3, .int (0 : Int32))] dX4_countRings_5 rfl (by decide) rfl rfl ?_
  exact tX4_countRings_6 h  N ((0 : Int32), (0 : Int32), (0 : Int32)) hf
end
section
variable {l : Launch} {D : va_G} {c0 : Nat → ClassId} {K : KT} {N : Nat} {R : (Int32 × (Nat → Int32) × Int32)} {a0 a1 a2 : Nat} {many : Int32} {aheadOf : Nat → Int32} {named : Int32} {ways : Nat → Int32} {p1 : Int32} {p2 : Int32}
def bX5_tell_81 (N : Nat) (p1 : Int32) (p2 : Int32) (v3 : Int32) (many : Int32) (named : Int32) (k43 : (Int32 × (Nat → Int32)) → Option (Int32 × (Nat → Int32) × Int32)) (v4 : Int32) (aheadOf : Nat → Int32) : Option (Int32 × (Nat → Int32) × Int32) :=
  k43 ((v4 + (1 : Int32)), aheadOf)
theorem tX5_tell_81 {v3 : Int32} {many : Int32} {named : Int32} {k43 : (Int32 × (Nat → Int32)) → Option (Int32 × (Nat → Int32) × Int32)} (h : OKm D c0 K RX5 cX5_tell 5 (none) (rmF 1 21) none (wX5 c0 a0 a1 a2 R.1 R.2.1 R.2.2 ways))  (hk43 : ∀ s : (Int32 × (Nat → Int32)), k43 s = some R → WW l D K 5 43 [(0, .ref a0), (2, .int p2), (3, .int v3), (4, .int s.1)] [] (wX5 c0 a0 a1 a2 many s.2 named ways)) (v4 : Int32) (aheadOf : Nat → Int32) (hf : bX5_tell_81 N p1 p2 v3 many named k43 v4 aheadOf = some R) : WW l D K 5 81 [(0, .ref a0), (2, .int p2), (3, .int v3), (4, .int v4)] [] (wX5 c0 a0 a1 a2 many aheadOf named ways) := by
  unfold bX5_tell_81 at hf
  refine r_iinc (n := 84) h 3 (v4 + (1 : Int32)) [(0, .ref a0), (2, .int p2), (3, .int v3), (4, .int (v4 + (1 : Int32)))] dX5_tell_81 rfl rfl (by decide) rfl rfl ?_
  refine r_goto h 43 dX5_tell_84 (by decide) ?_
  exact hk43 ((v4 + (1 : Int32)), aheadOf) hf
def bX5_tell_70 (N : Nat) (p1 : Int32) (p2 : Int32) (v3 : Int32) (many : Int32) (named : Int32) (k43 : (Int32 × (Nat → Int32)) → Option (Int32 × (Nat → Int32) × Int32)) (v4 : Int32) (aheadOf : Nat → Int32) : Option (Int32 × (Nat → Int32) × Int32) :=
  if chk v4 10 = true then if chk v4 10 = true then bX5_tell_81 N p1 p2 v3 many named k43 v4 (upd aheadOf (Int32.toNatClampNeg v4) ((aheadOf (Int32.toNatClampNeg v4)) ||| v3)) else none else none
theorem tX5_tell_70 {v3 : Int32} {many : Int32} {named : Int32} {k43 : (Int32 × (Nat → Int32)) → Option (Int32 × (Nat → Int32) × Int32)} (h : OKm D c0 K RX5 cX5_tell 5 (none) (rmF 1 21) none (wX5 c0 a0 a1 a2 R.1 R.2.1 R.2.2 ways))  (hk43 : ∀ s : (Int32 × (Nat → Int32)), k43 s = some R → WW l D K 5 43 [(0, .ref a0), (2, .int p2), (3, .int v3), (4, .int s.1)] [] (wX5 c0 a0 a1 a2 many s.2 named ways)) (v4 : Int32) (aheadOf : Nat → Int32) (hf : bX5_tell_70 N p1 p2 v3 many named k43 v4 aheadOf = some R) : WW l D K 5 70 [(0, .ref a0), (2, .int p2), (3, .int v3), (4, .int v4)] [] (wX5 c0 a0 a1 a2 many aheadOf named ways) := by
  unfold bX5_tell_70 at hf
  refine r_aload_n (n := 71) h 0 dX5_tell_70 rfl rfl rfl ?_
  refine r_get (n := 74) h cf5 0 1 (v := .ref a1) fl_X5_9 rfl (by decide) rfl dX5_tell_71 rfl ?_
  refine r_iload (n := 76) h 3 dX5_tell_74 rfl rfl ?_
  refine r_dup2 (n := 77) h dX5_tell_76 rfl rfl rfl ?_
  obtain ⟨hi10, hf⟩ := h_chk hf
  refine r_iald (n := 78) h 1 rfl hi10 dX5_tell_77 rfl ?_
  refine r_iload_n (n := 79) h 2 dX5_tell_78 rfl rfl rfl ?_
  refine r_ior (n := 80) h dX5_tell_79 rfl ?_
  obtain ⟨hi11, hf⟩ := h_chk hf
  refine r_iast (n := 81) h 1 (wX5 c0 a0 a1 a2 many (upd aheadOf (Int32.toNatClampNeg v4) ((aheadOf (Int32.toNatClampNeg v4)) ||| v3)) named ways) rfl hi11 rfl dX5_tell_80 rfl ?_
  exact tX5_tell_81 h hk43 v4 (upd aheadOf (Int32.toNatClampNeg v4) ((aheadOf (Int32.toNatClampNeg v4)) ||| v3)) hf
def bX5_tell_43 (N : Nat) (p1 : Int32) (p2 : Int32) (v3 : Int32) (many : Int32) (named : Int32) (k43 : (Int32 × (Nat → Int32)) → Option (Int32 × (Nat → Int32) × Int32)) (s : (Int32 × (Nat → Int32))) : Option (Int32 × (Nat → Int32) × Int32) :=
  (if (10 : Int32) ≤ s.1 then some (many, s.2, named) else (if s.1 = p2 then bX5_tell_70 N p1 p2 v3 many named k43 s.1 s.2 else if chk s.1 10 = true then (fX6_has (s.2 (Int32.toNatClampNeg s.1)) p2).bind (fun u13 => (if u13 = 0 then bX5_tell_81 N p1 p2 v3 many named k43 s.1 s.2 else bX5_tell_70 N p1 p2 v3 many named k43 s.1 s.2)) else none))
theorem tX5_tell_43 {v3 : Int32} {many : Int32} {named : Int32} (h : OKm D c0 K RX5 cX5_tell 5 (none) (rmF 1 21) none (wX5 c0 a0 a1 a2 R.1 R.2.1 R.2.2 ways))  : ∀ (n : Nat) (s : (Int32 × (Nat → Int32))), lp (bX5_tell_43 N p1 p2 v3 many named) n s = some R → WW l D K 5 43 [(0, .ref a0), (2, .int p2), (3, .int v3), (4, .int s.1)] [] (wX5 c0 a0 a1 a2 many s.2 named ways) := by
  refine lp_ind (fun k43 hk43 s hf => ?_)
  unfold bX5_tell_43 at hf
  refine r_iload (n := 45) h 3 dX5_tell_43 rfl rfl ?_
  refine r_bipush (n := 47) h (10 : Int32) dX5_tell_45 (by decide) rfl ?_
  refine r_icmp_ge (n := 50) h 87 dX5_tell_47 (by decide) rfl (fun hc8 => ?_) (fun hc8 => ?_)
  · have hf := h_pos hc8 hf
    have hf := Option.some.inj hf
    subst hf
    exact r_vret h dX5_tell_87
  · have hf := h_neg hc8 hf
    refine r_iload (n := 52) h 3 dX5_tell_50 rfl rfl ?_
    refine r_iload_n (n := 53) h 1 dX5_tell_52 rfl rfl rfl ?_
    refine r_icmp_eq (n := 56) h 70 dX5_tell_53 (by decide) rfl (fun hc9 => ?_) (fun hc9 => ?_)
    · have hf := h_pos hc9 hf
      exact tX5_tell_70 h hk43 s.1 s.2 hf
    · have hf := h_neg hc9 hf
      refine r_aload_n (n := 57) h 0 dX5_tell_56 rfl rfl rfl ?_
      refine r_get (n := 60) h cf5 0 1 (v := .ref a1) fl_X5_9 rfl (by decide) rfl dX5_tell_57 rfl ?_
      refine r_iload (n := 62) h 3 dX5_tell_60 rfl rfl ?_
      obtain ⟨hi12, hf⟩ := h_chk hf
      refine r_iald (n := 63) h 1 rfl hi12 dX5_tell_62 rfl ?_
      refine r_iload_n (n := 64) h 1 dX5_tell_63 rfl rfl rfl ?_
      obtain ⟨u13, hu14, hf⟩ := h_bind hf
      refine r_callN (n := 67) h mi_X6_has ms_X6_has mn_X5_29 (kX6_has l D c0 (s.2 (Int32.toNatClampNeg s.1)) p2 hu14) [] (wX5 c0 a0 a1 a2 many s.2 named ways) (ws := (wX5 c0 a0 a1 a2 many s.2 named ways)) (st := []) (st1 := [.int u13]) rfl rfl rfl rfl rfl rfl ⟨rfl, rfl, by decide, by decide⟩ rfl rfl (Nat.le_of_ble_eq_true rfl) dX5_tell_64 rfl ?_
      refine r_if_eq (n := 70) h 81 dX5_tell_67 (by decide) rfl (fun hc15 => ?_) (fun hc15 => ?_)
      · have hf := h_pos hc15 hf
        exact tX5_tell_81 h hk43 s.1 s.2 hf
      · have hf := h_neg hc15 hf
        exact tX5_tell_70 h hk43 s.1 s.2 hf
def fX5_tell (N : Nat) (many : Int32) (aheadOf : Nat → Int32) (named : Int32) (p1 : Int32) (p2 : Int32) : Option (Int32 × (Nat → Int32) × Int32) :=
  (fX6_bit p1).bind (fun u1 => (fX6_bit p2).bind (fun u3 => if chk p1 10 = true then (fX6_bit p1).bind (fun u6 => lp (bX5_tell_43 N p1 p2 ((aheadOf (Int32.toNatClampNeg p1)) ||| u6) (many + (1 : Int32)) (named ||| (u1 ||| u3))) N ((0 : Int32), aheadOf)) else none))
theorem kX5_tell (l : Launch) (D : va_G) (c0 : Nat → ClassId) (a0 a1 a2 : Nat) (many : Int32) (aheadOf : Nat → Int32) (named : Int32) (ways : Nat → Int32) (p1 : Int32) (p2 : Int32) {N : Nat} {R : (Int32 × (Nat → Int32) × Int32)} (hf : fX5_tell N many aheadOf named p1 p2 = some R) : Ct l D c0 yX5_tell cX5_tell 5 (none) (rmF 1 21) [.ref a0, .int p1, .int p2] (wX5 c0 a0 a1 a2 many aheadOf named ways) none (wX5 c0 a0 a1 a2 R.1 R.2.1 R.2.2 ways) := by
  refine Ct.mk (own := RX5) [(0, .ref a0), (1, .int p1), (2, .int p2)] rfl pl_X5 rfl (Nat.le_of_ble_eq_true rfl) (fun K h  => ?_)
  unfold fX5_tell at hf
  refine r_aload_n (n := 1) h 0 dX5_tell_0 rfl rfl rfl ?_
  refine r_dup (n := 2) h dX5_tell_1 rfl rfl ?_
  refine r_get (n := 5) h cf5 0 0 (v := .int many) fl_X5_18 rfl (by decide) rfl dX5_tell_2 rfl ?_
  refine r_iconst (n := 6) h (1 : Int32) dX5_tell_5 (by decide) rfl ?_
  refine r_iadd (n := 7) h dX5_tell_6 rfl ?_
  refine r_put (n := 10) h cf5 0 0 (wX5 c0 a0 a1 a2 (many + (1 : Int32)) aheadOf named ways) fl_X5_18 rfl (by decide) rfl rfl rfl (Nat.le_of_ble_eq_true rfl) rfl dX5_tell_7 rfl ?_
  refine r_aload_n (n := 11) h 0 dX5_tell_10 rfl rfl rfl ?_
  refine r_dup (n := 12) h dX5_tell_11 rfl rfl ?_
  refine r_get (n := 15) h cf5 0 2 (v := .int named) fl_X5_22 rfl (by decide) rfl dX5_tell_12 rfl ?_
  refine r_iload_n (n := 16) h 1 dX5_tell_15 rfl rfl rfl ?_
  obtain ⟨u1, hu2, hf⟩ := h_bind hf
  refine r_callN (n := 19) h mi_X6_bit ms_X6_bit mn_X5_25 (kX6_bit l D c0 p1 hu2) [] (wX5 c0 a0 a1 a2 (many + (1 : Int32)) aheadOf named ways) (ws := (wX5 c0 a0 a1 a2 (many + (1 : Int32)) aheadOf named ways)) (st := [.int named, .ref a0]) (st1 := [.int u1, .int named, .ref a0]) rfl rfl rfl rfl rfl rfl ⟨rfl, rfl, by decide, by decide⟩ rfl rfl (Nat.le_of_ble_eq_true rfl) dX5_tell_16 rfl ?_
  refine r_iload_n (n := 20) h 2 dX5_tell_19 rfl rfl rfl ?_
  obtain ⟨u3, hu4, hf⟩ := h_bind hf
  refine r_callN (n := 23) h mi_X6_bit ms_X6_bit mn_X5_25 (kX6_bit l D c0 p2 hu4) [] (wX5 c0 a0 a1 a2 (many + (1 : Int32)) aheadOf named ways) (ws := (wX5 c0 a0 a1 a2 (many + (1 : Int32)) aheadOf named ways)) (st := [.int u1, .int named, .ref a0]) (st1 := [.int u3, .int u1, .int named, .ref a0]) rfl rfl rfl rfl rfl rfl ⟨rfl, rfl, by decide, by decide⟩ rfl rfl (Nat.le_of_ble_eq_true rfl) dX5_tell_20 rfl ?_
  refine r_ior (n := 24) h dX5_tell_23 rfl ?_
  refine r_ior (n := 25) h dX5_tell_24 rfl ?_
  refine r_put (n := 28) h cf5 0 2 (wX5 c0 a0 a1 a2 (many + (1 : Int32)) aheadOf (named ||| (u1 ||| u3)) ways) fl_X5_22 rfl (by decide) rfl rfl rfl (Nat.le_of_ble_eq_true rfl) rfl dX5_tell_25 rfl ?_
  refine r_aload_n (n := 29) h 0 dX5_tell_28 rfl rfl rfl ?_
  refine r_get (n := 32) h cf5 0 1 (v := .ref a1) fl_X5_9 rfl (by decide) rfl dX5_tell_29 rfl ?_
  refine r_iload_n (n := 33) h 1 dX5_tell_32 rfl rfl rfl ?_
  obtain ⟨hi5, hf⟩ := h_chk hf
  refine r_iald (n := 34) h 1 rfl hi5 dX5_tell_33 rfl ?_
  refine r_iload_n (n := 35) h 1 dX5_tell_34 rfl rfl rfl ?_
  obtain ⟨u6, hu7, hf⟩ := h_bind hf
  refine r_callN (n := 38) h mi_X6_bit ms_X6_bit mn_X5_25 (kX6_bit l D c0 p1 hu7) [] (wX5 c0 a0 a1 a2 (many + (1 : Int32)) aheadOf (named ||| (u1 ||| u3)) ways) (ws := (wX5 c0 a0 a1 a2 (many + (1 : Int32)) aheadOf (named ||| (u1 ||| u3)) ways)) (st := [.int (aheadOf (Int32.toNatClampNeg p1))]) (st1 := [.int u6, .int (aheadOf (Int32.toNatClampNeg p1))]) rfl rfl rfl rfl rfl rfl ⟨rfl, rfl, by decide, by decide⟩ rfl rfl (Nat.le_of_ble_eq_true rfl) dX5_tell_35 rfl ?_
  refine r_ior (n := 39) h dX5_tell_38 rfl ?_
  refine r_istore_n (n := 40) h [(0, .ref a0), (1, .int p1), (2, .int p2), (3, .int ((aheadOf (Int32.toNatClampNeg p1)) ||| u6))] dX5_tell_39 rfl (by decide) rfl rfl ?_
  refine r_iconst (n := 41) h (0 : Int32) dX5_tell_40 (by decide) rfl ?_
  refine r_istore (n := 43) h [(0, .ref a0), (1, .int p1), (2, .int p2), (3, .int ((aheadOf (Int32.toNatClampNeg p1)) ||| u6)), (4, .int (0 : Int32))] dX5_tell_41 (by decide) rfl rfl ?_
  refine r_lv [0, 2, 3, 4] (lv' := [(0, .ref a0), (2, .int p2), (3, .int ((aheadOf (Int32.toNatClampNeg p1)) ||| u6)), (4, .int (0 : Int32))]) rfl ?_
  exact tX5_tell_43 h  N ((0 : Int32), aheadOf) hf
end
section
variable {l : Launch} {D : va_G} {c0 : Nat → ClassId} {K : KT} {N : Nat} {R : (Int32 × (Nat → Int32) × Int32)} {a0 a1 a2 : Nat} {many : Int32} {aheadOf : Nat → Int32} {named : Int32} {ways : Nat → Int32}
def bX5_clear_12 (N : Nat) (many : Int32) (named : Int32) (k12 : (Int32 × (Nat → Int32)) → Option (Int32 × (Nat → Int32) × Int32)) (s : (Int32 × (Nat → Int32))) : Option (Int32 × (Nat → Int32) × Int32) :=
  (if (10 : Int32) ≤ s.1 then some (many, s.2, named) else if chk s.1 10 = true then k12 ((s.1 + (1 : Int32)), (upd s.2 (Int32.toNatClampNeg s.1) (0 : Int32))) else none)
theorem tX5_clear_12 {many : Int32} {named : Int32} (h : OKm D c0 K RX5 cX5_clear 2 (none) (rmF 0 0) none (wX5 c0 a0 a1 a2 R.1 R.2.1 R.2.2 ways))  : ∀ (n : Nat) (s : (Int32 × (Nat → Int32))), lp (bX5_clear_12 N many named) n s = some R → WW l D K 2 12 [(0, .ref a0), (1, .int s.1)] [] (wX5 c0 a0 a1 a2 many s.2 named ways) := by
  refine lp_ind (fun k12 hk12 s hf => ?_)
  unfold bX5_clear_12 at hf
  refine r_iload_n (n := 13) h 1 dX5_clear_12 rfl rfl rfl ?_
  refine r_bipush (n := 15) h (10 : Int32) dX5_clear_13 (by decide) rfl ?_
  refine r_icmp_ge (n := 18) h 31 dX5_clear_15 (by decide) rfl (fun hc1 => ?_) (fun hc1 => ?_)
  · have hf := h_pos hc1 hf
    have hf := Option.some.inj hf
    subst hf
    exact r_vret h dX5_clear_31
  · have hf := h_neg hc1 hf
    refine r_aload_n (n := 19) h 0 dX5_clear_18 rfl rfl rfl ?_
    refine r_get (n := 22) h cf5 0 1 (v := .ref a1) fl_X5_9 rfl (by decide) rfl dX5_clear_19 rfl ?_
    refine r_iload_n (n := 23) h 1 dX5_clear_22 rfl rfl rfl ?_
    refine r_iconst (n := 24) h (0 : Int32) dX5_clear_23 (by decide) rfl ?_
    obtain ⟨hi2, hf⟩ := h_chk hf
    refine r_iast (n := 25) h 1 (wX5 c0 a0 a1 a2 many (upd s.2 (Int32.toNatClampNeg s.1) (0 : Int32)) named ways) rfl hi2 rfl dX5_clear_24 rfl ?_
    refine r_iinc (n := 28) h 1 (s.1 + (1 : Int32)) [(0, .ref a0), (1, .int (s.1 + (1 : Int32)))] dX5_clear_25 rfl rfl (by decide) rfl rfl ?_
    refine r_goto h 12 dX5_clear_28 (by decide) ?_
    exact hk12 ((s.1 + (1 : Int32)), (upd s.2 (Int32.toNatClampNeg s.1) (0 : Int32))) hf
def fX5_clear (N : Nat) (many : Int32) (aheadOf : Nat → Int32) (named : Int32) : Option (Int32 × (Nat → Int32) × Int32) :=
  lp (bX5_clear_12 N (0 : Int32) (0 : Int32)) N ((0 : Int32), aheadOf)
theorem kX5_clear (l : Launch) (D : va_G) (c0 : Nat → ClassId) (a0 a1 a2 : Nat) (many : Int32) (aheadOf : Nat → Int32) (named : Int32) (ways : Nat → Int32) {N : Nat} {R : (Int32 × (Nat → Int32) × Int32)} (hf : fX5_clear N many aheadOf named = some R) : Ct l D c0 yX5_clear cX5_clear 2 (none) (rmF 0 0) [.ref a0] (wX5 c0 a0 a1 a2 many aheadOf named ways) none (wX5 c0 a0 a1 a2 R.1 R.2.1 R.2.2 ways) := by
  refine Ct.mk (own := RX5) [(0, .ref a0)] rfl pl_X5 rfl (Nat.le_of_ble_eq_true rfl) (fun K h  => ?_)
  unfold fX5_clear at hf
  refine r_aload_n (n := 1) h 0 dX5_clear_0 rfl rfl rfl ?_
  refine r_iconst (n := 2) h (0 : Int32) dX5_clear_1 (by decide) rfl ?_
  refine r_put (n := 5) h cf5 0 0 (wX5 c0 a0 a1 a2 (0 : Int32) aheadOf named ways) fl_X5_18 rfl (by decide) rfl rfl rfl (Nat.le_of_ble_eq_true rfl) rfl dX5_clear_2 rfl ?_
  refine r_aload_n (n := 6) h 0 dX5_clear_5 rfl rfl rfl ?_
  refine r_iconst (n := 7) h (0 : Int32) dX5_clear_6 (by decide) rfl ?_
  refine r_put (n := 10) h cf5 0 2 (wX5 c0 a0 a1 a2 (0 : Int32) aheadOf (0 : Int32) ways) fl_X5_22 rfl (by decide) rfl rfl rfl (Nat.le_of_ble_eq_true rfl) rfl dX5_clear_7 rfl ?_
  refine r_iconst (n := 11) h (0 : Int32) dX5_clear_10 (by decide) rfl ?_
  refine r_istore_n (n := 12) h [(0, .ref a0), (1, .int (0 : Int32))] dX5_clear_11 rfl (by decide) rfl rfl ?_
  exact tX5_clear_12 h  N ((0 : Int32), aheadOf) hf
end
section
variable {l : Launch} {D : va_G} {c0 : Nat → ClassId} {K : KT} {N : Nat} {R : Int32} {a0 a1 a2 : Nat} {many : Int32} {aheadOf : Nat → Int32} {named : Int32} {ways : Nat → Int32} {p1 : Int32}
def bX5_holdsFor_47 (N : Nat) (aheadOf : Nat → Int32) (named : Int32) (p1 : Int32) (k19 : (Int32 × Int32) → Option Int32) (s0 : Int32) (v3 : Int32) : Option Int32 :=
  k19 (s0, (v3 + (1 : Int32)))
theorem tX5_holdsFor_47 {k19 : (Int32 × Int32) → Option Int32} (h : OKm D c0 K RX5 cX5_holdsFor 4 (some .boolean) (rmF 1 21) (some (.int R)) (wX5 c0 a0 a1 a2 many aheadOf named ways))  (hk19 : ∀ s : (Int32 × Int32), k19 s = some R → WW l D K 4 19 [(0, .ref a0), (2, .int s.1), (3, .int s.2)] [] (wX5 c0 a0 a1 a2 many aheadOf named ways)) (s0 : Int32) (v3 : Int32) (hf : bX5_holdsFor_47 N aheadOf named p1 k19 s0 v3 = some R) : WW l D K 4 47 [(0, .ref a0), (3, .int v3)] [.int s0] (wX5 c0 a0 a1 a2 many aheadOf named ways) := by
  unfold bX5_holdsFor_47 at hf
  refine r_istore_n (n := 48) h [(0, .ref a0), (2, .int s0), (3, .int v3)] dX5_holdsFor_47 rfl (by decide) rfl rfl ?_
  refine r_iinc (n := 51) h 2 (v3 + (1 : Int32)) [(0, .ref a0), (2, .int s0), (3, .int (v3 + (1 : Int32)))] dX5_holdsFor_48 rfl rfl (by decide) rfl rfl ?_
  refine r_goto h 19 dX5_holdsFor_51 (by decide) ?_
  exact hk19 (s0, (v3 + (1 : Int32))) hf
def bX5_holdsFor_19 (N : Nat) (aheadOf : Nat → Int32) (named : Int32) (p1 : Int32) (k19 : (Int32 × Int32) → Option Int32) (s : (Int32 × Int32)) : Option Int32 :=
  (if (10 : Int32) ≤ s.2 then if s.1 = 0 ∨ s.1 = 1 then some s.1 else none else (if s.1 = 0 then bX5_holdsFor_47 N aheadOf named p1 k19 (0 : Int32) s.2 else if chk s.2 10 = true then (fX6_has (aheadOf (Int32.toNatClampNeg s.2)) s.2).bind (fun u6 => (if u6 = 0 then bX5_holdsFor_47 N aheadOf named p1 k19 (1 : Int32) s.2 else bX5_holdsFor_47 N aheadOf named p1 k19 (0 : Int32) s.2)) else none))
theorem tX5_holdsFor_19  (h : OKm D c0 K RX5 cX5_holdsFor 4 (some .boolean) (rmF 1 21) (some (.int R)) (wX5 c0 a0 a1 a2 many aheadOf named ways))  : ∀ (n : Nat) (s : (Int32 × Int32)), lp (bX5_holdsFor_19 N aheadOf named p1) n s = some R → WW l D K 4 19 [(0, .ref a0), (2, .int s.1), (3, .int s.2)] [] (wX5 c0 a0 a1 a2 many aheadOf named ways) := by
  refine lp_ind (fun k19 hk19 s hf => ?_)
  unfold bX5_holdsFor_19 at hf
  refine r_iload_n (n := 20) h 2 dX5_holdsFor_19 rfl rfl rfl ?_
  refine r_bipush (n := 22) h (10 : Int32) dX5_holdsFor_20 (by decide) rfl ?_
  refine r_icmp_ge (n := 25) h 54 dX5_holdsFor_22 (by decide) rfl (fun hc2 => ?_) (fun hc2 => ?_)
  · have hf := h_pos hc2 hf
    refine r_iload_n (n := 55) h 1 dX5_holdsFor_54 rfl rfl rfl ?_
    obtain ⟨hv3, hf⟩ := h_ok hf
    have hf := Option.some.inj hf
    subst hf
    exact r_zret h (nar01 hv3) dX5_holdsFor_55
  · have hf := h_neg hc2 hf
    refine r_iload_n (n := 26) h 1 dX5_holdsFor_25 rfl rfl rfl ?_
    refine r_if_eq (n := 29) h 46 dX5_holdsFor_26 (by decide) rfl (fun hc4 => ?_) (fun hc4 => ?_)
    · have hf := h_pos hc4 hf
      refine r_iconst (n := 47) h (0 : Int32) dX5_holdsFor_46 (by decide) rfl ?_
      refine r_lv [0, 2] (lv' := [(0, .ref a0), (3, .int s.2)]) rfl ?_
      exact tX5_holdsFor_47 h hk19 (0 : Int32) s.2 hf
    · have hf := h_neg hc4 hf
      refine r_aload_n (n := 30) h 0 dX5_holdsFor_29 rfl rfl rfl ?_
      refine r_get (n := 33) h cf5 0 1 (v := .ref a1) fl_X5_9 rfl (by decide) rfl dX5_holdsFor_30 rfl ?_
      refine r_iload_n (n := 34) h 2 dX5_holdsFor_33 rfl rfl rfl ?_
      obtain ⟨hi5, hf⟩ := h_chk hf
      refine r_iald (n := 35) h 1 rfl hi5 dX5_holdsFor_34 rfl ?_
      refine r_iload_n (n := 36) h 2 dX5_holdsFor_35 rfl rfl rfl ?_
      obtain ⟨u6, hu7, hf⟩ := h_bind hf
      refine r_callN (n := 39) h mi_X6_has ms_X6_has mn_X5_29 (kX6_has l D c0 (aheadOf (Int32.toNatClampNeg s.2)) s.2 hu7) [] (wX5 c0 a0 a1 a2 many aheadOf named ways) (ws := (wX5 c0 a0 a1 a2 many aheadOf named ways)) (st := []) (st1 := [.int u6]) rfl rfl rfl rfl rfl rfl ⟨rfl, rfl, by decide, by decide⟩ rfl rfl (Nat.le_of_ble_eq_true rfl) dX5_holdsFor_36 rfl ?_
      refine r_if_ne (n := 42) h 46 dX5_holdsFor_39 (by decide) rfl (fun hc8 => ?_) (fun hc8 => ?_)
      · have hf := h_neg hc8 hf
        refine r_iconst (n := 47) h (0 : Int32) dX5_holdsFor_46 (by decide) rfl ?_
        refine r_lv [0, 2] (lv' := [(0, .ref a0), (3, .int s.2)]) rfl ?_
        exact tX5_holdsFor_47 h hk19 (0 : Int32) s.2 hf
      · have hf := h_pos hc8 hf
        refine r_iconst (n := 43) h (1 : Int32) dX5_holdsFor_42 (by decide) rfl ?_
        refine r_goto h 47 dX5_holdsFor_43 (by decide) ?_
        refine r_lv [0, 2] (lv' := [(0, .ref a0), (3, .int s.2)]) rfl ?_
        exact tX5_holdsFor_47 h hk19 (1 : Int32) s.2 hf
def fX5_holdsFor (N : Nat) (aheadOf : Nat → Int32) (named : Int32) (p1 : Int32) : Option Int32 :=
  (if (named &&& (p1 ^^^ (-1 : Int32))) = 0 then lp (bX5_holdsFor_19 N aheadOf named p1) N ((1 : Int32), (0 : Int32)) else lp (bX5_holdsFor_19 N aheadOf named p1) N ((0 : Int32), (0 : Int32)))
theorem kX5_holdsFor (l : Launch) (D : va_G) (c0 : Nat → ClassId) (a0 a1 a2 : Nat) (many : Int32) (aheadOf : Nat → Int32) (named : Int32) (ways : Nat → Int32) (p1 : Int32) {N : Nat} {R : Int32} (hf : fX5_holdsFor N aheadOf named p1 = some R) : Ct l D c0 yX5_holdsFor cX5_holdsFor 4 (some .boolean) (rmF 1 21) [.ref a0, .int p1] (wX5 c0 a0 a1 a2 many aheadOf named ways) (some (.int R)) (wX5 c0 a0 a1 a2 many aheadOf named ways) := by
  refine Ct.mk (own := RX5) [(0, .ref a0), (1, .int p1)] rfl pl_X5 rfl (Nat.le_of_ble_eq_true rfl) (fun K h  => ?_)
  unfold fX5_holdsFor at hf
  refine r_aload_n (n := 1) h 0 dX5_holdsFor_0 rfl rfl rfl ?_
  refine r_get (n := 4) h cf5 0 2 (v := .int named) fl_X5_22 rfl (by decide) rfl dX5_holdsFor_1 rfl ?_
  refine r_iload_n (n := 5) h 1 dX5_holdsFor_4 rfl rfl rfl ?_
  refine r_iconst (n := 6) h (-1 : Int32) dX5_holdsFor_5 (by decide) rfl ?_
  refine r_ixor (n := 7) h dX5_holdsFor_6 rfl ?_
  refine r_iand (n := 8) h dX5_holdsFor_7 rfl ?_
  refine r_if_ne (n := 11) h 15 dX5_holdsFor_8 (by decide) rfl (fun hc1 => ?_) (fun hc1 => ?_)
  · have hf := h_neg hc1 hf
    refine r_iconst (n := 16) h (0 : Int32) dX5_holdsFor_15 (by decide) rfl ?_
    refine r_istore_n (n := 17) h [(0, .ref a0), (1, .int p1), (2, .int (0 : Int32))] dX5_holdsFor_16 rfl (by decide) rfl rfl ?_
    refine r_iconst (n := 18) h (0 : Int32) dX5_holdsFor_17 (by decide) rfl ?_
    refine r_istore_n (n := 19) h [(0, .ref a0), (1, .int p1), (2, .int (0 : Int32)), (3, .int (0 : Int32))] dX5_holdsFor_18 rfl (by decide) rfl rfl ?_
    refine r_lv [0, 2, 3] (lv' := [(0, .ref a0), (2, .int (0 : Int32)), (3, .int (0 : Int32))]) rfl ?_
    exact tX5_holdsFor_19 h  N ((0 : Int32), (0 : Int32)) hf
  · have hf := h_pos hc1 hf
    refine r_iconst (n := 12) h (1 : Int32) dX5_holdsFor_11 (by decide) rfl ?_
    refine r_goto h 16 dX5_holdsFor_12 (by decide) ?_
    refine r_istore_n (n := 17) h [(0, .ref a0), (1, .int p1), (2, .int (1 : Int32))] dX5_holdsFor_16 rfl (by decide) rfl rfl ?_
    refine r_iconst (n := 18) h (0 : Int32) dX5_holdsFor_17 (by decide) rfl ?_
    refine r_istore_n (n := 19) h [(0, .ref a0), (1, .int p1), (2, .int (1 : Int32)), (3, .int (0 : Int32))] dX5_holdsFor_18 rfl (by decide) rfl rfl ?_
    refine r_lv [0, 2, 3] (lv' := [(0, .ref a0), (2, .int (1 : Int32)), (3, .int (0 : Int32))]) rfl ?_
    exact tX5_holdsFor_19 h  N ((1 : Int32), (0 : Int32)) hf
end
section
variable {l : Launch} {D : va_G} {c0 : Nat → ClassId} {K : KT} {N : Nat} {R : Int32} {a0 a1 a2 : Nat} {many : Int32} {aheadOf : Nat → Int32} {named : Int32} {ways : Nat → Int32} {p1 : Int32}
def bX5_behindNobody_34 (N : Nat) (aheadOf : Nat → Int32) (p1 : Int32) (k4 : (Int32 × Int32) → Option Int32) (v2 : Int32) (v3 : Int32) : Option Int32 :=
  k4 (v2, (v3 + (1 : Int32)))
theorem tX5_behindNobody_34 {k4 : (Int32 × Int32) → Option Int32} (h : OKm D c0 K RX5 cX5_behindNobody 4 (some .int) (rmF 1 21) (some (.int R)) (wX5 c0 a0 a1 a2 many aheadOf named ways))  (hk4 : ∀ s : (Int32 × Int32), k4 s = some R → WW l D K 4 4 [(0, .ref a0), (1, .int p1), (2, .int s.1), (3, .int s.2)] [] (wX5 c0 a0 a1 a2 many aheadOf named ways)) (v2 : Int32) (v3 : Int32) (hf : bX5_behindNobody_34 N aheadOf p1 k4 v2 v3 = some R) : WW l D K 4 34 [(0, .ref a0), (1, .int p1), (2, .int v2), (3, .int v3)] [] (wX5 c0 a0 a1 a2 many aheadOf named ways) := by
  unfold bX5_behindNobody_34 at hf
  refine r_iinc (n := 37) h 3 (v3 + (1 : Int32)) [(0, .ref a0), (1, .int p1), (2, .int v2), (3, .int (v3 + (1 : Int32)))] dX5_behindNobody_34 rfl rfl (by decide) rfl rfl ?_
  refine r_goto h 4 dX5_behindNobody_37 (by decide) ?_
  exact hk4 (v2, (v3 + (1 : Int32))) hf
def bX5_behindNobody_4 (N : Nat) (aheadOf : Nat → Int32) (p1 : Int32) (k4 : (Int32 × Int32) → Option Int32) (s : (Int32 × Int32)) : Option Int32 :=
  (if (10 : Int32) ≤ s.2 then some s.1 else (fX6_has p1 s.2).bind (fun u2 => (if u2 = 0 then bX5_behindNobody_34 N aheadOf p1 k4 s.1 s.2 else if chk s.2 10 = true then (if (aheadOf (Int32.toNatClampNeg s.2)) = 0 then (fX6_bit s.2).bind (fun u7 => bX5_behindNobody_34 N aheadOf p1 k4 (s.1 ||| u7) s.2) else bX5_behindNobody_34 N aheadOf p1 k4 s.1 s.2) else none)))
theorem tX5_behindNobody_4  (h : OKm D c0 K RX5 cX5_behindNobody 4 (some .int) (rmF 1 21) (some (.int R)) (wX5 c0 a0 a1 a2 many aheadOf named ways))  : ∀ (n : Nat) (s : (Int32 × Int32)), lp (bX5_behindNobody_4 N aheadOf p1) n s = some R → WW l D K 4 4 [(0, .ref a0), (1, .int p1), (2, .int s.1), (3, .int s.2)] [] (wX5 c0 a0 a1 a2 many aheadOf named ways) := by
  refine lp_ind (fun k4 hk4 s hf => ?_)
  unfold bX5_behindNobody_4 at hf
  refine r_iload_n (n := 5) h 3 dX5_behindNobody_4 rfl rfl rfl ?_
  refine r_bipush (n := 7) h (10 : Int32) dX5_behindNobody_5 (by decide) rfl ?_
  refine r_icmp_ge (n := 10) h 40 dX5_behindNobody_7 (by decide) rfl (fun hc1 => ?_) (fun hc1 => ?_)
  · have hf := h_pos hc1 hf
    refine r_iload_n (n := 41) h 2 dX5_behindNobody_40 rfl rfl rfl ?_
    have hf := Option.some.inj hf
    subst hf
    exact r_iret h dX5_behindNobody_41
  · have hf := h_neg hc1 hf
    refine r_iload_n (n := 11) h 1 dX5_behindNobody_10 rfl rfl rfl ?_
    refine r_iload_n (n := 12) h 3 dX5_behindNobody_11 rfl rfl rfl ?_
    obtain ⟨u2, hu3, hf⟩ := h_bind hf
    refine r_callN (n := 15) h mi_X6_has ms_X6_has mn_X5_29 (kX6_has l D c0 p1 s.2 hu3) [] (wX5 c0 a0 a1 a2 many aheadOf named ways) (ws := (wX5 c0 a0 a1 a2 many aheadOf named ways)) (st := []) (st1 := [.int u2]) rfl rfl rfl rfl rfl rfl ⟨rfl, rfl, by decide, by decide⟩ rfl rfl (Nat.le_of_ble_eq_true rfl) dX5_behindNobody_12 rfl ?_
    refine r_if_eq (n := 18) h 34 dX5_behindNobody_15 (by decide) rfl (fun hc4 => ?_) (fun hc4 => ?_)
    · have hf := h_pos hc4 hf
      exact tX5_behindNobody_34 h hk4 s.1 s.2 hf
    · have hf := h_neg hc4 hf
      refine r_aload_n (n := 19) h 0 dX5_behindNobody_18 rfl rfl rfl ?_
      refine r_get (n := 22) h cf5 0 1 (v := .ref a1) fl_X5_9 rfl (by decide) rfl dX5_behindNobody_19 rfl ?_
      refine r_iload_n (n := 23) h 3 dX5_behindNobody_22 rfl rfl rfl ?_
      obtain ⟨hi5, hf⟩ := h_chk hf
      refine r_iald (n := 24) h 1 rfl hi5 dX5_behindNobody_23 rfl ?_
      refine r_if_ne (n := 27) h 34 dX5_behindNobody_24 (by decide) rfl (fun hc6 => ?_) (fun hc6 => ?_)
      · have hf := h_neg hc6 hf
        exact tX5_behindNobody_34 h hk4 s.1 s.2 hf
      · have hf := h_pos hc6 hf
        refine r_iload_n (n := 28) h 2 dX5_behindNobody_27 rfl rfl rfl ?_
        refine r_iload_n (n := 29) h 3 dX5_behindNobody_28 rfl rfl rfl ?_
        obtain ⟨u7, hu8, hf⟩ := h_bind hf
        refine r_callN (n := 32) h mi_X6_bit ms_X6_bit mn_X5_25 (kX6_bit l D c0 s.2 hu8) [] (wX5 c0 a0 a1 a2 many aheadOf named ways) (ws := (wX5 c0 a0 a1 a2 many aheadOf named ways)) (st := [.int s.1]) (st1 := [.int u7, .int s.1]) rfl rfl rfl rfl rfl rfl ⟨rfl, rfl, by decide, by decide⟩ rfl rfl (Nat.le_of_ble_eq_true rfl) dX5_behindNobody_29 rfl ?_
        refine r_ior (n := 33) h dX5_behindNobody_32 rfl ?_
        refine r_istore_n (n := 34) h [(0, .ref a0), (1, .int p1), (2, .int (s.1 ||| u7)), (3, .int s.2)] dX5_behindNobody_33 rfl (by decide) rfl rfl ?_
        exact tX5_behindNobody_34 h hk4 (s.1 ||| u7) s.2 hf
def fX5_behindNobody (N : Nat) (aheadOf : Nat → Int32) (p1 : Int32) : Option Int32 :=
  lp (bX5_behindNobody_4 N aheadOf p1) N ((0 : Int32), (0 : Int32))
theorem kX5_behindNobody (l : Launch) (D : va_G) (c0 : Nat → ClassId) (a0 a1 a2 : Nat) (many : Int32) (aheadOf : Nat → Int32) (named : Int32) (ways : Nat → Int32) (p1 : Int32) {N : Nat} {R : Int32} (hf : fX5_behindNobody N aheadOf p1 = some R) : Ct l D c0 yX5_behindNobody cX5_behindNobody 4 (some .int) (rmF 1 21) [.ref a0, .int p1] (wX5 c0 a0 a1 a2 many aheadOf named ways) (some (.int R)) (wX5 c0 a0 a1 a2 many aheadOf named ways) := by
  refine Ct.mk (own := RX5) [(0, .ref a0), (1, .int p1)] rfl pl_X5 rfl (Nat.le_of_ble_eq_true rfl) (fun K h  => ?_)
  unfold fX5_behindNobody at hf
  refine r_iconst (n := 1) h (0 : Int32) dX5_behindNobody_0 (by decide) rfl ?_
  refine r_istore_n (n := 2) h [(0, .ref a0), (1, .int p1), (2, .int (0 : Int32))] dX5_behindNobody_1 rfl (by decide) rfl rfl ?_
  refine r_iconst (n := 3) h (0 : Int32) dX5_behindNobody_2 (by decide) rfl ?_
  refine r_istore_n (n := 4) h [(0, .ref a0), (1, .int p1), (2, .int (0 : Int32)), (3, .int (0 : Int32))] dX5_behindNobody_3 rfl (by decide) rfl rfl ?_
  exact tX5_behindNobody_4 h  N ((0 : Int32), (0 : Int32)) hf
end
section
variable {l : Launch} {D : va_G} {c0 : Nat → ClassId} {K : KT} {N : Nat} {R : Int32} {a0 a1 a2 : Nat} {many : Int32} {aheadOf : Nat → Int32} {named : Int32} {ways : Nat → Int32} {p1 : Int32}
def bX5_waysToGoFirst_52 (N : Nat) (aheadOf ways : Nat → Int32) (p1 : Int32) (k4 : (Int32 × Int32) → Option Int32) (v2 : Int32) (v3 : Int32) : Option Int32 :=
  k4 (v2, (v3 + (1 : Int32)))
theorem tX5_waysToGoFirst_52 {k4 : (Int32 × Int32) → Option Int32} (h : OKm D c0 K RX5 cX5_waysToGoFirst 5 (some .int) (rmF 1 21) (some (.int R)) (wX5 c0 a0 a1 a2 many aheadOf named ways))  (hk4 : ∀ s : (Int32 × Int32), k4 s = some R → WW l D K 5 4 [(0, .ref a0), (1, .int p1), (2, .int s.1), (3, .int s.2)] [] (wX5 c0 a0 a1 a2 many aheadOf named ways)) (v2 : Int32) (v3 : Int32) (hf : bX5_waysToGoFirst_52 N aheadOf ways p1 k4 v2 v3 = some R) : WW l D K 5 52 [(0, .ref a0), (1, .int p1), (2, .int v2), (3, .int v3)] [] (wX5 c0 a0 a1 a2 many aheadOf named ways) := by
  unfold bX5_waysToGoFirst_52 at hf
  refine r_iinc (n := 55) h 3 (v3 + (1 : Int32)) [(0, .ref a0), (1, .int p1), (2, .int v2), (3, .int (v3 + (1 : Int32)))] dX5_waysToGoFirst_52 rfl rfl (by decide) rfl rfl ?_
  refine r_goto h 4 dX5_waysToGoFirst_55 (by decide) ?_
  exact hk4 (v2, (v3 + (1 : Int32))) hf
def bX5_waysToGoFirst_4 (N : Nat) (aheadOf ways : Nat → Int32) (p1 : Int32) (k4 : (Int32 × Int32) → Option Int32) (s : (Int32 × Int32)) : Option Int32 :=
  (if (10 : Int32) ≤ s.2 then some s.1 else (fX6_bit s.2).bind (fun u2 => (fX6_has p1 s.2).bind (fun u4 => (if u4 = 0 then bX5_waysToGoFirst_52 N aheadOf ways p1 k4 s.1 s.2 else if chk s.2 10 = true then (if ((aheadOf (Int32.toNatClampNeg s.2)) &&& ((p1 &&& (u2 ^^^ (-1 : Int32))) ^^^ (-1 : Int32))) = 0 then if chk (p1 &&& (u2 ^^^ (-1 : Int32))) 1024 = true then nm (s.1 + (ways (Int32.toNatClampNeg (p1 &&& (u2 ^^^ (-1 : Int32)))))) (fun y10 => bX5_waysToGoFirst_52 N aheadOf ways p1 k4 y10 s.2) else none else bX5_waysToGoFirst_52 N aheadOf ways p1 k4 s.1 s.2) else none))))
theorem tX5_waysToGoFirst_4  (h : OKm D c0 K RX5 cX5_waysToGoFirst 5 (some .int) (rmF 1 21) (some (.int R)) (wX5 c0 a0 a1 a2 many aheadOf named ways))  : ∀ (n : Nat) (s : (Int32 × Int32)), lp (bX5_waysToGoFirst_4 N aheadOf ways p1) n s = some R → WW l D K 5 4 [(0, .ref a0), (1, .int p1), (2, .int s.1), (3, .int s.2)] [] (wX5 c0 a0 a1 a2 many aheadOf named ways) := by
  refine lp_ind (fun k4 hk4 s hf => ?_)
  unfold bX5_waysToGoFirst_4 at hf
  refine r_iload_n (n := 5) h 3 dX5_waysToGoFirst_4 rfl rfl rfl ?_
  refine r_bipush (n := 7) h (10 : Int32) dX5_waysToGoFirst_5 (by decide) rfl ?_
  refine r_icmp_ge (n := 10) h 58 dX5_waysToGoFirst_7 (by decide) rfl (fun hc1 => ?_) (fun hc1 => ?_)
  · have hf := h_pos hc1 hf
    refine r_iload_n (n := 59) h 2 dX5_waysToGoFirst_58 rfl rfl rfl ?_
    have hf := Option.some.inj hf
    subst hf
    exact r_iret h dX5_waysToGoFirst_59
  · have hf := h_neg hc1 hf
    refine r_iload_n (n := 11) h 1 dX5_waysToGoFirst_10 rfl rfl rfl ?_
    refine r_iload_n (n := 12) h 3 dX5_waysToGoFirst_11 rfl rfl rfl ?_
    obtain ⟨u2, hu3, hf⟩ := h_bind hf
    refine r_callN (n := 15) h mi_X6_bit ms_X6_bit mn_X5_25 (kX6_bit l D c0 s.2 hu3) [] (wX5 c0 a0 a1 a2 many aheadOf named ways) (ws := (wX5 c0 a0 a1 a2 many aheadOf named ways)) (st := [.int p1]) (st1 := [.int u2, .int p1]) rfl rfl rfl rfl rfl rfl ⟨rfl, rfl, by decide, by decide⟩ rfl rfl (Nat.le_of_ble_eq_true rfl) dX5_waysToGoFirst_12 rfl ?_
    refine r_iconst (n := 16) h (-1 : Int32) dX5_waysToGoFirst_15 (by decide) rfl ?_
    refine r_ixor (n := 17) h dX5_waysToGoFirst_16 rfl ?_
    refine r_iand (n := 18) h dX5_waysToGoFirst_17 rfl ?_
    refine r_istore (n := 20) h [(0, .ref a0), (1, .int p1), (2, .int s.1), (3, .int s.2), (4, .int (p1 &&& (u2 ^^^ (-1 : Int32))))] dX5_waysToGoFirst_18 (by decide) rfl rfl ?_
    refine r_iload_n (n := 21) h 1 dX5_waysToGoFirst_20 rfl rfl rfl ?_
    refine r_iload_n (n := 22) h 3 dX5_waysToGoFirst_21 rfl rfl rfl ?_
    obtain ⟨u4, hu5, hf⟩ := h_bind hf
    refine r_callN (n := 25) h mi_X6_has ms_X6_has mn_X5_29 (kX6_has l D c0 p1 s.2 hu5) [] (wX5 c0 a0 a1 a2 many aheadOf named ways) (ws := (wX5 c0 a0 a1 a2 many aheadOf named ways)) (st := []) (st1 := [.int u4]) rfl rfl rfl rfl rfl rfl ⟨rfl, rfl, by decide, by decide⟩ rfl rfl (Nat.le_of_ble_eq_true rfl) dX5_waysToGoFirst_22 rfl ?_
    refine r_if_eq (n := 28) h 52 dX5_waysToGoFirst_25 (by decide) rfl (fun hc6 => ?_) (fun hc6 => ?_)
    · have hf := h_pos hc6 hf
      refine r_lv [0, 1, 2, 3] (lv' := [(0, .ref a0), (1, .int p1), (2, .int s.1), (3, .int s.2)]) rfl ?_
      exact tX5_waysToGoFirst_52 h hk4 s.1 s.2 hf
    · have hf := h_neg hc6 hf
      refine r_aload_n (n := 29) h 0 dX5_waysToGoFirst_28 rfl rfl rfl ?_
      refine r_get (n := 32) h cf5 0 1 (v := .ref a1) fl_X5_9 rfl (by decide) rfl dX5_waysToGoFirst_29 rfl ?_
      refine r_iload_n (n := 33) h 3 dX5_waysToGoFirst_32 rfl rfl rfl ?_
      obtain ⟨hi7, hf⟩ := h_chk hf
      refine r_iald (n := 34) h 1 rfl hi7 dX5_waysToGoFirst_33 rfl ?_
      refine r_iload (n := 36) h 4 dX5_waysToGoFirst_34 rfl rfl ?_
      refine r_iconst (n := 37) h (-1 : Int32) dX5_waysToGoFirst_36 (by decide) rfl ?_
      refine r_ixor (n := 38) h dX5_waysToGoFirst_37 rfl ?_
      refine r_iand (n := 39) h dX5_waysToGoFirst_38 rfl ?_
      refine r_if_ne (n := 42) h 52 dX5_waysToGoFirst_39 (by decide) rfl (fun hc8 => ?_) (fun hc8 => ?_)
      · have hf := h_neg hc8 hf
        refine r_lv [0, 1, 2, 3] (lv' := [(0, .ref a0), (1, .int p1), (2, .int s.1), (3, .int s.2)]) rfl ?_
        exact tX5_waysToGoFirst_52 h hk4 s.1 s.2 hf
      · have hf := h_pos hc8 hf
        refine r_iload_n (n := 43) h 2 dX5_waysToGoFirst_42 rfl rfl rfl ?_
        refine r_aload_n (n := 44) h 0 dX5_waysToGoFirst_43 rfl rfl rfl ?_
        refine r_get (n := 47) h cf5 0 3 (v := .ref a2) fl_X5_15 rfl (by decide) rfl dX5_waysToGoFirst_44 rfl ?_
        refine r_iload (n := 49) h 4 dX5_waysToGoFirst_47 rfl rfl ?_
        obtain ⟨hi9, hf⟩ := h_chk hf
        refine r_iald (n := 50) h 2 rfl hi9 dX5_waysToGoFirst_49 rfl ?_
        refine r_iadd (n := 51) h dX5_waysToGoFirst_50 rfl ?_
        refine r_nmi hf (fun y10 hf => ?_)
        refine r_istore_n (n := 52) h [(0, .ref a0), (1, .int p1), (2, .int y10), (3, .int s.2), (4, .int (p1 &&& (u2 ^^^ (-1 : Int32))))] dX5_waysToGoFirst_51 rfl (by decide) rfl rfl ?_
        refine r_lv [0, 1, 2, 3] (lv' := [(0, .ref a0), (1, .int p1), (2, .int y10), (3, .int s.2)]) rfl ?_
        exact tX5_waysToGoFirst_52 h hk4 y10 s.2 hf
def fX5_waysToGoFirst (N : Nat) (aheadOf ways : Nat → Int32) (p1 : Int32) : Option Int32 :=
  lp (bX5_waysToGoFirst_4 N aheadOf ways p1) N ((0 : Int32), (0 : Int32))
theorem kX5_waysToGoFirst (l : Launch) (D : va_G) (c0 : Nat → ClassId) (a0 a1 a2 : Nat) (many : Int32) (aheadOf : Nat → Int32) (named : Int32) (ways : Nat → Int32) (p1 : Int32) {N : Nat} {R : Int32} (hf : fX5_waysToGoFirst N aheadOf ways p1 = some R) : Ct l D c0 yX5_waysToGoFirst cX5_waysToGoFirst 5 (some .int) (rmF 1 21) [.ref a0, .int p1] (wX5 c0 a0 a1 a2 many aheadOf named ways) (some (.int R)) (wX5 c0 a0 a1 a2 many aheadOf named ways) := by
  refine Ct.mk (own := RX5) [(0, .ref a0), (1, .int p1)] rfl pl_X5 rfl (Nat.le_of_ble_eq_true rfl) (fun K h  => ?_)
  unfold fX5_waysToGoFirst at hf
  refine r_iconst (n := 1) h (0 : Int32) dX5_waysToGoFirst_0 (by decide) rfl ?_
  refine r_istore_n (n := 2) h [(0, .ref a0), (1, .int p1), (2, .int (0 : Int32))] dX5_waysToGoFirst_1 rfl (by decide) rfl rfl ?_
  refine r_iconst (n := 3) h (0 : Int32) dX5_waysToGoFirst_2 (by decide) rfl ?_
  refine r_istore_n (n := 4) h [(0, .ref a0), (1, .int p1), (2, .int (0 : Int32)), (3, .int (0 : Int32))] dX5_waysToGoFirst_3 rfl (by decide) rfl rfl ?_
  exact tX5_waysToGoFirst_4 h  N ((0 : Int32), (0 : Int32)) hf
end
section
variable {l : Launch} {D : va_G} {c0 : Nat → ClassId} {K : KT} {N : Nat} {R : (Int64 × (Nat → Int32))} {a0 a1 a2 : Nat} {many : Int32} {aheadOf : Nat → Int32} {named : Int32} {ways : Nat → Int32} {p1 : Int32}
def bX5_countOrders_77 (N : Nat) (aheadOf : Nat → Int32) (named : Int32) (p1 : Int32) (ways : Nat → Int32) (k77 : (Int64 × Int32) → Option (Int64 × (Nat → Int32))) (s : (Int64 × Int32)) : Option (Int64 × (Nat → Int32)) :=
  (fJ6_bitCount_0f7a4 p1).bind (fun u8 => (if u8 < s.2 then some (s.1, ways) else k77 ((s.1 * ((s.2).toInt64)), (s.2 + (1 : Int32)))))
theorem tX5_countOrders_77 {ways : Nat → Int32} (h : OKm D c0 K RX5 cX5_countOrders 5 (some .long) (rmF 2 45) (some (.long R.1)) (wX5 c0 a0 a1 a2 many aheadOf named R.2))  : ∀ (n : Nat) (s : (Int64 × Int32)), lp (bX5_countOrders_77 N aheadOf named p1 ways) n s = some R → WW l D K 5 77 [(1, .int p1), (2, .long s.1), (4, .int s.2)] [] (wX5 c0 a0 a1 a2 many aheadOf named ways) := by
  refine lp_ind (fun k77 hk77 s hf => ?_)
  unfold bX5_countOrders_77 at hf
  refine r_iload (n := 79) h 2 dX5_countOrders_77 rfl rfl ?_
  refine r_iload_n (n := 80) h 0 dX5_countOrders_79 rfl rfl rfl ?_
  obtain ⟨u8, hu9, hf⟩ := h_bind hf
  refine r_callS (n := 83) h mi_J6_bitCount_0f7a4 ms_J6_bitCount_0f7a4 ml_X5_40 (kJ6_bitCount_0f7a4 l D c0 p1 hu9) [] (wX5 c0 a0 a1 a2 many aheadOf named ways) (ws := (wX5 c0 a0 a1 a2 many aheadOf named ways)) (st := [.int s.2]) (st1 := [.int u8, .int s.2]) rfl rfl rfl rfl rfl rfl ⟨rfl, rfl, by decide, by decide⟩ rfl rfl (Nat.le_of_ble_eq_true rfl) dX5_countOrders_80 rfl ?_
  refine r_icmp_gt (n := 86) h 98 dX5_countOrders_83 (by decide) rfl (fun hc10 => ?_) (fun hc10 => ?_)
  · have hf := h_pos hc10 hf
    refine r_lload_n (n := 99) h 1 dX5_countOrders_98 rfl rfl rfl ?_
    have hf := Option.some.inj hf
    subst hf
    exact r_lret h dX5_countOrders_99
  · have hf := h_neg hc10 hf
    refine r_lload_n (n := 87) h 1 dX5_countOrders_86 rfl rfl rfl ?_
    refine r_iload (n := 89) h 2 dX5_countOrders_87 rfl rfl ?_
    refine r_i2l (n := 90) h dX5_countOrders_89 rfl ?_
    refine r_lmul (n := 91) h dX5_countOrders_90 rfl ?_
    refine r_lstore_n (n := 92) h [(1, .int p1), (2, .long (s.1 * ((s.2).toInt64))), (4, .int s.2)] dX5_countOrders_91 rfl (by decide) rfl rfl ?_
    refine r_iinc (n := 95) h 2 (s.2 + (1 : Int32)) [(1, .int p1), (2, .long (s.1 * ((s.2).toInt64))), (4, .int (s.2 + (1 : Int32)))] dX5_countOrders_92 rfl rfl (by decide) rfl rfl ?_
    refine r_goto h 77 dX5_countOrders_95 (by decide) ?_
    exact hk77 ((s.1 * ((s.2).toInt64)), (s.2 + (1 : Int32))) hf
def bX5_countOrders_49 (N : Nat) (aheadOf : Nat → Int32) (named : Int32) (p1 : Int32) (k19 : (Int32 × (Nat → Int32)) → Option (Int64 × (Nat → Int32))) (v2 : Int32) (ways : Nat → Int32) : Option (Int64 × (Nat → Int32)) :=
  k19 ((v2 + (1 : Int32)), ways)
theorem tX5_countOrders_49 {k19 : (Int32 × (Nat → Int32)) → Option (Int64 × (Nat → Int32))} (h : OKm D c0 K RX5 cX5_countOrders 5 (some .long) (rmF 2 45) (some (.long R.1)) (wX5 c0 a0 a1 a2 many aheadOf named R.2))  (hk19 : ∀ s : (Int32 × (Nat → Int32)), k19 s = some R → WW l D K 5 19 [(0, .ref a0), (1, .int p1), (2, .int s.1)] [] (wX5 c0 a0 a1 a2 many aheadOf named s.2)) (v2 : Int32) (ways : Nat → Int32) (hf : bX5_countOrders_49 N aheadOf named p1 k19 v2 ways = some R) : WW l D K 5 49 [(0, .ref a0), (1, .int p1), (2, .int v2)] [] (wX5 c0 a0 a1 a2 many aheadOf named ways) := by
  unfold bX5_countOrders_49 at hf
  refine r_iinc (n := 52) h 2 (v2 + (1 : Int32)) [(0, .ref a0), (1, .int p1), (2, .int (v2 + (1 : Int32)))] dX5_countOrders_49 rfl rfl (by decide) rfl rfl ?_
  refine r_goto h 19 dX5_countOrders_52 (by decide) ?_
  exact hk19 ((v2 + (1 : Int32)), ways) hf
def bX5_countOrders_19 (N : Nat) (aheadOf : Nat → Int32) (named : Int32) (p1 : Int32) (k19 : (Int32 × (Nat → Int32)) → Option (Int64 × (Nat → Int32))) (s : (Int32 × (Nat → Int32))) : Option (Int64 × (Nat → Int32)) :=
  (if named < s.1 then if chk named 1024 = true then (fJ6_bitCount_0f7a4 named).bind (fun u6 => lp (bX5_countOrders_77 N aheadOf named p1 s.2) N ((((s.2 (Int32.toNatClampNeg named))).toInt64), (u6 + (1 : Int32)))) else none else (if (s.1 &&& (named ^^^ (-1 : Int32))) = 0 then (fX5_waysToGoFirst N aheadOf s.2 s.1).bind (fun u12 => if chk s.1 1024 = true then bX5_countOrders_49 N aheadOf named p1 k19 s.1 (upd s.2 (Int32.toNatClampNeg s.1) u12) else none) else bX5_countOrders_49 N aheadOf named p1 k19 s.1 s.2))
theorem tX5_countOrders_19  (h : OKm D c0 K RX5 cX5_countOrders 5 (some .long) (rmF 2 45) (some (.long R.1)) (wX5 c0 a0 a1 a2 many aheadOf named R.2))  : ∀ (n : Nat) (s : (Int32 × (Nat → Int32))), lp (bX5_countOrders_19 N aheadOf named p1) n s = some R → WW l D K 5 19 [(0, .ref a0), (1, .int p1), (2, .int s.1)] [] (wX5 c0 a0 a1 a2 many aheadOf named s.2) := by
  refine lp_ind (fun k19 hk19 s hf => ?_)
  unfold bX5_countOrders_19 at hf
  refine r_iload_n (n := 20) h 2 dX5_countOrders_19 rfl rfl rfl ?_
  refine r_aload_n (n := 21) h 0 dX5_countOrders_20 rfl rfl rfl ?_
  refine r_get (n := 24) h cf5 0 2 (v := .int named) fl_X5_22 rfl (by decide) rfl dX5_countOrders_21 rfl ?_
  refine r_icmp_gt (n := 27) h 55 dX5_countOrders_24 (by decide) rfl (fun hc4 => ?_) (fun hc4 => ?_)
  · have hf := h_pos hc4 hf
    refine r_aload_n (n := 56) h 0 dX5_countOrders_55 rfl rfl rfl ?_
    refine r_get (n := 59) h cf5 0 3 (v := .ref a2) fl_X5_15 rfl (by decide) rfl dX5_countOrders_56 rfl ?_
    refine r_aload_n (n := 60) h 0 dX5_countOrders_59 rfl rfl rfl ?_
    refine r_get (n := 63) h cf5 0 2 (v := .int named) fl_X5_22 rfl (by decide) rfl dX5_countOrders_60 rfl ?_
    obtain ⟨hi5, hf⟩ := h_chk hf
    refine r_iald (n := 64) h 2 rfl hi5 dX5_countOrders_63 rfl ?_
    refine r_i2l (n := 65) h dX5_countOrders_64 rfl ?_
    refine r_lstore_n (n := 66) h [(0, .ref a0), (1, .int p1), (2, .long (((s.2 (Int32.toNatClampNeg named))).toInt64))] dX5_countOrders_65 rfl (by decide) rfl rfl ?_
    refine r_aload_n (n := 67) h 0 dX5_countOrders_66 rfl rfl rfl ?_
    refine r_get (n := 70) h cf5 0 2 (v := .int named) fl_X5_22 rfl (by decide) rfl dX5_countOrders_67 rfl ?_
    obtain ⟨u6, hu7, hf⟩ := h_bind hf
    refine r_callS (n := 73) h mi_J6_bitCount_0f7a4 ms_J6_bitCount_0f7a4 ml_X5_40 (kJ6_bitCount_0f7a4 l D c0 named hu7) [] (wX5 c0 a0 a1 a2 many aheadOf named s.2) (ws := (wX5 c0 a0 a1 a2 many aheadOf named s.2)) (st := []) (st1 := [.int u6]) rfl rfl rfl rfl rfl rfl ⟨rfl, rfl, by decide, by decide⟩ rfl rfl (Nat.le_of_ble_eq_true rfl) dX5_countOrders_70 rfl ?_
    refine r_iconst (n := 74) h (1 : Int32) dX5_countOrders_73 (by decide) rfl ?_
    refine r_iadd (n := 75) h dX5_countOrders_74 rfl ?_
    refine r_istore (n := 77) h [(0, .ref a0), (1, .int p1), (2, .long (((s.2 (Int32.toNatClampNeg named))).toInt64)), (4, .int (u6 + (1 : Int32)))] dX5_countOrders_75 (by decide) rfl rfl ?_
    refine r_lv [1, 2, 3] (lv' := [(1, .int p1), (2, .long (((s.2 (Int32.toNatClampNeg named))).toInt64)), (4, .int (u6 + (1 : Int32)))]) rfl ?_
    exact tX5_countOrders_77 h  N ((((s.2 (Int32.toNatClampNeg named))).toInt64), (u6 + (1 : Int32))) hf
  · have hf := h_neg hc4 hf
    refine r_iload_n (n := 28) h 2 dX5_countOrders_27 rfl rfl rfl ?_
    refine r_aload_n (n := 29) h 0 dX5_countOrders_28 rfl rfl rfl ?_
    refine r_get (n := 32) h cf5 0 2 (v := .int named) fl_X5_22 rfl (by decide) rfl dX5_countOrders_29 rfl ?_
    refine r_iconst (n := 33) h (-1 : Int32) dX5_countOrders_32 (by decide) rfl ?_
    refine r_ixor (n := 34) h dX5_countOrders_33 rfl ?_
    refine r_iand (n := 35) h dX5_countOrders_34 rfl ?_
    refine r_if_ne (n := 38) h 49 dX5_countOrders_35 (by decide) rfl (fun hc11 => ?_) (fun hc11 => ?_)
    · have hf := h_neg hc11 hf
      exact tX5_countOrders_49 h hk19 s.1 s.2 hf
    · have hf := h_pos hc11 hf
      refine r_aload_n (n := 39) h 0 dX5_countOrders_38 rfl rfl rfl ?_
      refine r_get (n := 42) h cf5 0 3 (v := .ref a2) fl_X5_15 rfl (by decide) rfl dX5_countOrders_39 rfl ?_
      refine r_iload_n (n := 43) h 2 dX5_countOrders_42 rfl rfl rfl ?_
      refine r_aload_n (n := 44) h 0 dX5_countOrders_43 rfl rfl rfl ?_
      refine r_iload_n (n := 45) h 2 dX5_countOrders_44 rfl rfl rfl ?_
      obtain ⟨u12, hu13, hf⟩ := h_bind hf
      refine r_callT (n := 48) h mi_X5_waysToGoFirst mv_X5_waysToGoFirst ml_X5_37 (kX5_waysToGoFirst l D c0 a0 a1 a2 many aheadOf named s.2 s.1 hu13) (wX5 c0 a0 a1 a2 many aheadOf named s.2) (ws := (wX5 c0 a0 a1 a2 many aheadOf named s.2)) (st := [.int s.1, .ref a2]) (st1 := [.int u12, .int s.1, .ref a2]) rfl rfl rfl rfl rfl rfl ⟨rfl, rfl, by decide, by decide⟩ rfl rfl (Nat.le_of_ble_eq_true rfl) dX5_countOrders_45 rfl ?_
      obtain ⟨hi14, hf⟩ := h_chk hf
      refine r_iast (n := 49) h 2 (wX5 c0 a0 a1 a2 many aheadOf named (upd s.2 (Int32.toNatClampNeg s.1) u12)) rfl hi14 rfl dX5_countOrders_48 rfl ?_
      exact tX5_countOrders_49 h hk19 s.1 (upd s.2 (Int32.toNatClampNeg s.1) u12) hf
def fX5_countOrders (N : Nat) (aheadOf : Nat → Int32) (named : Int32) (ways : Nat → Int32) (p1 : Int32) : Option (Int64 × (Nat → Int32)) :=
  (fX5_holdsFor N aheadOf named p1).bind (fun u1 => (if u1 = 0 then some ((0 : Int64), ways) else lp (bX5_countOrders_19 N aheadOf named p1) N ((1 : Int32), (upd ways (Int32.toNatClampNeg (0 : Int32)) (1 : Int32)))))
theorem kX5_countOrders (l : Launch) (D : va_G) (c0 : Nat → ClassId) (a0 a1 a2 : Nat) (many : Int32) (aheadOf : Nat → Int32) (named : Int32) (ways : Nat → Int32) (p1 : Int32) {N : Nat} {R : (Int64 × (Nat → Int32))} (hf : fX5_countOrders N aheadOf named ways p1 = some R) : Ct l D c0 yX5_countOrders cX5_countOrders 5 (some .long) (rmF 2 45) [.ref a0, .int p1] (wX5 c0 a0 a1 a2 many aheadOf named ways) (some (.long R.1)) (wX5 c0 a0 a1 a2 many aheadOf named R.2) := by
  refine Ct.mk (own := RX5) [(0, .ref a0), (1, .int p1)] rfl pl_X5 rfl (Nat.le_of_ble_eq_true rfl) (fun K h  => ?_)
  unfold fX5_countOrders at hf
  refine r_aload_n (n := 1) h 0 dX5_countOrders_0 rfl rfl rfl ?_
  refine r_iload_n (n := 2) h 1 dX5_countOrders_1 rfl rfl rfl ?_
  obtain ⟨u1, hu2, hf⟩ := h_bind hf
  refine r_callT (n := 5) h mi_X5_holdsFor mv_X5_holdsFor ml_X5_33 (kX5_holdsFor l D c0 a0 a1 a2 many aheadOf named ways p1 hu2) (wX5 c0 a0 a1 a2 many aheadOf named ways) (ws := (wX5 c0 a0 a1 a2 many aheadOf named ways)) (st := []) (st1 := [.int u1]) rfl rfl rfl rfl rfl rfl ⟨rfl, rfl, by decide, by decide⟩ rfl rfl (Nat.le_of_ble_eq_true rfl) dX5_countOrders_2 rfl ?_
  refine r_if_ne (n := 8) h 10 dX5_countOrders_5 (by decide) rfl (fun hc3 => ?_) (fun hc3 => ?_)
  · have hf := h_neg hc3 hf
    refine r_aload_n (n := 11) h 0 dX5_countOrders_10 rfl rfl rfl ?_
    refine r_get (n := 14) h cf5 0 3 (v := .ref a2) fl_X5_15 rfl (by decide) rfl dX5_countOrders_11 rfl ?_
    refine r_iconst (n := 15) h (0 : Int32) dX5_countOrders_14 (by decide) rfl ?_
    refine r_iconst (n := 16) h (1 : Int32) dX5_countOrders_15 (by decide) rfl ?_
    refine r_iast (n := 17) h 2 (wX5 c0 a0 a1 a2 many aheadOf named (upd ways (Int32.toNatClampNeg (0 : Int32)) (1 : Int32))) rfl (chk_in rfl) rfl dX5_countOrders_16 rfl ?_
    refine r_iconst (n := 18) h (1 : Int32) dX5_countOrders_17 (by decide) rfl ?_
    refine r_istore_n (n := 19) h [(0, .ref a0), (1, .int p1), (2, .int (1 : Int32))] dX5_countOrders_18 rfl (by decide) rfl rfl ?_
    exact tX5_countOrders_19 h  N ((1 : Int32), (upd ways (Int32.toNatClampNeg (0 : Int32)) (1 : Int32))) hf
  · have hf := h_pos hc3 hf
    refine r_lconst (n := 9) h (0 : Int64) dX5_countOrders_8 (by decide) rfl ?_
    have hf := Option.some.inj hf
    subst hf
    exact r_lret h dX5_countOrders_9
end

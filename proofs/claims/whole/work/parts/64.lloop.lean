/-! ===== the law's loop, and how both sides begin ===== -/
theorem le6 {L i : Nat} (hL : L ≤ 384) (hi : i ≤ 390) (z : ¬ nI L - 6 < nI i) : i + 6 ≤ L := by
  by_cases c : L < 6
  · exfalso
    have h : ∀ k, k < 6 → (nI k - 6).toInt < 0 := by decide
    apply z
    rw [Int32.lt_iff_toInt_lt, nI_toInt (by omega)]
    have := h L c
    omega
  · obtain ⟨k, rfl⟩ : ∃ k, L = k + 6 := ⟨L - 6, by omega⟩
    have e : nI (k + 6) - 6 = nI k := by
      show nI (k + 1 + 1 + 1 + 1 + 1 + 1) - 6 = nI k
      rw [nI_succ, nI_succ, nI_succ, nI_succ, nI_succ, nI_succ, Int32.add_assoc, Int32.add_assoc, Int32.add_assoc, Int32.add_assoc, Int32.add_assoc]
      show nI k + 6 - 6 = nI k
      exact Int32.add_sub_cancel _ _
    rw [e] at z
    by_cases hh : k < i
    · exact absurd (nI_lt hh (by omega)) z
    · omega
theorem nI_ad (i : Nat) : nI i + 1 = nI (i + 1) ∧ nI i + 2 = nI (i + 2) ∧ nI i + 3 = nI (i + 3) ∧ nI i + 4 = nI (i + 4) ∧ nI i + 5 = nI (i + 5) ∧ nI i + 6 = nI (i + 6) := by
  refine ⟨?_, ?_, ?_, ?_, ?_, ?_⟩
  · rw [nI_succ]
  · show _ = nI (i + 1 + 1)
    rw [nI_succ, nI_succ, Int32.add_assoc]
    rfl
  · show _ = nI (i + 1 + 1 + 1)
    rw [nI_succ, nI_succ, nI_succ, Int32.add_assoc, Int32.add_assoc]
    rfl
  · show _ = nI (i + 1 + 1 + 1 + 1)
    rw [nI_succ, nI_succ, nI_succ, nI_succ, Int32.add_assoc, Int32.add_assoc, Int32.add_assoc]
    rfl
  · show _ = nI (i + 1 + 1 + 1 + 1 + 1)
    rw [nI_succ, nI_succ, nI_succ, nI_succ, nI_succ, Int32.add_assoc, Int32.add_assoc, Int32.add_assoc, Int32.add_assoc]
    rfl
  · show _ = nI (i + 1 + 1 + 1 + 1 + 1 + 1)
    rw [nI_succ, nI_succ, nI_succ, nI_succ, nI_succ, nI_succ, Int32.add_assoc, Int32.add_assoc, Int32.add_assoc, Int32.add_assoc, Int32.add_assoc]
    rfl
theorem InL_of {L i : Nat} (hL : L ≤ 384) (h : i + 6 ≤ L) : InL L (nI i) := by
  obtain ⟨e1, e2, e3, e4, e5, -⟩ := nI_ad i
  unfold InL
  rw [e1, e2, e3, e4, e5]
  exact ⟨nI_in (by omega) (by omega), nI_in (by omega) (by omega), nI_in (by omega) (by omega), nI_in (by omega) (by omega), nI_in (by omega) (by omega), nI_in (by omega) (by omega)⟩
section LL
variable {l : Launch} {D : va_G} {c0 : Nat → ClassId} {K : KT} {b L ce sl : Nat} {xs : Nat → Int32} {a6 a7 : Nat → Nat}
theorem law_head {i : Nat} (hOK : OKc D c0 K R_law code 4 room_1) (hX : XK K b L xs) (hL : L ≤ 384) (hi : i ≤ 390) (hend : ∀ lv ws, WA l D K 4 1243 lv [.int 1] ws ce sl) (kk : i + 6 ≤ L → LI l D K c0 b a6 a7 ce sl (nI i) 27) : LI l D K c0 b a6 a7 ce sl (nI i) 18 := by
  intro w6 w7 n β tr st h ea eb lo fo si it fd h6 h7
  refine q_iload_n hOK 3 dL_law_18 rfl rfl rfl ?_
  refine q_aload_n hOK 0 dL_law_19 rfl rfl rfl ?_
  refine q_slen hOK hX dL_law_20 rfl ?_
  refine q_bipush hOK 6 dL_law_21 (by decide) rfl ?_
  refine q_isub hOK dL_law_23 rfl ?_
  refine q_icmp_gt hOK 1242 dL_law_24 rfl rfl (fun _ => ?_) (fun z => ?_)
  · exact q_iconst hOK 1 dL_law_1242 (by decide) rfl (hend _ _)
  · exact kk (le6 hL hi z) w6 w7 n β tr st h ea eb lo fo si it fd h6 h7
theorem law_sw {i : Int32} (hOK : OKc D c0 K R_law code 4 room_1) (hX : XK K b L xs) (hZ : SK K) (hce : ce ≤ room_1.cells) (hsl : sl ≤ room_1.slots) (hI : InL L i) (kk : LI l D K c0 b a6 a7 ce sl i 1236) : LI l D K c0 b a6 a7 ce sl i 27 := by
  intro w6 w7 n β tr st h ea eb lo fo si it fd h6 h7
  refine q_aload_n hOK 0 dL_law_27 rfl rfl rfl ?_
  refine q_iload_n hOK 3 dL_law_28 rfl rfl rfl ?_
  refine q_sld hOK hX hI.1 dL_law_29 rfl ?_
  refine q_bipush hOK 63 dL_law_30 (by decide) rfl ?_
  refine q_iand hOK dL_law_32 rfl ?_
  generalize xs i.toNatClampNeg &&& 63 = x
  by_cases c : x.toInt < 0 ∨ 35 < x.toInt
  · exact q_tableOut hOK 1236 dL_law_33 c rfl (kk w6 w7 n β tr st h ea eb lo fo si it fd h6 h7)
  have c1 : ¬ x.toInt < 0 := fun z => c (Or.inl z)
  have c2 : ¬ (35 : Int) < x.toInt := fun z => c (Or.inr z)
  obtain ⟨k, hk, e⟩ : ∃ k : Nat, k < 36 ∧ x.toInt = (k : Int) := ⟨x.toInt.toNat, by omega, by omega⟩
  have ek : (x.toInt - 0).toNat = k := by omega
  match k, hk, ek with
  | 0, _, ek => exact q_tableIn hOK 192 dL_law_33 c1 c2 (by rw [ek]; rfl) rfl (lc_type hOK hX hZ hce hsl hI kk w6 w7 n β tr st h ea eb lo fo si it fd h6 h7)
  | 1, _, ek => exact q_tableIn hOK 225 dL_law_33 c1 c2 (by rw [ek]; rfl) rfl (lc_wipe hOK hX hZ hce hsl hI kk w6 w7 n β tr st h ea eb lo fo si it fd h6 h7)
  | 2, _, ek => exact q_tableIn hOK 248 dL_law_33 c1 c2 (by rw [ek]; rfl) rfl (lc_undo hOK hX hZ hce hsl hI kk w6 w7 n β tr st h ea eb lo fo si it fd h6 h7)
  | 3, _, ek => exact q_tableIn hOK 271 dL_law_33 c1 c2 (by rw [ek]; rfl) rfl (lc_fault hOK hX hZ hce hsl hI kk w6 w7 n β tr st h ea eb lo fo si it fd h6 h7)
  | 4, _, ek => exact q_tableIn hOK 294 dL_law_33 c1 c2 (by rw [ek]; rfl) rfl (lc_guest hOK hX hZ hce hsl hI kk w6 w7 n β tr st h ea eb lo fo si it fd h6 h7)
  | 5, _, ek => exact q_tableIn hOK 337 dL_law_33 c1 c2 (by rw [ek]; rfl) rfl (lc_set hOK hX hZ hce hsl hI kk w6 w7 n β tr st h ea eb lo fo si it fd h6 h7)
  | 6, _, ek => exact q_tableIn hOK 370 dL_law_33 c1 c2 (by rw [ek]; rfl) rfl (lc_read hOK hX hZ hce hsl hI kk w6 w7 n β tr st h ea eb lo fo si it fd h6 h7)
  | 7, _, ek => exact q_tableIn hOK 393 dL_law_33 c1 c2 (by rw [ek]; rfl) rfl (lc_judged hOK hX hZ hce hsl hI kk w6 w7 n β tr st h ea eb lo fo si it fd h6 h7)
  | 8, _, ek => exact q_tableIn hOK 406 dL_law_33 c1 c2 (by rw [ek]; rfl) rfl (lc_lies hOK hX hZ hce hsl hI kk w6 w7 n β tr st h ea eb lo fo si it fd h6 h7)
  | 9, _, ek => exact q_tableIn hOK 449 dL_law_33 c1 c2 (by rw [ek]; rfl) rfl (lc_lifted hOK hX hZ hce hsl hI kk w6 w7 n β tr st h ea eb lo fo si it fd h6 h7)
  | 10, _, ek => exact q_tableIn hOK 472 dL_law_33 c1 c2 (by rw [ek]; rfl) rfl (lc_rows hOK hX hZ hce hsl hI kk w6 w7 n β tr st h ea eb lo fo si it fd h6 h7)
  | 11, _, ek => exact q_tableIn hOK 495 dL_law_33 c1 c2 (by rw [ek]; rfl) rfl (lc_proof hOK hX hZ hce hsl hI kk w6 w7 n β tr st h ea eb lo fo si it fd h6 h7)
  | 12, _, ek => exact q_tableIn hOK 518 dL_law_33 c1 c2 (by rw [ek]; rfl) rfl (lc_least hOK hX hZ hce hsl hI kk w6 w7 n β tr st h ea eb lo fo si it fd h6 h7)
  | 13, _, ek => exact q_tableIn hOK 551 dL_law_33 c1 c2 (by rw [ek]; rfl) rfl (lc_rule hOK hX hZ hce hsl hI kk w6 w7 n β tr st h ea eb lo fo si it fd h6 h7)
  | 14, _, ek => exact q_tableIn hOK 584 dL_law_33 c1 c2 (by rw [ek]; rfl) rfl (lc_best hOK hX hZ hce hsl hI kk w6 w7 n β tr st h ea eb lo fo si it fd h6 h7)
  | 15, _, ek => exact q_tableIn hOK 607 dL_law_33 c1 c2 (by rw [ek]; rfl) rfl (lc_gap hOK hX hZ hce hsl hI kk w6 w7 n β tr st h ea eb lo fo si it fd h6 h7)
  | 16, _, ek => exact q_tableIn hOK 630 dL_law_33 c1 c2 (by rw [ek]; rfl) rfl (lc_mean hOK hX hZ hce hsl hI kk w6 w7 n β tr st h ea eb lo fo si it fd h6 h7)
  | 17, _, ek => exact q_tableIn hOK 664 dL_law_33 c1 c2 (by rw [ek]; rfl) rfl (lc_heap hOK hX hZ hce hsl hI kk w6 w7 n β tr st h ea eb lo fo si it fd h6 h7)
  | 18, _, ek => exact q_tableIn hOK 698 dL_law_33 c1 c2 (by rw [ek]; rfl) rfl (lc_out hOK hX hZ hce hsl hI kk w6 w7 n β tr st h ea eb lo fo si it fd h6 h7)
  | 19, _, ek => exact q_tableIn hOK 721 dL_law_33 c1 c2 (by rw [ek]; rfl) rfl (lc_wrong hOK hX hZ hce hsl hI kk w6 w7 n β tr st h ea eb lo fo si it fd h6 h7)
  | 20, _, ek => exact q_tableIn hOK 744 dL_law_33 c1 c2 (by rw [ek]; rfl) rfl (lc_swaps hOK hX hZ hce hsl hI kk w6 w7 n β tr st h ea eb lo fo si it fd h6 h7)
  | 21, _, ek => exact q_tableIn hOK 757 dL_law_33 c1 c2 (by rw [ek]; rfl) rfl (lc_alike hOK hX hZ hce hsl hI kk w6 w7 n β tr st h ea eb lo fo si it fd h6 h7)
  | 22, _, ek => exact q_tableIn hOK 781 dL_law_33 c1 c2 (by rw [ek]; rfl) rfl (lc_ahead hOK hX hZ hce hsl hI kk w6 w7 n β tr st h ea eb lo fo si it fd h6 h7)
  | 23, _, ek => exact q_tableIn hOK 814 dL_law_33 c1 c2 (by rw [ek]; rfl) rfl (lc_forget hOK hX hZ hce hsl hI kk w6 w7 n β tr st h ea eb lo fo si it fd h6 h7)
  | 24, _, ek => exact q_tableIn hOK 827 dL_law_33 c1 c2 (by rw [ek]; rfl) rfl (lc_fits hOK hX hZ hce hsl hI kk w6 w7 n β tr st h ea eb lo fo si it fd h6 h7)
  | 25, _, ek => exact q_tableIn hOK 851 dL_law_33 c1 c2 (by rw [ek]; rfl) rfl (lc_sure hOK hX hZ hce hsl hI kk w6 w7 n β tr st h ea eb lo fo si it fd h6 h7)
  | 26, _, ek => exact q_tableIn hOK 894 dL_law_33 c1 c2 (by rw [ek]; rfl) rfl (lc_firsts hOK hX hZ hce hsl hI kk w6 w7 n β tr st h ea eb lo fo si it fd h6 h7)
  | 27, _, ek => exact q_tableIn hOK 917 dL_law_33 c1 c2 (by rw [ek]; rfl) rfl (lc_night hOK hX hZ hce hsl hI kk w6 w7 n β tr st h ea eb lo fo si it fd h6 h7)
  | 28, _, ek => exact q_tableIn hOK 951 dL_law_33 c1 c2 (by rw [ek]; rfl) rfl (lc_sheet hOK hX hZ hce hsl hI kk w6 w7 n β tr st h ea eb lo fo si it fd h6 h7)
  | 29, _, ek => exact q_tableIn hOK 994 dL_law_33 c1 c2 (by rw [ek]; rfl) rfl (lc_lose hOK hX hZ hce hsl hI kk w6 w7 n β tr st h ea eb lo fo si it fd h6 h7)
  | 30, _, ek => exact q_tableIn hOK 1017 dL_law_33 c1 c2 (by rw [ek]; rfl) rfl (lc_put hOK hX hZ hce hsl hI kk w6 w7 n β tr st h ea eb lo fo si it fd h6 h7)
  | 31, _, ek => exact q_tableIn hOK 1070 dL_law_33 c1 c2 (by rw [ek]; rfl) rfl (lc_get hOK hX hZ hce hsl hI kk w6 w7 n β tr st h ea eb lo fo si it fd h6 h7)
  | 32, _, ek => exact q_tableIn hOK 1113 dL_law_33 c1 c2 (by rw [ek]; rfl) rfl (lc_copy hOK hX hZ hce hsl hI kk w6 w7 n β tr st h ea eb lo fo si it fd h6 h7)
  | 33, _, ek => exact q_tableIn hOK 1176 dL_law_33 c1 c2 (by rw [ek]; rfl) rfl (lc_write hOK hX hZ hce hsl hI kk w6 w7 n β tr st h ea eb lo fo si it fd h6 h7)
  | 34, _, ek => exact q_tableIn hOK 1199 dL_law_33 c1 c2 (by rw [ek]; rfl) rfl (lc_count hOK hX hZ hce hsl hI kk w6 w7 n β tr st h ea eb lo fo si it fd h6 h7)
  | 35, _, ek => exact q_tableIn hOK 1222 dL_law_33 c1 c2 (by rw [ek]; rfl) rfl (lc_digest hOK hX hZ hce hsl hI kk w6 w7 n β tr st h ea eb lo fo si it fd h6 h7)
  | k + 36, hk, _ => exact absurd hk (by omega)
theorem law_loop (hOK : OKc D c0 K R_law code 4 room_1) (hX : XK K b L xs) (hZ : SK K) (hce : ce ≤ room_1.cells) (hsl : sl ≤ room_1.slots) (hL : L ≤ 384) (hend : ∀ lv ws, WA l D K 4 1243 lv [.int 1] ws ce sl) : ∀ (f i : Nat), i ≤ 390 → L ≤ i + f → LI l D K c0 b a6 a7 ce sl (nI i) 18
  | 0, i, hi, hf => law_head hOK hX hL hi hend (fun h => by omega)
  | f + 1, i, hi, hf => law_head hOK hX hL hi hend (fun h => law_sw hOK hX hZ hce hsl (InL_of hL h) (by
      intro w6 w7 n β tr st h ea eb lo fo si it fd h6 h7
      refine q_iinc hOK 3 (nI (i + 6)) (lvL b (a6 0) (a7 0) (nI (i + 6))) dL_law_1236 rfl ?_ (by omega) rfl rfl ?_
      · exact (nI_ad i).2.2.2.2.2
      exact q_goto hOK 18 dL_law_1239 rfl (law_loop hOK hX hZ hce hsl hL hend f (i + 6) (by omega) (by omega) w6 w7 n β tr st h ea eb lo fo si it fd h6 h7)))
end LL
def stI : Nat → Nat := fun k => match k with | 0 => 10 | 1 => 1 | 2 => 2 | _ => 1
def seI : Nat → Int32 := upd (upd (upd (upd (fun _ => 0) (Int32.toNatClampNeg (0 : Int32)) (10 : Int32)) (Int32.toNatClampNeg (1 : Int32)) (1 : Int32)) (Int32.toNatClampNeg (2 : Int32)) (2 : Int32)) (Int32.toNatClampNeg (3 : Int32)) (1 : Int32)
theorem SB0 : SB stI := ⟨⟨by decide, by decide⟩, ⟨by decide, by decide⟩, ⟨by decide, by decide⟩, by decide⟩
theorem RSt0 : RSt stI seI := ⟨SB0, by decide⟩
theorem RTr0 : RTr (fun _ _ => 0) (fun _ => 0) (fun _ => 0) (fun _ => 0) := fun g _ => ⟨⟨rfl, Nat.zero_lt_succ _⟩, ⟨rfl, Nat.zero_lt_succ _⟩, ⟨rfl, Nat.zero_lt_succ _⟩⟩
theorem TX0' (t : Nat) : TX (fun _ => 0) (fun _ _ => 0) t (fun _ => 0) 0 := ⟨rfl, Nat.zero_le _, fun k hk => absurd hk (Nat.not_lt_zero k)⟩
theorem ToC0 : ToC 0 (fun _ => 0) (fun _ => 0) 0 (fun _ => 0) 0 := ⟨by omega, ⟨by omega, fun i hi => absurd hi (Nat.not_lt_zero i)⟩, rfl, by decide, by decide⟩
theorem ToM0 : ToM 0 (fun _ => 0) (fun _ => 0) 0 (fun _ => 0) (fun _ => 0) := ⟨by omega, ⟨by omega, fun i hi => absurd hi (Nat.not_lt_zero i)⟩, rfl, fun i hi => absurd hi (Nat.not_lt_zero i)⟩
theorem SC10 (s : Nat) : SC1 (fun _ => true) (fun _ => 0) (fun _ => 0) (fun _ _ => 0) s (fun _ => 0) 1 0 0 := ⟨rfl, rfl, rfl, fun _ _ => rfl⟩
theorem ShC0 : ShC (fun _ => true) (fun _ => 0) (fun _ => 0) (fun _ _ => 0) (fun _ => 0) 1 0 0 (fun _ => 0) 1 0 0 (fun _ => 0) 1 0 0 (fun _ => 0) 1 0 0 := ⟨fun _ _ => ⟨Nat.zero_le _, Nat.zero_le _⟩, SC10 0, SC10 1, SC10 2, SC10 3⟩
theorem ShM0 : ShM (fun _ => true) (fun _ => 0) (fun _ => 0) (fun _ _ => 0) (fun _ => 0) (fun _ => 0) (fun _ => 0) (fun _ => 0) := ⟨fun _ _ => ⟨Nat.zero_le _, Nat.zero_le _⟩, fun _ _ => ⟨rfl, rfl, rfl, fun _ _ => rfl⟩⟩
theorem ModT0 : ModT (fun _ => 0) (fun _ _ => 0) (fun _ _ => 0) stI (fun _ => 0) (fun _ => 0) (fun _ => 0) (fun _ => 0) (fun _ => 0) 10 1 2 1 := ⟨fun t _ => ⟨rfl, Nat.zero_le _, fun k hk => absurd hk (Nat.not_lt_zero k)⟩, RTr0, SB0, rfl, rfl, rfl, rfl⟩
abbrev B6 (c0 : Nat → ClassId) (ad : Nat → Nat) (w : va_W) : Prop := C6 c0 ad w (fun _ => 0) (fun _ _ => 0) (fun _ _ => 0) stI 0 (fun _ => 0) (fun _ => 0) (fun _ => true) (fun _ => 0) (fun _ => 0) (fun _ _ => 0) 0
abbrev B7 (c0 : Nat → ClassId) (ad : Nat → Nat) (w : va_W) : Prop := C7 c0 ad w (fun _ => 0) (fun _ _ => 0) (fun _ _ => 0) stI 0 (fun _ => 0) (fun _ => 0) (fun _ => true) (fun _ => 0) (fun _ => 0) (fun _ _ => 0) 0
theorem init6 (l : Launch) (D : va_G) (c0 : Nat → ClassId) (h0 : Nat) : ∃ wo : (Nat → Nat) → va_W, CtN l D c0 yX6_init cX6_init 2 { frames := 5, cells := 40, slots := 1484, locals := 111 } h0 (.inr (6, [.null, .null, .null, .null, .null, .null, .null, .null, .int 0])) 40 1484 wo ∧ ∀ ad, B6 c0 (va_up ad 0 h0) (wo ad) := by
  obtain ⟨R, e, hT⟩ := settleT (N := 2201) (n := fun _ => 0) (β := fun _ _ => 0) (tr := fun _ _ => 0) (st := stI) (t0_bytes := fun _ => 0) (t1_bytes := fun _ => 0) (t2_bytes := fun _ => 0) (tr0 := fun _ => 0) (tr1 := fun _ => 0) (tr2 := fun _ => 0) (settings := seI) (by omega) (TX0' 0) (TX0' 1) (TX0' 2) RTr0 RSt0
  exact ⟨_, kX6_init l D c0 h0 e, fun ad _ g => g _ _ _ _ _ _ _ _ _ _ _ _ _ _ _ _ _ _ _ _ _ _ _ _ _ _ _ _ _ _ _ _ _ _ _ _ _ _ _ _ _ _ _ _ _ _ _ _ _ _ _ _ _ _ _ _ _ _ _ _ _ _ rfl hT ToC0 ShC0 rfl⟩
theorem init7 (l : Launch) (D : va_G) (c0 : Nat → ClassId) (h0 : Nat) : ∃ wo : (Nat → Nat) → va_W, CtN l D c0 yX7_init cX7_init 1 { frames := 1, cells := 24, slots := 1467, locals := 12 } h0 (.inr (7, [.null, .null, .int 0, .null, .int 0, .int 0, .null, .int 0, .null, .null, .null, .null, .int 0, .int 0, .int 0, .int 0, .int 0, .int 0, .null, .int 0, .null, .null, .null, .null, .null, .null, .null, .int 0, .null, .null, .null, .null, .null, .null, .null, .null, .int 0])) 24 1467 wo ∧ ∀ ad, B7 c0 (va_up ad 0 h0) (wo ad) := ⟨_, kX7_init l D c0 h0, fun ad _ g => g _ _ _ _ _ _ _ _ _ _ _ _ _ _ _ _ _ _ _ _ _ _ _ _ _ _ _ _ _ _ _ _ _ _ _ _ _ rfl ModT0 ToM0 ShM0 rfl⟩

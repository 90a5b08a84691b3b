/-! ===== the law from its entry ===== -/
theorem ls_i0 : Cond.instantiable RX0 10 ∈ tbl := by decide +kernel
theorem ls_i1 : Cond.instantiable RX1 4 ∈ tbl := by decide +kernel
theorem ls_i2 : Cond.instantiable RX2 8 ∈ tbl := by decide +kernel
theorem ls_i3 : Cond.instantiable RX3 4 ∈ tbl := by decide +kernel
theorem ls_i4 : Cond.instantiable RX4 5 ∈ tbl := by decide +kernel
theorem ls_i5 : Cond.instantiable RX5 4 ∈ tbl := by decide +kernel
theorem ls_i6 : Cond.instantiable RX6 9 ∈ tbl := by decide +kernel
theorem ls_i7 : Cond.instantiable RX7 37 ∈ tbl := by decide +kernel
theorem ls_al : Cond.arrayClass .long ∈ tbl := by decide +kernel
theorem ls_ab : Cond.arrayClass .boolean ∈ tbl := by decide +kernel
theorem ls_o1 : Cond.arrayOver (.object "ShoesHall$Text") ∈ lw_tbl := by decide +kernel
theorem ls_o2 : Cond.arrayOver (.object "ShoesHall$Sheet") ∈ lw_tbl := by decide +kernel
theorem ls_o3 : Cond.arrayOver (.array .int) ∈ lw_tbl := by decide +kernel
theorem ls_s1 : Cond.laysStatic "ShoesHall" "SETTING_LEAST" "[I" ∈ lw_tbl := by decide +kernel
theorem ls_s2 : Cond.laysStatic "ShoesHall" "SETTING_MOST" "[I" ∈ lw_tbl := by decide +kernel
theorem ls_s3 : Cond.laysStatic "ShoesHall" "TRAIT_MOST" "[I" ∈ lw_tbl := by decide +kernel
theorem ls_c6 : Cond.classLink R_law 7 RX6 ∈ tbl := by decide +kernel
theorem ls_c7 : Cond.classLink R_law 10 RX7 ∈ tbl := by decide +kernel
theorem ls_m6 : MI yX6_init cX6_init 2 none 0 := ⟨by decide +kernel, lin6, by decide +kernel, by decide +kernel, by decide +kernel⟩
theorem ls_m7 : MI yX7_init cX7_init 1 none 0 := ⟨by decide +kernel, lin7, by decide +kernel, by decide +kernel, by decide +kernel⟩
theorem ls_n6 : Cond.instanceMethod yX6_init ∈ tbl := by decide +kernel
theorem ls_n7 : Cond.instanceMethod yX7_init ∈ tbl := by decide +kernel
theorem ls_l6 : Cond.methodLink R_law 9 yX6_init ∈ tbl := by decide +kernel
theorem ls_l7 : Cond.methodLink R_law 12 yX7_init ∈ tbl := by decide +kernel
theorem ls_d6 : ∀ j, j < 9 → defaultValue (tyX6 j) = vp_V [.null, .null, .null, .null, .null, .null, .null, .null, .int 0] j := by decide
theorem ls_d7 : ∀ j, j < 37 → defaultValue (tyX7 j) = vp_V [.null, .null, .int 0, .null, .int 0, .int 0, .null, .int 0, .null, .null, .null, .null, .int 0, .int 0, .int 0, .int 0, .int 0, .int 0, .null, .int 0, .null, .null, .null, .null, .null, .null, .null, .int 0, .null, .null, .null, .null, .null, .null, .null, .null, .int 0] j := by decide
theorem ls_classes {s : State} {args : Array Value} (htb : ∀ w ∈ tbl, w.before args s = true) : ∃ D : va_G, ∀ (k : Nat) (q : vw_C), vwCl[k]? = some q → u_Kn s q.1 q.2.1 q.2.2 (D.1 k) (D.2 k) := by
  obtain ⟨d0, s0, k0⟩ := u_known htb cf0.2.1 (htb _ ls_i0)
  obtain ⟨d1, s1, k1⟩ := u_known htb cf1.2.1 (htb _ ls_i1)
  obtain ⟨d2, s2, k2⟩ := u_known htb cf2.2.1 (htb _ ls_i2)
  obtain ⟨d3, s3, k3⟩ := u_known htb cf3.2.1 (htb _ ls_i3)
  obtain ⟨d4, s4, k4⟩ := u_known htb cf4.2.1 (htb _ ls_i4)
  obtain ⟨d5, s5, k5⟩ := u_known htb cf5.2.1 (htb _ ls_i5)
  obtain ⟨d6, s6, k6⟩ := u_known htb cf6.2.1 (htb _ ls_i6)
  obtain ⟨d7, s7, k7⟩ := u_known htb cf7.2.1 (htb _ ls_i7)
  refine ⟨(fun k => match k with | 0 => d0 | 1 => d1 | 2 => d2 | 3 => d3 | 4 => d4 | 5 => d5 | 6 => d6 | _ => d7, fun k => match k with | 0 => s0 | 1 => s1 | 2 => s2 | 3 => s3 | 4 => s4 | 5 => s5 | 6 => s6 | _ => s7), ?_⟩
  intro k q hq
  match k, hq with
  | 0, hq => cases hq; exact k0
  | 1, hq => cases hq; exact k1
  | 2, hq => cases hq; exact k2
  | 3, hq => cases hq; exact k3
  | 4, hq => cases hq; exact k4
  | 5, hq => cases hq; exact k5
  | 6, hq => cases hq; exact k6
  | 7, hq => cases hq; exact k7
  | k + 8, hq => cases hq
theorem ls_arr {s : State} {cA : ClassId} {ty : FieldType} {k : Class} {comp : ClassId} (h1 : s.vm.classes[cA]? = some k) (h2 : k.kind = .array comp ty) : ArrOfT s cA ty := fun _ _ => ⟨(fun q hq => by cases hq), k, h1, comp, h2⟩
theorem ls_types {s : State} {args : Array Value} (htb : ∀ w ∈ tbl, w.before args s = true) (hts : ∀ w ∈ lw_tbl, w.before args s = true) : ∃ c0 : Nat → ClassId, ∀ (k : Nat) (q : ClassId × FieldType), (TY c0)[k]? = some q → ArrOfT s q.1 q.2 ∧ va_RA s q.1 q.2 := by
  obtain ⟨e0, k0, p0, a0, b0, g0⟩ := Cond.arrayClass_spec (htb _ m_aci)
  obtain ⟨e1, k1, p1, a1, b1, g1⟩ := Cond.arrayClass_spec (htb _ ls_al)
  obtain ⟨e2, k2, p2, a2, b2, g2⟩ := Cond.arrayClass_spec (htb _ ls_ab)
  obtain ⟨p3, e3, k3, f3, -, b3, g3, a3⟩ := Cond.arrayOver_spec (hts _ ls_o1)
  obtain ⟨p4, e4, k4, f4, -, b4, g4, a4⟩ := Cond.arrayOver_spec (hts _ ls_o2)
  obtain ⟨p5, e5, k5, f5, -, b5, g5, a5⟩ := Jvm.Stand.arrayOver_specB (hts _ ls_o3)
  refine ⟨fun k => match k with | 0 => e0 | 1 => e1 | 2 => e2 | 3 => e3 | 4 => e4 | _ => e5, ?_⟩
  intro k q hq
  match k, hq with
  | 0, hq => cases hq; exact ⟨ls_arr b0 g0, a0⟩
  | 1, hq => cases hq; exact ⟨ls_arr b1 g1, a1⟩
  | 2, hq => cases hq; exact ⟨ls_arr b2 g2, a2⟩
  | 3, hq => cases hq; exact ⟨ls_arr b3 g3, k3, p3, b3, g3, f3, a3⟩
  | 4, hq => cases hq; exact ⟨ls_arr b4 g4, k4, p4, b4, g4, f4, a4⟩
  | 5, hq => cases hq; exact ⟨ls_arr b5 g5, a5⟩
  | k + 6, hq => cases hq
theorem ls_nw {s : State} {args : Array Value} (hts : ∀ w ∈ lw_tbl, w.before args s = true) : NW s := by
  intro w hw
  obtain ⟨h1, h2⟩ := List.mem_filter.mp hw
  have h3 := hts w (List.mem_append_right _ h1)
  cases w <;> first | exact va_Nw.of rfl h3 | cases h2
theorem ls_one {s : State} {args : Array Value} {A : Nat → Prop} {nm : String} {N : Nat} {f : Nat → Int32} (hN : N < 2 ^ 31) (hl : (Cond.laysStatic "ShoesHall" nm "[I").before args s = true) (hi : (Cond.initialized "ShoesHall").before args s = true) (ha : (Cond.arrayOf (.static "ShoesHall" nm "[I") .int).before args s = true) (hn : (Cond.eq (.length (.static "ShoesHall" nm "[I")) (.int (Int32.ofNat N))).before args s = true) (he : ∀ j : Nat, j < N → (Cond.eq (.elem (.static "ShoesHall" nm "[I") (.int (Int32.ofNat j))) (.int (f j))).before args s = true) (hA : ∀ a : Nat, a < s.heap.size → ¬ A a) : ∃ t, SZ1 A s nm t N f := by
  obtain ⟨t, ht, hT⟩ := va_Tof (f := fun k => .int (f k)) hN ha (va_eqt hn) (fun j hj => va_eqt (he j hj)) hA
  exact ⟨t, va_Zof hl hi ht hA, hT⟩
theorem ls_stat {s : State} {b : Nat} {A : Nat → Prop} (hts : ∀ w ∈ lw_tbl, w.before #[Value.ref b] s = true) (hgv : (Jvm.Cond.and given_1 narrow_1).before #[Value.ref b] s = true) (hA : ∀ a : Nat, a < s.heap.size → ¬ A a) : SZs A s := by
  have hs := flat_of_before _ hgv
  have hi : (Cond.initialized "ShoesHall").before #[Value.ref b] s = true := hts _ (List.mem_filter.mp lin6).1
  obtain ⟨t1, h1⟩ := ls_one (A := A) (nm := "SETTING_LEAST") (N := 4) (f := stSL) (by omega) (hts _ ls_s1) hi (hs _ (by decide +kernel)) (hs _ (by decide +kernel)) (fun j hj => by
    rcases (show j = 0 ∨ j = 1 ∨ j = 2 ∨ j = 3 by omega) with rfl | rfl | rfl | rfl <;> exact hs _ (by decide +kernel)) hA
  obtain ⟨t2, h2⟩ := ls_one (A := A) (nm := "SETTING_MOST") (N := 4) (f := stSM) (by omega) (hts _ ls_s2) hi (hs _ (by decide +kernel)) (hs _ (by decide +kernel)) (fun j hj => by
    rcases (show j = 0 ∨ j = 1 ∨ j = 2 ∨ j = 3 by omega) with rfl | rfl | rfl | rfl <;> exact hs _ (by decide +kernel)) hA
  obtain ⟨t3, h3⟩ := ls_one (A := A) (nm := "TRAIT_MOST") (N := 3) (f := stTM) (by omega) (hts _ ls_s3) hi (hs _ (by decide +kernel)) (hs _ (by decide +kernel)) (fun j hj => by
    rcases (show j = 0 ∨ j = 1 ∨ j = 2 by omega) with rfl | rfl | rfl <;> exact hs _ (by decide +kernel)) hA
  exact ⟨t1, t2, t3, h1, h2, h3⟩
/-- from the entry to the loop's head -/
theorem law_begin {l : Launch} {D : va_G} {c0 : Nat → ClassId} {K : KT} {b L : Nat} {xs : Nat → Int32} (hOK : OKc D c0 K R_law code 4 room_1) (hX : XK K b L xs) (hZ : SK K) (hL : L ≤ 384) (hend : ∀ (ce sl : Nat) lv ws, ce ≤ 600000 → sl ≤ 7302250 → WA l D K 4 1243 lv [.int 1] ws ce sl) : WA l D K 4 0 [(0, .ref b)] [] [] 0 0 := by
  refine q_new hOK cf6 [.null, .null, .null, .null, .null, .null, .null, .null, .int 0] ls_c6 ls_i6 lin6 rfl ls_d6 (Nat.le_of_ble_eq_true rfl) (Nat.le_of_ble_eq_true rfl) dL_law_0 rfl (fun q => [(q, .inr (6, [.null, .null, .null, .null, .null, .null, .null, .null, .int 0]))]) (fun _ => rfl) (ce' := 1) (sl' := 9) rfl rfl (fun q => ?_)
  refine q_dup hOK dL_law_3 rfl rfl ?_
  obtain ⟨wo, hct, hB⟩ := init6 l D c0 q
  refine q_ctor hOK [] wo ls_m6 rfl ls_n6 (Or.inl ls_l6) hct ⟨rfl, rfl, Nat.le_of_ble_eq_true rfl, Nat.le_of_ble_eq_true rfl⟩ (Nat.le_of_ble_eq_true rfl) (Nat.le_of_ble_eq_true rfl) rfl (fun _ => rfl) (Nat.le_of_ble_eq_true rfl) dL_law_4 rfl (ce' := 41) (sl' := 1493) rfl rfl (fun ad => ?_)
  have h6 := hB ad
  generalize wo ad = w6 at h6 ⊢
  have e6 : (va_up ad 0 q) 0 = q := rfl
  generalize va_up ad 0 q = a6 at h6 e6
  subst e6
  refine q_astore_n hOK [(0, .ref b), (1, .ref (a6 0))] dL_law_7 rfl (by omega) rfl rfl ?_
  refine q_new hOK cf7 [.null, .null, .int 0, .null, .int 0, .int 0, .null, .int 0, .null, .null, .null, .null, .int 0, .int 0, .int 0, .int 0, .int 0, .int 0, .null, .int 0, .null, .null, .null, .null, .null, .null, .null, .int 0, .null, .null, .null, .null, .null, .null, .null, .null, .int 0] ls_c7 ls_i7 lin7 rfl ls_d7 (Nat.le_of_ble_eq_true rfl) (Nat.le_of_ble_eq_true rfl) dL_law_8 rfl (fun q => w6 ++ [(q, .inr (7, [.null, .null, .int 0, .null, .int 0, .int 0, .null, .int 0, .null, .null, .null, .null, .int 0, .int 0, .int 0, .int 0, .int 0, .int 0, .null, .int 0, .null, .null, .null, .null, .null, .null, .null, .int 0, .null, .null, .null, .null, .null, .null, .null, .null, .int 0]))]) (fun _ => rfl) (ce' := 42) (sl' := 1530) rfl rfl (fun q => ?_)
  refine q_dup hOK dL_law_11 rfl rfl ?_
  obtain ⟨wo7, hct7, hB7⟩ := init7 l D c0 q
  refine q_ctor hOK w6 (fun ad => w6 ++ wo7 ad) ls_m7 rfl ls_n7 (Or.inl ls_l7) hct7 ⟨rfl, rfl, Nat.le_of_ble_eq_true rfl, Nat.le_of_ble_eq_true rfl⟩ (Nat.le_of_ble_eq_true rfl) (Nat.le_of_ble_eq_true rfl) rfl (fun _ => rfl) (Nat.le_of_ble_eq_true rfl) dL_law_12 rfl (ce' := 66) (sl' := 2997) rfl rfl (fun ad => ?_)
  have h7 := hB7 ad
  have e7 : (va_up ad 0 q) 0 = q := rfl
  generalize va_up ad 0 q = a7 at h7 e7
  subst e7
  refine q_astore_n hOK [(0, .ref b), (1, .ref (a6 0)), (2, .ref (a7 0))] dL_law_15 rfl (by omega) rfl rfl ?_
  refine q_iconst hOK 0 dL_law_16 (by decide) rfl ?_
  refine q_istore_n hOK (lvL b (a6 0) (a7 0) (nI 0)) dL_law_17 rfl (by omega) rfl rfl ?_
  exact law_loop hOK hX hZ (Nat.le_of_ble_eq_true rfl) (Nat.le_of_ble_eq_true rfl) hL (fun lv ws => hend 66 2997 lv ws (by omega) (by omega)) 384 0 (by omega) (by omega) _ _ _ _ _ _ _ _ _ _ _ _ _ _ h6 h7
theorem whole_start {p : Program} {e : Env} {s : State} {m : MethodId} {below : List Frame} {meth : Method} {c : Code} (l : Launch) {b L : Nat} {xs : Nat → Int32} (hL : L ≤ 384) (C0 : lw_At p s m meth c b L xs) : W p l e room_1 s m #[Value.ref b] below meth c s.heap [] 0 0 (lw_Z below #[Value.ref b] s) (entryFrame m ([Value.ref b] : List Value).toArray 4) := by
  obtain ⟨hx, hb, hr, hml, hown, hts, hX, hbl, hlocks, hgv⟩ := id C0
  have htb : ∀ w ∈ tbl, w.before #[Value.ref b] s = true := fun w hw => hts w (List.mem_filter.mp hw).1
  obtain ⟨D, hKc⟩ := ls_classes htb
  obtain ⟨c0, hKt⟩ := ls_types htb hts
  have hnA : ∀ a : Nat, a < s.heap.size → ¬ (fun q : Nat => s.heap.size ≤ q) a := fun a h => Nat.not_le.mpr h
  have hZ := ls_stat (A := fun q : Nat => s.heap.size ≤ q) hts hgv hnA
  have hOK : OKc D c0 (p, e, room_1, s, m, #[Value.ref b], below, meth, c, (fun q : Nat => s.heap.size ≤ q), lw_Z below #[Value.ref b] s) R_law code 4 room_1 :=
    ⟨hx, hb, hml, hown, htb, rfl, ⟨hKc, hKt⟩, ls_nw hts, fun _ h => h, fun w hw _ => hts w hw, ⟨va_AO.of (hts _ ls_o1), va_AO.of (hts _ ls_o2), hts _ ls_o3⟩⟩
  have hl := lv_entry ([.ref b]) (n := 4) (Nat.le_of_ble_eq_true rfl)
  rw [lg_entry_eq]
  exact law_begin (l := l) hOK ⟨hX, hbl, hnA b hbl⟩ hZ hL (fun ce sl lv ws hce hsl ls H locs hl hP hD hS => by
    refine va_forget (fun q hq => hS.2.2 q hq) ?_
    refine W.widen (k := 600000) (n := 7302250) hce hsl ?_
    exact lw_ret hx hb hr hlocks dL_law_1243) _ _ _ hl (fun k q h => by simp at h) ⟨fun i j p q h => by simp at h, fun k q h => by simp at h⟩ va_S.rf

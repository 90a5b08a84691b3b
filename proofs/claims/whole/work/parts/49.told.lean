/-! ===== told: the queries ===== -/
def ToC (h : Nat) (ea eb : Nat → Nat) (many : Int32) (ah : Nat → Int32) (named : Int32) : Prop := h ≤ 8 ∧ OK8 h ea eb ∧ RO h ea eb many ah named
def ToM (h : Nat) (ea eb : Nat → Nat) (aheads : Int32) (one oth : Nat → Int32) : Prop := h ≤ 8 ∧ OK8 h ea eb ∧ RM h ea eb aheads one oth
def Gb (C : Nat → Bool) (j : Nat) : Nat → Bool := fun x => C x && !(j.testBit x)
theorem gone_M {C : Nat → Bool} {j : Nat} (hj : j ≤ 1023) : M C &&& (nI j ^^^ (-1)) = M (Gb C j) := by rw [M_of (show j < 1024 by omega), M_andn]; rfl
theorem jcase {p : Int32} (h : 0 ≤ p ∧ p ≤ 1023) : ∃ j, j ≤ 1023 ∧ p = nI j := ncase (m := 1023) (by decide) h
def ux (f : Nat → Nat) (k v : Nat) : Nat → Nat := fun i => if i = k then v else f i
theorem i10 : ¬ (1 : Int32) = 0 := by decide
theorem i00 : (0 : Int32) = 0 := rfl
theorem btt : true = true := rfl
theorem ux_s (f : Nat → Nat) (k v : Nat) : ux f k v k = v := if_pos rfl
theorem ux_n {f : Nat → Nat} {k v i : Nat} (h : i < k) : ux f k v i = f i := if_neg (by omega)
theorem RO_congr {h : Nat} {ea eb ea' eb' : Nat → Nat} {many named : Int32} {ah : Nat → Int32} (z : ∀ i, i < h → ea i = ea' i ∧ eb i = eb' i) (hR : RO h ea eb many ah named) : RO h ea' eb' many ah named := by
  obtain ⟨r1, r2, r3⟩ := hR
  exact ⟨r1, fun g hg => by rw [r2 g hg]; exact M_congr (fun x _ => tP_congr z x g), by rw [r3]; exact M_congr (fun x _ => nmd_congr z x)⟩
theorem OK_more {h a b : Nat} {ea eb : Nat → Nat} (hh : h ≤ 8) (hk : OK8 h ea eb) (ha : a < 10) (hb : b < 10) (hab : a ≠ b) : OK8 (h + 1) (ux ea h a) (ux eb h b) := by
  refine ⟨by omega, fun i hi => ?_⟩
  by_cases c : i = h
  · rw [c, ux_s, ux_s]; exact ⟨ha, hb, hab⟩
  · rw [ux_n (by omega), ux_n (by omega)]; exact hk.2 i (by omega)
theorem ahead67 {N h : Nat} {ea eb : Nat → Nat} {many named aheads : Int32} {ah one oth : Nat → Int32} (hN : 20 < N) (hC : ToC h ea eb many ah named) (hM : ToM h ea eb aheads one oth) (p q : Int32) :
    ∃ (R : Int32 × Int32 × (Nat → Int32) × Int32) (S : Int32 × Int32 × (Nat → Int32) × (Nat → Int32)), fX6_ahead N many ah named p q = some R ∧ fX7_ahead aheads one oth p q = some S ∧ R.1 = S.1 ∧ ∃ (h' : Nat) (ea' eb' : Nat → Nat), ToC h' ea' eb' R.2.1 R.2.2.1 R.2.2.2 ∧ ToM h' ea' eb' S.2.1 S.2.2.1 S.2.2.2 := by
  unfold fX6_ahead fX7_ahead
  have hC0 := hC
  have hM0 := hM
  obtain ⟨hh, hk, r1, r2, r3⟩ := hC
  obtain ⟨-, -, m1, m2⟩ := hM
  rw [isGuest6_eq, isGuest7_eq, Option.bind_some, Option.bind_some]
  by_cases c1 : 0 ≤ p ∧ p ≤ 9
  · rw [if_pos c1, if_neg i10, if_neg i10, isGuest6_eq, isGuest7_eq, Option.bind_some, Option.bind_some]
    by_cases c2 : 0 ≤ q ∧ q ≤ 9
    · rw [if_pos c2, if_neg i10, if_neg i10]
      by_cases c3 : p = q
      · rw [if_pos c3, if_pos c3]
        exact ⟨_, _, rfl, rfl, rfl, h, ea, eb, hC0, hM0⟩
      · rw [if_neg c3, if_neg c3]
        obtain ⟨a, a1, rfl⟩ := ncase (m := 9) (by decide) c1
        obtain ⟨b, b1, rfl⟩ := ncase (m := 9) (by decide) c2
        have hab : a ≠ b := fun z => c3 (by rw [z])
        by_cases c4 : h = 8
        · subst c4
          rw [if_neg (by rw [r1]; decide), if_pos (by rw [m1]; rfl)]
          exact ⟨_, _, rfl, rfl, rfl, 8, ea, eb, hC0, hM0⟩
        · have hR := RO_congr (ea' := ux ea h a) (eb' := ux eb h b) (fun i hi => ⟨(ux_n hi).symm, (ux_n hi).symm⟩) (⟨r1, r2, r3⟩ : RO h ea eb many ah named)
          obtain ⟨ah', e1, e2⟩ := tell_eq (N := N) (ea := ux ea h a) (eb := ux eb h b) hN hR (show a < 10 by omega) (show b < 10 by omega) (ux_s _ _ _) (ux_s _ _ _)
          have ok := OK_more (by omega) hk (show a < 10 by omega) (show b < 10 by omega) hab
          rw [if_pos (by rw [r1, li8, nI_ltI (by omega) (by omega)]; omega), if_neg (by rw [m1, li8, nI_eq (by omega) (by omega)]; exact c4), e1, Option.bind_some, m1, if_pos (chk_nI (by omega) (by omega)), if_pos (chk_nI (by omega) (by omega)), nI_1, nI_clamp (by omega)]
          refine ⟨_, _, rfl, rfl, rfl, h + 1, ux ea h a, ux eb h b, ⟨by omega, ok, e2⟩, by omega, ok, rfl, fun i hi => ?_⟩
          simp only
          unfold upd
          by_cases c : i = h
          · rw [if_pos c, if_pos c, c, ux_s, ux_s]; exact ⟨rfl, rfl⟩
          · rw [if_neg c, if_neg c, ux_n (by omega), ux_n (by omega)]; exact m2 i (by omega)
    · rw [if_neg c2, if_pos i00, if_pos i00]
      exact ⟨_, _, rfl, rfl, rfl, h, ea, eb, hC0, hM0⟩
  · rw [if_neg c1, if_pos i00, if_pos i00]
    exact ⟨_, _, rfl, rfl, rfl, h, ea, eb, hC0, hM0⟩
theorem forget67 {N h : Nat} {ea eb : Nat → Nat} {many named aheads : Int32} {ah one oth : Nat → Int32} (hN : 20 < N) (hC : ToC h ea eb many ah named) (hM : ToM h ea eb aheads one oth) :
    ∃ (R : Int32 × Int32 × (Nat → Int32) × Int32) (S : Int32 × Int32), fX6_forget N many ah named = some R ∧ fX7_forget aheads = some S ∧ R.1 = S.1 ∧ ToC 0 ea eb R.2.1 R.2.2.1 R.2.2.2 ∧ ToM 0 ea eb S.2 one oth := by
  unfold fX6_forget fX7_forget
  obtain ⟨ah', e1, e2⟩ := clear_eq (N := N) (ea := ea) (eb := eb) (many := many) (named := named) (ah := ah) hN
  have ok0 : OK8 0 ea eb := ⟨by omega, fun i hi => by omega⟩
  rw [e1, Option.bind_some]
  exact ⟨_, _, rfl, rfl, by rw [hC.2.2.1, hM.2.2.1], ⟨by omega, ok0, e2⟩, by omega, ok0, rfl, fun i hi => by omega⟩
def aFits (n : Nat → Nat) (β : Nat → Nat → Nat) (h : Nat) (ea eb : Nat → Nat) (p : Int32) : Int64 := if 0 ≤ p ∧ p ≤ 1023 then lN (fO ea eb h (Gb (cS n β) (Int32.toNatClampNeg p))) else (-9223372036854775808 : Int64) - ((-2 : Int32).toInt64)
def aFirsts (n : Nat → Nat) (β : Nat → Nat → Nat) (h : Nat) (ea eb : Nat → Nat) (p : Int32) : Int32 := if 0 ≤ p ∧ p ≤ 1023 then (if hO ea eb h (Gb (cS n β) (Int32.toNatClampNeg p)) then M (fun g => Gb (cS n β) (Int32.toNatClampNeg p) g && bno ea eb h g) else 0) else -2
theorem fits6 {N h : Nat} {ea eb : Nat → Nat} {n : Nat → Nat} {β : Nat → Nat → Nat} {many named : Int32} {ah w : Nat → Int32} (hN : 2200 < N) (hC : ToC h ea eb many ah named) (p : Int32) : ∃ R, fX6_fits N (M (cS n β)) ah named w p = some R ∧ R.1 = aFits n β h ea eb p := by
  unfold fX6_fits fX6_refusal fX6_goneBut aFits
  rw [within_eq, Option.bind_some]
  by_cases c : 0 ≤ p ∧ p ≤ 1023
  · obtain ⟨j, j1, rfl⟩ := jcase c
    obtain ⟨w', e⟩ := countOrders_eq (N := N) (w := w) (G := Gb (cS n β) j) hN hC.2.1 hC.2.2.2.1
    rw [if_pos c, if_neg (by decide), if_pos c, Option.bind_some, gone_M j1, hC.2.2.2.2, e, Option.bind_some, nI_clamp (by omega)]
    exact ⟨_, rfl, rfl⟩
  · rw [if_neg c, if_pos rfl, if_neg c, Option.bind_some]
    exact ⟨_, rfl, rfl⟩
theorem firsts6 {N h : Nat} {ea eb : Nat → Nat} {n : Nat → Nat} {β : Nat → Nat → Nat} {many named : Int32} {ah : Nat → Int32} (hN : 20 < N) (hC : ToC h ea eb many ah named) (p : Int32) : fX6_firsts N (M (cS n β)) ah named p = some (aFirsts n β h ea eb p) := by
  unfold fX6_firsts fX6_goneBut aFirsts
  rw [within_eq, Option.bind_some]
  by_cases c : 0 ≤ p ∧ p ≤ 1023
  · obtain ⟨j, j1, rfl⟩ := jcase c
    rw [if_pos c, if_neg (by decide), if_pos c, Option.bind_some, gone_M j1, hC.2.2.2.2, holdsFor_eq hN hC.2.2.2.1, Option.bind_some, nI_clamp (by omega)]
    cases q : hO ea eb h (Gb (cS n β) j) with
    | false => rw [if_neg Bool.false_ne_true, if_pos rfl, if_neg (by decide)]
    | true => rw [if_pos rfl, if_neg (by decide), if_pos rfl, behind_eq hN hC.2.2.2.1, Option.bind_some]
  · rw [if_neg c, if_pos rfl, if_neg c]
def aSure (n : Nat → Nat) (β : Nat → Nat → Nat) (h : Nat) (ea eb : Nat → Nat) (p q r : Int32) : Int32 := if (0 ≤ p ∧ p ≤ 1023) ∧ (0 ≤ q ∧ q ≤ 9) ∧ (0 ≤ r ∧ r ≤ 9) ∧ q ≠ r ∧ Gb (cS n β) (Int32.toNatClampNeg p) (Int32.toNatClampNeg q) = true ∧ Gb (cS n β) (Int32.toNatClampNeg p) (Int32.toNatClampNeg r) = true then (if hO ea eb h (Gb (cS n β) (Int32.toNatClampNeg p)) && tP ea eb h (Int32.toNatClampNeg q) (Int32.toNatClampNeg r) then 1 else 0) else -2
theorem sure6 {N h : Nat} {ea eb : Nat → Nat} {n : Nat → Nat} {β : Nat → Nat → Nat} {many named : Int32} {ah : Nat → Int32} (hN : 20 < N) (hC : ToC h ea eb many ah named) (p q r : Int32) : fX6_sure N (M (cS n β)) ah named p q r = some (aSure n β h ea eb p q r) := by
  unfold fX6_sure fX6_goneBut aSure
  rw [within_eq, Option.bind_some]
  by_cases c1 : 0 ≤ p ∧ p ≤ 1023
  · rw [if_pos c1, if_neg (by decide), isGuest6_eq, Option.bind_some]
    by_cases c2 : 0 ≤ q ∧ q ≤ 9
    · rw [if_pos c2, if_neg (by decide), isGuest6_eq, Option.bind_some]
      by_cases c3 : 0 ≤ r ∧ r ≤ 9
      · rw [if_pos c3, if_neg (by decide)]
        by_cases c4 : q = r
        · rw [if_pos c4, if_neg (fun z => z.2.2.2.1 c4)]
        · obtain ⟨j, j1, rfl⟩ := jcase c1
          obtain ⟨a, a1, rfl⟩ := ncase (m := 9) (by decide) c2
          obtain ⟨b, b1, rfl⟩ := ncase (m := 9) (by decide) c3
          rw [if_neg c4, Option.bind_some, gone_M j1, has_M (show a < 10 by omega), Option.bind_some, nI_clamp (show j < 2 ^ 31 by omega), nI_clamp (show a < 2 ^ 31 by omega), nI_clamp (show b < 2 ^ 31 by omega)]
          cases qa : Gb (cS n β) j a with
          | false => rw [if_neg Bool.false_ne_true, if_pos rfl, if_neg (fun z => by cases z.2.2.2.2.1)]
          | true =>
            rw [if_pos rfl, if_neg (by decide), has_M (show b < 10 by omega), Option.bind_some]
            cases qb : Gb (cS n β) j b with
            | false => rw [if_neg Bool.false_ne_true, if_pos rfl, if_neg (fun z => by cases z.2.2.2.2.2)]
            | true =>
              have hcond : (0 ≤ nI j ∧ nI j ≤ 1023) ∧ (0 ≤ nI a ∧ nI a ≤ 9) ∧ (0 ≤ nI b ∧ nI b ≤ 9) ∧ nI a ≠ nI b ∧ true = true ∧ true = true := ⟨c1, c2, c3, c4, rfl, rfl⟩
              rw [if_pos hcond, if_pos btt, if_neg i10, hC.2.2.2.2, holdsFor_eq hN hC.2.2.2.1, Option.bind_some]
              cases qh : hO ea eb h (Gb (cS n β) j) with
              | false => rw [if_neg Bool.false_ne_true, if_pos rfl]; rfl
              | true =>
                rw [if_pos rfl, if_neg (by decide), if_pos (chk_nI (by omega) (by omega)), hC.2.2.2.1 b (by omega), has_M (show a < 10 by omega), Option.bind_some]
                cases qt : tP ea eb h a b with
                | false => rw [if_neg Bool.false_ne_true, if_pos rfl]; rfl
                | true => rw [if_pos rfl, if_neg (by decide)]; rfl
      · rw [if_neg c3, if_pos rfl, if_neg (fun z => c3 z.2.2.1)]
    · rw [if_neg c2, if_pos rfl, if_neg (fun z => c2 z.2.1)]
  · rw [if_neg c1, if_pos rfl, if_neg (fun z => c1 z.1)]
section TM7
variable {N h : Nat} {ea eb : Nat → Nat} {n : Nat → Nat} {β : Nat → Nat → Nat} {typed texts coming going worn one oth : Nat → Int32} {comes came goes wears aheads : Int32} {orders : Nat → Int64}
theorem ordersOf7 (hN : 2200 < N) (hT : TM n β typed texts) (hk : OK8 h ea eb) (hR : RM h ea eb aheads one oth) {j : Nat} (hj : j ≤ 1023) : ∃ R, fX7_ordersOf N typed texts comes coming came goes going wears worn aheads one oth orders (nI j) = some R ∧ R.1 = lN (fO ea eb h (Gb (cS n β) j)) ∧ R.2.2.2.1 = M (cS n β) := by
  unfold fX7_ordersOf
  rw [reads_eq (by omega) hT, Option.bind_some]
  simp only
  rw [gone_M hj, hR.1]
  obtain ⟨R, e1, e2, e3, e4⟩ := ordersOf_loop (N := N) (typed := typed) (texts := texts) (coming := fl coming (fun k => nI (β 0 k - 97)) (tC n β)) (going := fl going (fun k => nI (β 1 k - 97)) (tG n β)) (worn := fl worn (fun k => nI (β 2 k - 97)) (tW n β)) (comes := nI (tC n β)) (came := M (cS n β)) (goes := nI (tG n β)) (wears := nI (tW n β)) (p := nI j) (orders := orders) (G := Gb (cS n β) j) hN hk hR.2
  exact ⟨R, e1, e2, e4⟩
theorem fits7 (hN : 2200 < N) (hT : TM n β typed texts) (hM : ToM h ea eb aheads one oth) (p : Int32) : ∃ R, fX7_fits N typed texts comes coming came goes going wears worn aheads one oth orders p = some R ∧ R.1 = aFits n β h ea eb p := by
  unfold fX7_fits fX7_no aFits
  rw [in_eq, Option.bind_some]
  by_cases c : 0 ≤ p ∧ p ≤ 1023
  · obtain ⟨j, j1, rfl⟩ := jcase c
    obtain ⟨R, e1, e2, e3⟩ := ordersOf7 (comes := comes) (coming := coming) (came := came) (goes := goes) (going := going) (wears := wears) (worn := worn) (orders := orders) hN hT hM.2.1 hM.2.2 j1
    rw [if_pos c, if_neg (by decide), if_pos c, e1, Option.bind_some, nI_clamp (by omega)]
    exact ⟨_, rfl, e2⟩
  · rw [if_neg c, if_pos rfl, if_neg c, Option.bind_some]
    exact ⟨_, rfl, rfl⟩
theorem lz {v : Nat} (h : v ≤ 3628800) : lg_cmp (lN v) 0 = 0 ↔ v = 0 := by
  rw [cmp_eq, show (0 : Int64) = lN 0 from rfl, lN_eq (by omega) (by omega)]
theorem okp_bno (hk : OK8 h ea eb) (g : Nat) : okp (eP ea eb h) (fun _ => false) g = bno ea eb h g := by
  unfold bno
  rw [Bool.eq_iff_iff, okp_iff, alw_iff]
  constructor
  · intro z x hx
    cases q : tP ea eb h x g with
    | false => rfl
    | true =>
      obtain ⟨i, i1, i2⟩ := tP_last q
      have := z (ea i) (hk.2 i i1).1 (eP_iff.mpr ⟨i, i1, rfl, i2⟩)
      cases this
  · intro z x hx hp
    have := z x hx
    rw [eP_tP hp] at this; cases this
theorem firstsOf7 (hN : 2200 < N) (hT : TM n β typed texts) (hM : ToM h ea eb aheads one oth) {j : Nat} (hj : j ≤ 1023) : ∃ R, fX7_firstsOf N typed texts comes coming came goes going wears worn aheads one oth orders (nI j) = some R ∧ R.1 = aFirsts n β h ea eb (nI j) := by
  have hin : (0 : Int32) ≤ nI j ∧ nI j ≤ 1023 := in_nI (m := 1023) (by decide) hj
  obtain ⟨hh, hk, hR⟩ := hM
  obtain ⟨R, e1, e2, e3⟩ := ordersOf7 (comes := comes) (coming := coming) (came := came) (goes := goes) (going := going) (wears := wears) (worn := worn) (orders := orders) hN hT hk hR hj
  unfold fX7_firstsOf aFirsts
  rw [e1, Option.bind_some, e2, if_pos hin, nI_clamp (by omega)]
  cases q : hO ea eb h (Gb (cS n β) j) with
  | false =>
    have z : fO ea eb h (Gb (cS n β) j) = 0 := by
      rcases Nat.eq_zero_or_pos (fO ea eb h (Gb (cS n β) j)) with z | z
      · exact z
      · have := (hO_fO hk).mpr (Nat.ne_of_gt z); rw [q] at this; cases this
    rw [if_pos ((lz fO_le).mpr z)]
    exact ⟨_, rfl, rfl⟩
  | true =>
    rw [if_neg (fun z => (hO_fO hk).mp q ((lz fO_le).mp z)), if_pos rfl, e3, hR.1]
    have st : ((0 : Int32), (0 : Int32)) = (fun k => (M (fun g => decide (g < k) && (Gb (cS n β) j g && bno ea eb h g)), nI k)) 0 := by
      simp only
      rw [show M (fun g => decide (g < 0) && (Gb (cS n β) j g && bno ea eb h g)) = 0 from by rw [M_none]; exact M_congr (fun x _ => by simp)]; rfl
    rw [st]
    refine ⟨(M (fun g => Gb (cS n β) j g && bno ea eb h g), R.2.1, R.2.2.1, M (cS n β), R.2.2.2.2.1, R.2.2.2.2.2.1, R.2.2.2.2.2.2.1, R.2.2.2.2.2.2.2.1, R.2.2.2.2.2.2.2.2), lp_eq0 (b := bX7_firstsOf_16 N typed texts (nI h) one oth (nI j) R.2.1 R.2.2.1 (M (cS n β)) R.2.2.2.2.1 R.2.2.2.2.2.1 R.2.2.2.2.2.2.1 R.2.2.2.2.2.2.2.1 R.2.2.2.2.2.2.2.2) 10 (fun k => (M (fun g => decide (g < k) && (Gb (cS n β) j g && bno ea eb h g)), nI k)) _ (by omega) (fun k hk2 κ => ?_) (fun κ => ?_), rfl⟩
    · have same : (Gb (cS n β) j k && bno ea eb h k) = false → M (fun g => decide (g < k) && (Gb (cS n β) j g && bno ea eb h g)) ||| 0 = M (fun g => decide (g < k + 1) && (Gb (cS n β) j g && bno ea eb h g)) := by
        intro z
        rw [M_none, M_or]
        refine M_congr (fun x _ => ?_)
        by_cases c : x = k
        · rw [c, z]; simp
        · rw [show decide (x < k + 1) = decide (x < k) by simp; omega, Bool.or_false]
      unfold bX7_firstsOf_16 bX7_firstsOf_54
      simp only
      rw [if_neg (by rw [li10, nI_leI (by omega) (by omega)]; omega), gone_M hj, isIn_M hk2, Option.bind_some, nI_1]
      cases qg : Gb (cS n β) j k with
      | false => rw [if_neg Bool.false_ne_true, if_pos rfl, same (by rw [qg]; rfl)]
      | true =>
        have hmg : fX7_mayGo N (nI h) one oth (nI k) 0 = some (if bno ea eb h k then 1 else 0) := by
          have z := mayGo_eq (N := N) (T := fun _ => false) (by omega) hk hR.2 hk2
          rw [← M_none, okp_bno hk] at z
          exact z
        rw [if_pos rfl, if_neg (by decide), hmg, Option.bind_some]
        cases qb : bno ea eb h k with
        | false => rw [if_neg Bool.false_ne_true, if_pos rfl, same (by rw [qg, qb]; rfl)]
        | true =>
          rw [if_pos rfl, if_neg (by decide), M_bit k hk2, M_or]
          refine congrArg (fun z => κ (z, nI (k + 1))) (M_congr (fun x _ => ?_))
          by_cases d : x = k
          · rw [d, qg, qb]; simp
          · rw [show decide (x < k + 1) = decide (x < k) by simp; omega, beq_false_of_ne d, Bool.or_false]
    · unfold bX7_firstsOf_16
      simp only
      rw [if_pos (by rw [li10, nI_leI (by omega) (by omega)]; omega)]
      refine congrArg (fun z => some (z, _)) (M_congr (fun x hx => by simp [hx]))
theorem firsts7 (hN : 2200 < N) (hT : TM n β typed texts) (hM : ToM h ea eb aheads one oth) (p : Int32) : ∃ R, fX7_firsts N typed texts comes coming came goes going wears worn aheads one oth orders p = some R ∧ R.1 = aFirsts n β h ea eb p := by
  unfold fX7_firsts
  rw [in_eq, Option.bind_some]
  by_cases c : 0 ≤ p ∧ p ≤ 1023
  · obtain ⟨j, j1, rfl⟩ := jcase c
    obtain ⟨R, e1, e2⟩ := firstsOf7 (comes := comes) (coming := coming) (came := came) (goes := goes) (going := going) (wears := wears) (worn := worn) (orders := orders) hN hT hM j1
    rw [if_pos c, if_neg (by decide), e1, Option.bind_some]
    exact ⟨_, rfl, e2⟩
  · rw [if_neg c, if_pos rfl]
    refine ⟨_, rfl, ?_⟩
    unfold aFirsts
    rw [if_neg c]
theorem sure7 (hN : 2200 < N) (hT : TM n β typed texts) (hM : ToM h ea eb aheads one oth) (p q r : Int32) : ∃ R, fX7_sure N typed texts comes coming came goes going wears worn aheads one oth orders p q r = some R ∧ R.1 = aSure n β h ea eb p q r ∧ ToM h ea eb R.2.2.2.2.2.2.2.2.1 R.2.2.2.2.2.2.2.2.2.1 R.2.2.2.2.2.2.2.2.2.2.1 := by
  have hM0 := hM
  obtain ⟨hh, hk, hR⟩ := hM
  unfold fX7_sure aSure
  rw [reads_eq (by omega) hT, Option.bind_some, in_eq, Option.bind_some]
  simp only
  by_cases c1 : 0 ≤ p ∧ p ≤ 1023
  · rw [if_pos c1, if_neg (by decide), isGuest7_eq, Option.bind_some]
    by_cases c2 : 0 ≤ q ∧ q ≤ 9
    · rw [if_pos c2, if_neg (by decide), isGuest7_eq, Option.bind_some]
      by_cases c3 : 0 ≤ r ∧ r ≤ 9
      · rw [if_pos c3, if_neg (by decide)]
        by_cases c4 : q = r
        · rw [if_pos c4, if_neg (fun z => z.2.2.2.1 c4)]
          unfold bX7_sure_39
          rw [if_pos rfl]
          exact ⟨_, rfl, rfl, hM0⟩
        · obtain ⟨j, j1, rfl⟩ := jcase c1
          obtain ⟨a, a1, rfl⟩ := ncase (m := 9) (by decide) c2
          obtain ⟨b, b1, rfl⟩ := ncase (m := 9) (by decide) c3
          have hab : a ≠ b := fun z => c4 (by rw [z])
          rw [if_neg c4, nI_clamp (show j < 2 ^ 31 by omega), nI_clamp (show a < 2 ^ 31 by omega), nI_clamp (show b < 2 ^ 31 by omega)]
          unfold bX7_sure_39
          rw [if_neg (by decide), gone_M j1, isIn_M (show a < 10 by omega), Option.bind_some]
          cases qa : Gb (cS n β) j a with
          | false =>
            rw [if_neg Bool.false_ne_true, if_pos rfl, if_neg (fun z => by cases z.2.2.2.2.1)]
            exact ⟨_, rfl, rfl, hM0⟩
          | true =>
            rw [if_pos rfl, if_neg (by decide), isIn_M (show b < 10 by omega), Option.bind_some]
            cases qb : Gb (cS n β) j b with
            | false =>
              rw [if_neg Bool.false_ne_true, if_pos rfl, if_neg (fun z => by cases z.2.2.2.2.2)]
              exact ⟨_, rfl, rfl, hM0⟩
            | true =>
              have hcond : (0 ≤ nI j ∧ nI j ≤ 1023) ∧ (0 ≤ nI a ∧ nI a ≤ 9) ∧ (0 ≤ nI b ∧ nI b ≤ 9) ∧ nI a ≠ nI b ∧ true = true ∧ true = true := ⟨c1, c2, c3, c4, rfl, rfl⟩
              rw [if_pos hcond, if_pos btt, if_neg i10]
              obtain ⟨R, e1, e2, e3⟩ := ordersOf7 (comes := nI (tC n β)) (coming := fl coming (fun k => nI (β 0 k - 97)) (tC n β)) (came := M (cS n β)) (goes := nI (tG n β)) (going := fl going (fun k => nI (β 1 k - 97)) (tG n β)) (wears := nI (tW n β)) (worn := fl worn (fun k => nI (β 2 k - 97)) (tW n β)) (orders := orders) hN hT hk hR j1
              unfold fX7_sureOf
              rw [e1, Option.bind_some, e2]
              cases qh : hO ea eb h (Gb (cS n β) j) with
              | false =>
                have z : fO ea eb h (Gb (cS n β) j) = 0 := by
                  rcases Nat.eq_zero_or_pos (fO ea eb h (Gb (cS n β) j)) with z | z
                  · exact z
                  · have := (hO_fO hk).mpr (Nat.ne_of_gt z); rw [qh] at this; cases this
                rw [if_pos ((lz fO_le).mpr z), Option.bind_some]
                exact ⟨_, rfl, rfl, hM0⟩
              | true =>
                have ok := OK_more (a := b) (b := a) (by omega) hk (show b < 10 by omega) (show a < 10 by omega) (fun z => hab z.symm)
                have hag : ∀ i, i < h → ea i = ux ea h b i ∧ eb i = ux eb h a i := fun i hi => ⟨(ux_n hi).symm, (ux_n hi).symm⟩
                have hR2 : RM (h + 1) (ux ea h b) (ux eb h a) (nI (h + 1)) (upd one h (nI b)) (upd oth h (nI a)) := by
                  refine ⟨rfl, fun i hi => ?_⟩
                  unfold upd
                  by_cases c : i = h
                  · rw [if_pos c, if_pos c, c, ux_s, ux_s]; exact ⟨rfl, rfl⟩
                  · rw [if_neg c, if_neg c, ux_n (by omega), ux_n (by omega)]; exact hR.2 i (by omega)
                obtain ⟨S, s1, s2, s3⟩ := ordersOf7 (N := N) (comes := R.2.1) (coming := R.2.2.1) (came := R.2.2.2.1) (goes := R.2.2.2.2.1) (going := R.2.2.2.2.2.1) (wears := R.2.2.2.2.2.2.1) (worn := R.2.2.2.2.2.2.2.1) (orders := R.2.2.2.2.2.2.2.2) hN hT ok hR2 j1
                have hmore := hO_more (ea := ux ea h b) (eb := ux eb h a) (h := h) (G := Gb (cS n β) j) (a := a) (b := b) (show a < 10 by omega) hab qa qb (ux_s _ _ _) (ux_s _ _ _) (by rw [← hO_congr hag]; exact qh)
                rw [← tP_congr hag a b] at hmore
                have back : ToM h ea eb (nI h) (upd one h (nI b)) (upd oth h (nI a)) := ⟨hh, hk, rfl, fun i hi => by
                  unfold upd
                  rw [if_neg (by omega), if_neg (by omega)]; exact hR.2 i hi⟩
                rw [if_neg (fun z => (hO_fO hk).mp qh ((lz fO_le).mp z)), hR.1, if_pos (chk_nI (by omega) (by omega)), if_pos (chk_nI (by omega) (by omega)), nI_1, nI_clamp (by omega), s1, Option.bind_some, s2, nI_pred]
                cases qt : tP ea eb h a b with
                | false =>
                  rw [qt] at hmore
                  rw [if_neg (fun z => (hO_fO ok).mp hmore ((lz fO_le).mp z)), Option.bind_some]
                  exact ⟨_, rfl, rfl, back⟩
                | true =>
                  rw [qt] at hmore
                  have z : fO (ux ea h b) (ux eb h a) (h + 1) (Gb (cS n β) j) = 0 := by
                    rcases Nat.eq_zero_or_pos (fO (ux ea h b) (ux eb h a) (h + 1) (Gb (cS n β) j)) with z | z
                    · exact z
                    · have := (hO_fO ok).mpr (Nat.ne_of_gt z); rw [hmore] at this; cases this
                  rw [if_pos ((lz fO_le).mpr z), Option.bind_some]
                  exact ⟨_, rfl, rfl, back⟩
      · rw [if_neg c3, if_pos rfl, if_neg (fun z => c3 z.2.2.1)]
        unfold bX7_sure_39
        rw [if_pos rfl]
        exact ⟨_, rfl, rfl, hM0⟩
    · rw [if_neg c2, if_pos rfl, if_neg (fun z => c2 z.2.1)]
      unfold bX7_sure_39
      rw [if_pos rfl]
      exact ⟨_, rfl, rfl, hM0⟩
  · rw [if_neg c1, if_pos rfl, if_neg (fun z => c1 z.1)]
    unfold bX7_sure_39
    rw [if_pos rfl]
    exact ⟨_, rfl, rfl, hM0⟩
end TM7

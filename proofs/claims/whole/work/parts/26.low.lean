/-! 26: lowest terms -/
def qL (k : Nat) : Int64 := (nI k).toInt64
theorem qL_int {k : Nat} (h : k < 2 ^ 31) : (qL k).toInt = k := by
  unfold qL
  rw [Int32.toInt_toInt64, nI_toInt h]
theorem qL_ext {x : Int64} {k : Nat} (h : k < 2 ^ 31) (e : x.toInt = k) : x = qL k := Int64.toInt_inj.mp (e.trans (qL_int h).symm)
theorem bm64 {k : Nat} (h : k < 2 ^ 62) : (k : Int).bmod (2 ^ 64) = k := by
  apply Int.bmod_eq_of_le <;> omega
theorem qL_div {a b : Nat} (ha : a < 2 ^ 31) (hb : b < 2 ^ 31) : qL a / qL b = qL (a / b) := by
  have h : a / b ≤ a := Nat.div_le_self a b
  refine qL_ext (by omega) ?_
  rw [Int64.toInt_div, qL_int ha, qL_int hb, ← Int.ofNat_tdiv, bm64 (by omega)]
theorem qL_mul {a b : Nat} (ha : a < 2 ^ 31) (hb : b < 2 ^ 31) (h : a * b < 2 ^ 31) : qL a * qL b = qL (a * b) := by
  refine qL_ext h ?_
  rw [Int64.toInt_mul, qL_int ha, qL_int hb, ← Int.natCast_mul, bm64 (by omega)]
theorem qL_add {a b : Nat} (h : a + b < 2 ^ 31) : qL a + qL b = qL (a + b) := by
  refine qL_ext h ?_
  rw [Int64.toInt_add, qL_int (by omega), qL_int (by omega), ← Int.natCast_add, bm64 (by omega)]
theorem qL_rem {a b : Nat} (ha : a < 2 ^ 31) (hb : b < 2 ^ 31) (h0 : 0 < b) : qL a - qL a / qL b * qL b = qL (a % b) := by
  have h1 : a / b * b ≤ a := Nat.div_mul_le_self a b
  have h2 : a % b = a - a / b * b := by have := Nat.div_add_mod a b; rw [Nat.mul_comm] at this; omega
  have h3 : a / b ≤ a := Nat.div_le_self a b
  rw [qL_div ha hb, qL_mul (by omega) hb (by omega), h2]
  refine qL_ext (by omega) ?_
  rw [Int64.toInt_sub, qL_int ha, qL_int (by omega), ← Int.ofNat_sub h1, bm64 (by omega)]
theorem qL_0 {b : Nat} (hb : b < 2 ^ 31) : qL b = 0 ↔ b = 0 := by
  constructor
  · intro h
    have e := qL_int hb
    rw [h] at e
    have : ((0 : Int64)).toInt = 0 := by decide
    omega
  · rintro rfl; rfl
theorem cmp_eq (x y : Int64) : lg_cmp x y = 0 ↔ x = y := by
  unfold lg_cmp
  by_cases h : x > y
  · rw [if_pos h]
    constructor
    · intro e; exact absurd e (by decide)
    · rintro rfl; exact absurd h (Int64.lt_irrefl)
  · rw [if_neg h]
    by_cases c : x = y
    · rw [if_pos c]; exact ⟨fun _ => c, fun _ => rfl⟩
    · rw [if_neg c]
      exact ⟨fun e => absurd e (by decide), fun e => absurd e c⟩
theorem cmp_0 {b : Nat} (hb : b < 2 ^ 31) : lg_cmp (qL b) 0 = 0 ↔ b = 0 := by
  rw [cmp_eq, qL_0 hb]
def lwt (A B : Nat) (p : Int32) : Nat := (if p = 0 then A else B) / Nat.gcd A B
theorem lowest7 {N A B : Nat} (hN : 20 < N) (hA : A < 2 ^ 31) (hB : B ≤ 20) (hB0 : 0 < B) (p : Int32) : fX7_lowest N (qL A) (qL B) p = some (qL (lwt A B p)) := by
  unfold fX7_lowest
  have hg : 0 < Nat.gcd A B := Nat.gcd_pos_of_pos_right A hB0
  obtain ⟨r, hr, e⟩ := lp_run (b := bX7_lowest_6 N (qL A) (qL B) p) (fun m s => ∃ a b, s = (qL a, qL b) ∧ m = b ∧ a < 2 ^ 31 ∧ b ≤ 20 ∧ Nat.gcd a b = Nat.gcd A B) (fun r => r = some (qL (lwt A B p)))
    (fun m s hp => by
      obtain ⟨a, b, rfl, rfl, h1, h2, h3⟩ := hp
      unfold bX7_lowest_6
      simp only
      by_cases c : m = 0
      · right
        subst c
        rw [Nat.gcd_zero_right] at h3
        subst h3
        refine ⟨_, rfl, fun κ => ?_⟩
        have hne : ¬ qL (Nat.gcd A B) = 0 := fun h => by have := (qL_0 h1).mp h; omega
        rw [if_pos ((cmp_0 (by omega)).mpr rfl), if_pos hne, if_pos hne, qL_div hA h1, qL_div (by omega) h1, lwt]
        by_cases d : p = 0
        · rw [if_pos d, if_pos d]
        · rw [if_neg d, if_neg d]
      · left
        have hl : a % m < m := Nat.mod_lt _ (by omega)
        refine ⟨a % m, (qL m, qL (a % m)), hl, ⟨m, a % m, rfl, rfl, by omega, by omega, ?_⟩, fun κ => ?_⟩
        · rw [← h3, Nat.gcd_comm m, ← Nat.gcd_rec, Nat.gcd_comm]
        · rw [if_neg (fun h => c ((cmp_0 (by omega)).mp h)), if_pos (fun h => c ((qL_0 (by omega)).mp h)), qL_rem h1 (by omega) (by omega)])
    N B (qL A, qL B) ⟨A, B, rfl, rfl, hA, hB, rfl⟩ (by omega)
  rw [e, hr]
theorem low6 {N A B : Nat} (hN : 20 < N) (hA : A < 2 ^ 31) (hB : B ≤ 20) (hB0 : 0 < B) (p : Int32) : fX6_inLowestTerms N (nI A) (nI B) p = some (qL (lwt A B p)) := by
  unfold fX6_inLowestTerms fX6_commonDivisor
  have hg : 0 < Nat.gcd A B := Nat.gcd_pos_of_pos_right A hB0
  have hgB : Nat.gcd A B ≤ B := Nat.le_of_dvd hB0 (Nat.gcd_dvd_right A B)
  obtain ⟨r, hr, e⟩ := lp_run (b := bX6_commonDivisor_7 N (nI A) (nI B)) (fun m s => ∃ a b c, s = (nI a, nI b, nI c) ∧ m = b ∧ a < 2 ^ 31 ∧ b + c ≤ 20 ∧ Nat.gcd a b = Nat.gcd A B) (fun r => r = some (nI (Nat.gcd A B)))
    (fun m s hp => by
      obtain ⟨a, b, k, rfl, rfl, h1, h2, h3⟩ := hp
      unfold bX6_commonDivisor_7
      simp only
      have h64 : ¬ (64 : Int32) ≤ nI k := by rw [show (64 : Int32) = nI 64 from rfl, nI_leI (by omega) (by omega)]; omega
      by_cases c : m = 0
      · right
        subst c
        rw [Nat.gcd_zero_right] at h3
        subst h3
        refine ⟨_, rfl, fun κ => ?_⟩
        rw [if_neg h64, if_pos (show nI 0 = (0 : Int32) from rfl)]
      · left
        have hl : a % m < m := Nat.mod_lt _ (by omega)
        have hne : ¬ nI m = (0 : Int32) := by rw [li0, nI_eq (by omega) (by omega)]; exact c
        refine ⟨a % m, (nI m, nI (a % m), nI (k + 1)), hl, ⟨m, a % m, k + 1, rfl, rfl, by omega, by omega, ?_⟩, fun κ => ?_⟩
        · rw [← h3, Nat.gcd_comm m, ← Nat.gcd_rec, Nat.gcd_comm]
        · rw [if_neg h64, if_neg hne, if_pos hne, pk_rem (by omega) (by omega) (by omega), nI_1])
    N B (nI A, nI B, 0) ⟨A, B, 0, rfl, rfl, hA, by omega, rfl⟩ (by omega)
  have hne : ¬ nI (Nat.gcd A B) = (0 : Int32) := by rw [li0, nI_eq (by omega) (by omega)]; omega
  rw [e, hr, Option.bind_some, if_pos (show (1 : Int32) ≤ nI (Nat.gcd A B) by rw [li1, nI_leI (by omega) (by omega)]; omega)]
  unfold bX6_inLowestTerms_22 lwt qL
  rw [if_pos hne, if_pos hne]
  by_cases d : p = 0
  · rw [if_pos d, if_pos d, pk_div hA hg (by omega)]
  · rw [if_neg d, if_neg d, pk_div (by omega) hg (by omega)]

def aMean (n : Nat → Nat) (β : Nat → Nat → Nat) (row : Nat → Nat) (dp : Nat) (p q : Int32) : Int64 := if (0 ≤ p ∧ p ≤ 16) ∧ (0 ≤ q ∧ q ≤ 1) then qL (lwt (Int32.toNatClampNeg p * sms n β row dp + (16 - Int32.toNatClampNeg p) * sm (LSs row dp n β) (FRs row dp n β) (gd true n β) (tG n β)) 16 q) else (-9223372036854775808 : Int64) - ((-2 : Int32)).toInt64
theorem mean6 {N : Nat} {n : Nat → Nat} {β : Nat → Nat → Nat} {row : Nat → Nat} {dp : Nat} {fo tk : Nat → Int32} (hN : 20 < N) (h1 : n 1 ≤ 10) (hf : ∀ o, o < 10 → fo o = M (FRs row dp n β o)) (htk : CA (tcs n β row dp) (tks n β row dp) tk) (p q : Int32) : fX6_mean N fo tk (nI (tcs n β row dp)) (M (LSs row dp n β)) (nI (sms n β row dp)) p q = some (aMean n β row dp p q) := by
  have d1 := dg_g (β := β) h1
  have hg10 := d1.1
  unfold fX6_mean bX6_mean_19 fX6_refusal aMean
  rw [within_eq, Option.bind_some]
  by_cases c1 : 0 ≤ p ∧ p ≤ 16
  · rw [if_pos c1, if_neg (by decide), within_eq, Option.bind_some]
    by_cases c2 : 0 ≤ q ∧ q ≤ 1
    · obtain ⟨k, k1, rfl⟩ := ncase (m := 16) (by decide) c1
      have s1 := @sm_le (LSs row dp n β) (FRs row dp n β) (lt β 1) (tG n β)
      have s2 := @sm_le (LSs row dp n β) (FRs row dp n β) (gd true n β) (tG n β)
      have s3 : k * sms n β row dp ≤ 16 * 100 := Nat.mul_le_mul k1 (by show sm _ _ _ _ ≤ 100; omega)
      have s4 : (16 - k) * sm (LSs row dp n β) (FRs row dp n β) (gd true n β) (tG n β) ≤ 16 * 100 := Nat.mul_le_mul (by omega) (by omega)
      rw [if_pos c2, if_neg (by decide), if_pos ⟨c1, c2⟩, nI_clamp (by omega)]
      have hb : fX2_liftedBackwards N fo tk (nI (tcs n β row dp)) (M (LSs row dp n β)) = some (nI (sm (LSs row dp n β) (FRs row dp n β) (gd true n β) (tG n β))) := backwards_eq hN d1 hf htk
      rw [hb, Option.bind_some, show (16 : Int32) = nI 16 from rfl, pk_sub k1, pk_mul, pk_mul, nI_add, low6 hN (by omega) (by omega) (by omega)]
      rfl
    · rw [if_neg c2, if_pos rfl, if_neg (fun h => c2 h.2)]
      rfl
  · rw [if_neg c1, if_pos rfl, if_neg (fun h => c1 h.1)]
    rfl
theorem mean7 {N : Nat} {n : Nat → Nat} {β tr : Nat → Nat → Nat} {st : Nat → Nat} {typed texts coming going worn rowOf looks minutes manyIn goer lfo : Nat → Int32} {comes came goes wears deep room look lift laid judgedNow goers : Int32} (hN : 20 < N) (hM : ModT n β tr st typed texts rowOf looks minutes deep room look lift) (p q : Int32) : ∃ R, fX7_mean N typed texts comes coming came goes going wears worn rowOf deep laid judgedNow manyIn goers goer lfo p q = some R ∧ R.1 = aMean n β (tr 0) (st 0) p q := by
  obtain ⟨hT, hr, hs, rfl, -⟩ := hM
  have h1 := (hT 1 (by omega)).2.1
  have hg10 := (dg_g (β := β) h1).1
  unfold fX7_mean bX7_mean_28 fX7_no aMean
  rw [in_eq, Option.bind_some]
  by_cases c1 : 0 ≤ p ∧ p ≤ 16
  · rw [if_pos c1, if_neg (by decide), in_eq, Option.bind_some]
    by_cases c2 : 0 ≤ q ∧ q ≤ 1
    · obtain ⟨k, k1, rfl⟩ := ncase (m := 16) (by decide) c1
      have s1 := @sm_le (LSs (tr 0) (st 0) n β) (FRs (tr 0) (st 0) n β) (lt β 1) (tG n β)
      have s2 := @sm_le (LSs (tr 0) (st 0) n β) (FRs (tr 0) (st 0) n β) (gd true n β) (tG n β)
      have s0 : sms n β (tr 0) (st 0) ≤ 100 := by show sm _ _ _ _ ≤ 100; omega
      have s3 : k * sms n β (tr 0) (st 0) ≤ 16 * 100 := Nat.mul_le_mul k1 s0
      have s4 : (16 - k) * sm (LSs (tr 0) (st 0) n β) (FRs (tr 0) (st 0) n β) (gd true n β) (tG n β) ≤ 16 * 100 := Nat.mul_le_mul (by omega) (by omega)
      rw [if_pos c2, if_neg (by decide), if_pos ⟨c1, c2⟩, nI_clamp (by omega)]
      unfold fX7_meanOf
      obtain ⟨mi, ge, lf, e1, -⟩ := goAll_eq (N := N) (n := n) (β := β) (typed := typed) (texts := texts) (coming := coming) (going := going) (worn := worn) (rowOf := rowOf) (manyIn := manyIn) (comes := comes) (came := came) (goes := goes) (wears := wears) (laid := laid) (judgedNow := judgedNow) (goers := goers) (goer := goer) (lfo := lfo) (row := tr 0) (dp := st 0) false hN hT (row_of hr) hs.1.2
      rw [show (if false = true then (1 : Int32) else 0) = 0 from rfl] at e1
      rw [e1, Option.bind_some]
      simp only
      obtain ⟨mi2, ge2, lf2, e2, -⟩ := goAll_eq (N := N) (n := n) (β := β) (typed := typed) (texts := texts) (coming := fl coming (fun k => nI (β 0 k - 97)) (tC n β)) (going := fl going (fun k => nI (β 1 k - 97)) (tG n β)) (worn := fl worn (fun k => nI (β 2 k - 97)) (tW n β)) (rowOf := rowOf) (manyIn := mi) (comes := nI (tC n β)) (came := M (cS n β)) (goes := nI (tG n β)) (wears := nI (tW n β)) (laid := M (LSs (tr 0) (st 0) n β)) (judgedNow := J_G (tr 0) (lt β 0) (st 0) (tC n β)) (goers := nI (tc (LSs (tr 0) (st 0) n β) (gd false n β) (tG n β))) (goer := ge) (lfo := lf) (row := tr 0) (dp := st 0) true hN hT (row_of hr) hs.1.2
      rw [show (if true = true then (1 : Int32) else 0) = 1 from rfl] at e2
      rw [e2, Option.bind_some]
      simp only
      have hq : (nI k).toInt64 * (nI (sm (LSs (tr 0) (st 0) n β) (FRs (tr 0) (st 0) n β) (gd false n β) (tG n β))).toInt64 + ((16 : Int32) - nI k).toInt64 * (nI (sm (LSs (tr 0) (st 0) n β) (FRs (tr 0) (st 0) n β) (gd true n β) (tG n β))).toInt64 = qL (k * sms n β (tr 0) (st 0) + (16 - k) * sm (LSs (tr 0) (st 0) n β) (FRs (tr 0) (st 0) n β) (gd true n β) (tG n β)) := by
        rw [show (16 : Int32) = nI 16 from rfl, pk_sub k1]
        show qL k * qL (sms n β (tr 0) (st 0)) + qL (16 - k) * qL _ = _
        rw [qL_mul (by omega) (by omega) (by omega), qL_mul (by omega) (by omega) (by omega), qL_add (by omega)]
      rw [hq, show (16 : Int64) = qL 16 from rfl, lowest7 hN (by omega) (by omega) (by omega), Option.bind_some, Option.bind_some]
      exact ⟨_, rfl, rfl⟩
    · rw [if_neg c2, if_pos rfl, if_neg (fun h => c2 h.2)]
      exact ⟨_, rfl, rfl⟩
  · rw [if_neg c1, if_pos rfl, if_neg (fun h => c1 h.1)]
    exact ⟨_, rfl, rfl⟩

/-! ===== least and gap: the queries ===== -/
def aLeast (n : Nat → Nat) (β : Nat → Nat → Nat) (p q : Int32) : Int32 := if (1 ≤ p ∧ p ≤ 3) ∧ (q = -1 ∨ (0 ≤ q ∧ q ≤ 6)) then lsA (gA n β) (Int32.toNatClampNeg p) (sv (tC n β)) q else -2
def aGap (n : Nat → Nat) (β : Nat → Nat → Nat) (p : Int32) : Int32 := if 1 ≤ p ∧ p ≤ 3 then nI (slA n β (sv (tC n β)) (fw (fun ρ => slA n β (sv (tC n β)) ρ (Int32.toNatClampNeg p)) 4) (Int32.toNatClampNeg p)) - nI (csx (gA n β) (dgt (Int32.toNatClampNeg p) (sv (tC n β)) (bcode (gA n β) (Int32.toNatClampNeg p) (sv (tC n β)))) (sv (tC n β))) else -2
theorem in16 (p : Int32) : ((-1 : Int32) ≤ p ∧ p ≤ 6) ↔ (p = -1 ∨ (0 ≤ p ∧ p ≤ 6)) := by
  have h1 : ((-1 : Int32)).toInt = -1 := by decide
  have h9 : ((6 : Int32)).toInt = 6 := by decide
  have h0 : ((0 : Int32)).toInt = 0 := by decide
  rw [← Int32.toInt_inj]
  simp only [Int32.le_iff_toInt_le, h1, h9, h0]
  omega
section LG
variable {N : Nat} {n : Nat → Nat} {β : Nat → Nat → Nat} {typed texts coming going worn whens manyIn fronts laid : Nat → Int32} {comes came goes wears : Int32} {many ll : Int32} {gt lft ra lr ir fg : Nat → Int32}
theorem leastOf7 (hN : 2200 < N) (hT : TM n β typed texts) {k : Nat} (hk1 : 1 ≤ k) (hk : k ≤ 3) (q : Int32) (hq : q = -1 ∨ (0 ≤ q ∧ q ≤ 6)) : ∃ R, fX7_leastOf N typed texts comes coming came goes going wears worn whens laid (nI k) q = some R ∧ R.1 = lsA (gA n β) k (sv (tC n β)) q ∧ R.2.1 = nI (tC n β) := by
  have h0 := (hT 0 (by omega)).2.1
  have h1 := (hT 1 (by omega)).2.1
  have h10 := (dg_c (β := β) h0).1
  obtain ⟨w, e1, e2⟩ := goesEach7 (N := N) (comes := comes) (coming := coming) (came := came) (goes := goes) (going := going) (wears := wears) (worn := worn) (whens := whens) (by omega) hT
  have hok := gA_ok (β := β) (coming := coming) h0 h1 e2 (sv_le' (tC n β))
  unfold fX7_leastOf
  rw [e1, Option.bind_some]
  simp only
  rw [seven_eq h10, Option.bind_some]
  exact leastOf_loop (N := N) (k := k) (m := sv (tC n β)) (ga := gA n β) (cm := lt β 0) hN hk1 hk (sv_le _) hok hq laid
theorem least7 (hN : 2200 < N) (hT : TM n β typed texts) (p q : Int32) : ∃ R, fX7_least N typed texts comes coming came goes going wears worn whens laid p q = some R ∧ R.1 = aLeast n β p q := by
  unfold fX7_least aLeast
  rw [in_eq, Option.bind_some]
  by_cases c1 : 1 ≤ p ∧ p ≤ 3
  · rw [if_pos c1, if_neg (by decide), in_eq, Option.bind_some]
    by_cases c2 : q = -1 ∨ (0 ≤ q ∧ q ≤ 6)
    · rw [if_pos ((in16 q).mpr c2), if_neg (by decide), if_pos ⟨c1, c2⟩]
      obtain ⟨k, b1, b2, rfl⟩ := ncase1 (m := 3) (by decide) c1
      obtain ⟨R, e1, e2, e3⟩ := leastOf7 (N := N) (comes := comes) (coming := coming) (came := came) (goes := goes) (going := going) (wears := wears) (worn := worn) (whens := whens) (laid := laid) hN hT b1 b2 q c2
      rw [e1, Option.bind_some, nI_clamp (by omega)]
      exact ⟨_, rfl, e2⟩
    · rw [if_neg (fun z => c2 ((in16 q).mp z)), if_pos rfl, if_neg (fun h => c2 h.2)]
      exact ⟨_, rfl, rfl⟩
  · rw [if_neg c1, if_pos rfl, if_neg (fun h => c1 h.1)]
    exact ⟨_, rfl, rfl⟩
theorem findLeast6 (hN : 20 < N) (h0 : n 0 ≤ 10) (hG : RG n β many gt lft) {k : Nat} (hk1 : 1 ≤ k) (hk : k ≤ 3) (ra lr ir fg : Nat → Int32) (ll : Int32) : ∃ (ra' lr' ir' fg' : Nat → Int32), fX0_findLeast N many lft ra lr ir fg ll (nI k) = some (nI (csx (gA n β) (dgt k (sv (tC n β)) (bcode (gA n β) k (sv (tC n β)))) (sv (tC n β))), ra', lr', ir', fg', nI (csx (gA n β) (dgt k (sv (tC n β)) (bcode (gA n β) k (sv (tC n β)))) (sv (tC n β)))) ∧ ∀ i, i < sv (tC n β) → lr' i = nI (dgt k (sv (tC n β)) (bcode (gA n β) k (sv (tC n β))) i) := by
  have h10 := (dg_c (β := β) h0).1
  refine findLeast_eq hN hk1 hk (sv_le _) ?_ (fun i hi => hG.2.2 i (by have := sv_le' (tC n β); omega))
  rw [hG.1, firstOnes_eq h10]
theorem least6 (hN : 20 < N) (h0 : n 0 ≤ 10) (hG : RG n β many gt lft) (p q : Int32) : ∃ R, fX6_least N many lft ra lr ir fg ll p q = some R ∧ R.1 = aLeast n β p q := by
  have h10 := (dg_c (β := β) h0).1
  have hs7 := sv_le (tC n β)
  unfold fX6_least aLeast
  rw [within_eq, Option.bind_some]
  by_cases c1 : 1 ≤ p ∧ p ≤ 3
  · rw [if_pos c1, if_neg (by decide), within_eq, Option.bind_some]
    by_cases c2 : q = -1 ∨ (0 ≤ q ∧ q ≤ 6)
    · rw [if_pos ((in16 q).mpr c2), if_neg (by decide), if_pos ⟨c1, c2⟩]
      obtain ⟨k, b1, b2, rfl⟩ := ncase1 (m := 3) (by decide) c1
      obtain ⟨ra', lr', ir', fg', e1, e2⟩ := findLeast6 (N := N) (β := β) (gt := gt) hN h0 hG b1 b2 ra lr ir fg ll
      rw [e1, Option.bind_some, nI_clamp (by omega)]
      simp only
      unfold lsA
      by_cases h : q = -1
      · rw [if_pos h, if_pos h]
        exact ⟨_, rfl, rfl⟩
      · have h3 : 0 ≤ q ∧ q ≤ 6 := by rcases c2 with z | z; exact absurd z h; exact z
        obtain ⟨g, q1, rfl⟩ := ncase (m := 6) (by decide) h3
        rw [if_neg h, if_neg h, hG.1, firstOnes_eq h10, Option.bind_some, nI_clamp (by omega)]
        by_cases c : g < sv (tC n β)
        · rw [if_neg (by rw [nI_leI (by omega) (by omega)]; omega), if_pos (chk_nI (by omega) (by omega)), if_pos c, e2 g c]
          exact ⟨_, rfl, rfl⟩
        · rw [if_pos (by rw [nI_leI (by omega) (by omega)]; omega), if_neg c]
          exact ⟨_, rfl, rfl⟩
    · rw [if_neg (fun z => c2 ((in16 q).mp z)), if_pos rfl, if_neg (fun h => c2 h.2)]
      exact ⟨_, rfl, rfl⟩
  · rw [if_neg c1, if_pos rfl, if_neg (fun h => c1 h.1)]
    exact ⟨_, rfl, rfl⟩
theorem gap6 (hN : 20 < N) (h0 : n 0 ≤ 10) (h1 : n 1 ≤ 10) (hG : RG n β many gt lft) (p : Int32) : ∃ R, fX6_gap N many gt lft ra lr ir fg ll p = some R ∧ R.1 = aGap n β p := by
  have h10 := (dg_c (β := β) h0).1
  have hs7 := sv_le' (tC n β)
  unfold fX6_gap aGap
  rw [within_eq, Option.bind_some]
  by_cases c1 : 1 ≤ p ∧ p ≤ 3
  · rw [if_pos c1, if_neg (by decide), if_pos c1]
    obtain ⟨k, b1, b2, rfl⟩ := ncase1 (m := 3) (by decide) c1
    have hfo : fX0_firstOnes many = some (nI (sv (tC n β))) := by rw [hG.1, firstOnes_eq h10]
    rw [hfo, Option.bind_some, nI_clamp (by omega)]
    obtain ⟨ra1, ir1, fg1, e1⟩ := bestRule6 (N := N) (ra := ra) (ir := ir) (fg := fg) hN h0 h1 hG b1 (show k ≤ 10 by omega) hs7
    have hf4 : fw (fun ρ => slA n β (sv (tC n β)) ρ k) 4 < 4 := fw_lt _ (by omega)
    obtain ⟨ra2, ir2, fg2, e2, -⟩ := lay6 (N := N) hN h0 h1 hG (ρ := fw (fun ρ => slA n β (sv (tC n β)) ρ k) 4) (by omega) b1 (show k ≤ 10 by omega) hs7 ra1 ir1 fg1
    obtain ⟨ra3, lr3, ir3, fg3, e3, -⟩ := findLeast6 (N := N) (β := β) (gt := gt) hN h0 hG b1 b2 ra2 lr ir2 fg2 ll
    rw [e1, Option.bind_some]
    simp only
    rw [e2, Option.bind_some]
    simp only
    rw [e3, Option.bind_some]
    exact ⟨_, rfl, rfl⟩
  · rw [if_neg c1, if_pos rfl, if_neg c1]
    exact ⟨_, rfl, rfl⟩
theorem ruleBy7c {ρ k m : Nat} (hN : 20 < N) (hT : TM n β typed texts) (hρ : ρ ≤ 3) (hk1 : 1 ≤ k) (hk : k ≤ 10) (hm : m ≤ tC n β) : ∃ R, fX7_ruleBy N typed texts comes coming came goes going wears worn manyIn whens fronts laid (nI ρ) (nI k) (nI m) = some R ∧ R.1 = nI (slA n β m ρ k) ∧ R.2.1 = nI (tC n β) := by
  have h0 := (hT 0 (by omega)).2.1
  have h1 := (hT 1 (by omega)).2.1
  have d0 := dg_c (β := β) h0
  have h10 := d0.1
  unfold fX7_ruleBy
  obtain ⟨w, e, hw⟩ := goesEach7 (N := N) (comes := comes) (coming := coming) (came := came) (goes := goes) (going := going) (wears := wears) (worn := worn) (whens := whens) hN hT
  rw [e, Option.bind_some]
  simp only
  obtain ⟨mi, fn, ld, e2, -, -⟩ := ruleBy_loop (N := N) (ρ := ρ) (k := k) (m := m) (ga := gA n β) (cm := lt β 0) (typed := typed) (texts := texts) (coming := fl coming (fun k => nI (β 0 k - 97)) (tC n β)) (going := fl going (fun k => nI (β 1 k - 97)) (tG n β)) (worn := fl worn (fun k => nI (β 2 k - 97)) (tW n β)) (whens := w) (manyIn := manyIn) (fronts := fronts) (laid := laid) (comes := nI (tC n β)) (came := M (cS n β)) (goes := nI (tG n β)) (wears := nI (tW n β)) hN hρ hk1 hk (by omega) (gA_ok h0 h1 hw hm)
  exact ⟨_, e2, rfl, rfl⟩
theorem gapOf7 (hN : 2200 < N) (hT : TM n β typed texts) {k : Nat} (b1 : 1 ≤ k) (b2 : k ≤ 3) : ∃ R, fX7_gapOf N typed texts comes coming came goes going wears worn manyIn whens fronts laid (nI k) = some R ∧ R.1 = aGap n β (nI k) := by
  have h0 := (hT 0 (by omega)).2.1
  have h10 := (dg_c (β := β) h0).1
  have hs7 := sv_le' (tC n β)
  have c1 : 1 ≤ nI k ∧ nI k ≤ 3 := ⟨by rw [li1, nI_leI (by omega) (by omega)]; exact b1, by rw [li3, nI_leI (by omega) (by omega)]; exact b2⟩
  unfold aGap
  rw [if_pos c1, nI_clamp (by omega)]
  obtain ⟨R0, r1, r2, r3⟩ := leastOf7 (N := N) (comes := comes) (coming := coming) (came := came) (goes := goes) (going := going) (wears := wears) (worn := worn) (whens := whens) (laid := laid) hN hT b1 b2 (-1) (Or.inl rfl)
  have r2' : R0.1 = nI (csx (gA n β) (dgt k (sv (tC n β)) (bcode (gA n β) k (sv (tC n β)))) (sv (tC n β))) := r2.trans (if_pos rfl)
  unfold fX7_gapOf
  rw [r1, Option.bind_some, r3, seven_eq h10, Option.bind_some]
  obtain ⟨R, e1, e2, e3⟩ := ruleBy7c (N := N) (n := n) (β := β) (typed := typed) (texts := texts) (comes := nI (tC n β)) (coming := R0.2.2.1) (came := R0.2.2.2.1) (goes := R0.2.2.2.2.1) (going := R0.2.2.2.2.2.1) (wears := R0.2.2.2.2.2.2.1) (worn := R0.2.2.2.2.2.2.2.1) (whens := R0.2.2.2.2.2.2.2.2.1) (manyIn := manyIn) (fronts := fronts) (laid := R0.2.2.2.2.2.2.2.2.2) (ρ := 0) (by omega) hT (by omega) b1 (show k ≤ 10 by omega) hs7
  rw [show (0 : Int32) = nI 0 from rfl, e1, Option.bind_some]
  have hsl : ∀ ρ, slA n β (sv (tC n β)) ρ k ≤ 100 := fun ρ => slA_le (by omega)
  obtain ⟨z, hz, e⟩ := lp_for (b := bX7_gapOf_21 N typed texts (nI k) R0.1) 4 (fun r s => s.1 = nI (slA n β (sv (tC n β)) (fw (fun ρ => slA n β (sv (tC n β)) ρ k) r) k) ∧ s.2.1 = nI r ∧ s.2.2.1 = nI (tC n β)) (fun z => ∃ R, z = some R ∧ R.1 = nI (slA n β (sv (tC n β)) (fw (fun ρ => slA n β (sv (tC n β)) ρ k) 4) k) - R0.1)
    (fun r s hr hp => by
      obtain ⟨x1, x2, x3, cs⟩ := s
      obtain ⟨p1, p2, p3⟩ := hp
      simp only at p1 p2 p3
      subst p1 p2 p3
      obtain ⟨R, e1, e2, e3⟩ := ruleBy7c (N := N) (n := n) (β := β) (typed := typed) (texts := texts) (comes := nI (tC n β)) (coming := cs.1) (came := cs.2.1) (goes := cs.2.2.1) (going := cs.2.2.2.1) (wears := cs.2.2.2.2.1) (worn := cs.2.2.2.2.2.1) (manyIn := cs.2.2.2.2.2.2.1) (whens := cs.2.2.2.2.2.2.2.1) (fronts := cs.2.2.2.2.2.2.2.2.1) (laid := cs.2.2.2.2.2.2.2.2.2) (ρ := r) (by omega) hT (by omega) b1 (show k ≤ 10 by omega) hs7
      have q1 := hsl r
      have q2 := hsl (fw (fun ρ => slA n β (sv (tC n β)) ρ k) r)
      left
      unfold bX7_gapOf_21 bX7_gapOf_52
      simp only
      refine ⟨(nI (slA n β (sv (tC n β)) (fw (fun ρ => slA n β (sv (tC n β)) ρ k) (r + 1)) k), nI (r + 1), R.2), ⟨rfl, rfl, e3⟩, fun κ => ?_⟩
      rw [if_neg (show ¬ (4 : Int32) ≤ nI r by rw [show (4 : Int32) = nI 4 from rfl, nI_leI (by omega) (by omega)]; omega), seven_eq h10, Option.bind_some, e1, Option.bind_some, e2, nI_1, fw]
      by_cases c : slA n β (sv (tC n β)) (fw (fun ρ => slA n β (sv (tC n β)) ρ k) r) k ≤ slA n β (sv (tC n β)) r k
      · rw [if_pos (show nI _ ≤ nI _ by rw [nI_leI (by omega) (by omega)]; exact c), if_pos c]
      · rw [if_neg (show ¬ nI _ ≤ nI _ by rw [nI_leI (by omega) (by omega)]; exact c), if_neg c])
    (fun s hp => by
      refine ⟨some (s.1 - R0.1, s.2.2), ⟨_, rfl, by rw [hp.1]⟩, fun κ => ?_⟩
      unfold bX7_gapOf_21
      rw [if_pos (show (4 : Int32) ≤ s.2.1 by rw [hp.2.1]; decide)])
    (k := 1) (s := (R.1, 1, R.2.1, R.2.2.1, R.2.2.2.1, R.2.2.2.2.1, R.2.2.2.2.2.1, R.2.2.2.2.2.2.1, R.2.2.2.2.2.2.2.1, R.2.2.2.2.2.2.2.2.1, R.2.2.2.2.2.2.2.2.2.1, R.2.2.2.2.2.2.2.2.2.2.1, R.2.2.2.2.2.2.2.2.2.2.2)) (N := N) (by omega) ⟨by simp only [fw, Nat.le_refl, if_true]; exact e2, rfl, e3⟩ (by omega)
  obtain ⟨R', a1, a2⟩ := hz
  exact ⟨R', by rw [e, a1], by rw [a2, r2']⟩
theorem gap7 (hN : 2200 < N) (hT : TM n β typed texts) (p : Int32) : ∃ R, fX7_gap N typed texts comes coming came goes going wears worn manyIn whens fronts laid p = some R ∧ R.1 = aGap n β p := by
  unfold fX7_gap
  rw [in_eq, Option.bind_some]
  by_cases c1 : 1 ≤ p ∧ p ≤ 3
  · rw [if_pos c1, if_neg (by decide)]
    obtain ⟨k, b1, b2, rfl⟩ := ncase1 (m := 3) (by decide) c1
    obtain ⟨R, e1, e2⟩ := gapOf7 (N := N) (comes := comes) (coming := coming) (came := came) (goes := goes) (going := going) (wears := wears) (worn := worn) (whens := whens) (manyIn := manyIn) (fronts := fronts) (laid := laid) hN hT b1 b2
    rw [e1, Option.bind_some]
    exact ⟨_, rfl, e2⟩
  · rw [if_neg c1, if_pos rfl]
    refine ⟨_, rfl, ?_⟩
    unfold aGap
    rw [if_neg c1]
end LG

/-! 23: rule, best -/
def gA (n : Nat → Nat) (β : Nat → Nat → Nat) (i : Nat) : Nat := whs n β (lt β 0 i)
def slA (n : Nat → Nat) (β : Nat → Nat → Nat) (m ρ k : Nat) : Nat := sl ρ k (gA n β) m
def aRule (n : Nat → Nat) (β : Nat → Nat → Nat) (p q : Int32) : Int32 := if (0 ≤ p ∧ p ≤ 3) ∧ (1 ≤ q ∧ q ≤ 9) then nI (slA n β (tC n β) (Int32.toNatClampNeg p) (Int32.toNatClampNeg q)) else -2
def aBest (n : Nat → Nat) (β : Nat → Nat → Nat) (q : Int32) : Int32 := if 1 ≤ q ∧ q ≤ 9 then nI (fw (fun ρ => slA n β (tC n β) ρ (Int32.toNatClampNeg q)) 4) else -2
theorem slA_le {n : Nat → Nat} {β : Nat → Nat → Nat} {m ρ k : Nat} (hm : m ≤ 10) : slA n β m ρ k ≤ 100 := by
  unfold slA; have := @sl_le ρ k (gA n β) m; omega
theorem ncase1 {x : Int32} {m : Nat} (hm : m < 2 ^ 31) (h : 1 ≤ x ∧ x ≤ nI m) : ∃ j, 1 ≤ j ∧ j ≤ m ∧ x = nI j := by
  obtain ⟨j, h1, rfl⟩ := ncase hm ⟨Int32.le_trans (by decide) h.1, h.2⟩
  refine ⟨j, ?_, h1, rfl⟩
  have := h.1
  rw [li1, nI_leI (by omega) (by omega)] at this
  exact this
section GE
variable {N : Nat} {n : Nat → Nat} {β : Nat → Nat → Nat} {typed texts coming going worn whens : Nat → Int32} {comes came goes wears : Int32}
theorem cS_in {i : Nat} (hi : i < tC n β) : cS n β (lt β 0 i) = true := by
  rw [cS_gn, gn_iff]; exact ⟨i, hi, rfl⟩
theorem gA_lt (h0 : n 0 ≤ 10) (h1 : n 1 ≤ 10) {i : Nat} (hi : i < tC n β) : gA n β i < tC n β := by
  have d0 := dg_c (β := β) h0
  refine wh_lt d0 (dg_g (β := β) h1) cS_gn (gc_c h1) (d0.2.1 i hi) ?_
  exact cS_in hi
theorem goesEach7 (hN : 20 < N) (hT : TM n β typed texts) : ∃ w : Nat → Int32, fX7_goesEach N typed texts comes coming came goes going wears worn whens = some (nI (tC n β), fl coming (fun k => nI (β 0 k - 97)) (tC n β), M (cS n β), nI (tG n β), fl going (fun k => nI (β 1 k - 97)) (tG n β), nI (tW n β), fl worn (fun k => nI (β 2 k - 97)) (tW n β), w) ∧ ∀ g, g < 10 → cS n β g = true → w g = nI (whs n β g) := by
  have h0 := (hT 0 (by omega)).2.1
  have h1 := (hT 1 (by omega)).2.1
  have d0 := dg_c (β := β) h0
  have d1 := dg_g (β := β) h1
  unfold fX7_goesEach
  rw [reads_eq hN hT, Option.bind_some]
  exact goesEach_loop (n := tC n β) (ng := tG n β) (cm := lt β 0) (gm := lt β 1) (C := cS n β) hN d0 d1 cS_gn (gc_c h1) ca_fl
theorem gA_ok (h0 : n 0 ≤ 10) (h1 : n 1 ≤ 10) {w : Nat → Int32} (hw : ∀ g, g < 10 → cS n β g = true → w g = nI (whs n β g)) {m : Nat} (hm : m ≤ tC n β) : ∀ i, i < m → fl coming (fun k => nI (β 0 k - 97)) (tC n β) i = nI (lt β 0 i) ∧ lt β 0 i < 10 ∧ w (lt β 0 i) = nI (gA n β i) ∧ gA n β i < 10 := by
  intro i hi
  have d0 := dg_c (β := β) h0
  have h10 := d0.1
  have hi' : i < tC n β := by omega
  have := gA_lt h0 h1 hi'
  exact ⟨ca_fl i hi', d0.2.1 i hi', hw _ (d0.2.1 i hi') (cS_in hi'), by omega⟩
theorem ruleBy7 {manyIn fronts laid : Nat → Int32} {ρ k m : Nat} (hN : 20 < N) (hT : TM n β typed texts) (hρ : ρ ≤ 3) (hk1 : 1 ≤ k) (hk : k ≤ 10) (hm : m ≤ tC n β) : ∃ R, fX7_ruleBy N typed texts comes coming came goes going wears worn manyIn whens fronts laid (nI ρ) (nI k) (nI m) = some R ∧ R.1 = nI (slA n β m ρ k) := by
  have h0 := (hT 0 (by omega)).2.1
  have h1 := (hT 1 (by omega)).2.1
  have d0 := dg_c (β := β) h0
  have h10 := d0.1
  unfold fX7_ruleBy
  obtain ⟨w, e, hw⟩ := goesEach7 (N := N) (comes := comes) (coming := coming) (came := came) (goes := goes) (going := going) (wears := wears) (worn := worn) (whens := whens) hN hT
  rw [e, Option.bind_some]
  simp only
  obtain ⟨mi, fn, ld, e2, -, -⟩ := ruleBy_loop (N := N) (ρ := ρ) (k := k) (m := m) (ga := gA n β) (cm := lt β 0) (typed := typed) (texts := texts) (coming := fl coming (fun k => nI (β 0 k - 97)) (tC n β)) (going := fl going (fun k => nI (β 1 k - 97)) (tG n β)) (worn := fl worn (fun k => nI (β 2 k - 97)) (tW n β)) (whens := w) (manyIn := manyIn) (fronts := fronts) (laid := laid) (comes := nI (tC n β)) (came := M (cS n β)) (goes := nI (tG n β)) (wears := nI (tW n β)) hN hρ hk1 hk (by omega) (gA_ok h0 h1 hw hm)
  exact ⟨_, e2, rfl⟩
theorem ruleOf7 {manyIn fronts laid : Nat → Int32} {ρ k : Nat} (hN : 20 < N) (hT : TM n β typed texts) (hρ : ρ ≤ 3) (hk1 : 1 ≤ k) (hk : k ≤ 10) : ∃ R, fX7_ruleOf N typed texts comes coming came goes going wears worn manyIn whens fronts laid (nI ρ) (nI k) = some R ∧ R.1 = nI (slA n β (tC n β) ρ k) := by
  unfold fX7_ruleOf
  rw [reads_eq hN hT, Option.bind_some]
  simp only
  obtain ⟨R, e1, e2⟩ := ruleBy7 (N := N) (n := n) (β := β) (typed := typed) (texts := texts) (comes := nI (tC n β)) (coming := fl coming (fun k => nI (β 0 k - 97)) (tC n β)) (came := M (cS n β)) (goes := nI (tG n β)) (going := fl going (fun k => nI (β 1 k - 97)) (tG n β)) (wears := nI (tW n β)) (worn := fl worn (fun k => nI (β 2 k - 97)) (tW n β)) (whens := whens) (manyIn := manyIn) (fronts := fronts) (laid := laid) hN hT hρ hk1 hk (Nat.le_refl _)
  rw [e1, Option.bind_some]
  exact ⟨_, rfl, e2⟩
theorem rule7 {manyIn fronts laid : Nat → Int32} (hN : 20 < N) (hT : TM n β typed texts) (p q : Int32) : ∃ R, fX7_rule N typed texts comes coming came goes going wears worn manyIn whens fronts laid p q = some R ∧ R.1 = aRule n β p q := by
  unfold fX7_rule aRule
  rw [in_eq, Option.bind_some]
  by_cases c1 : 0 ≤ p ∧ p ≤ 3
  · rw [if_pos c1, if_neg (by decide), in_eq, Option.bind_some]
    by_cases c2 : 1 ≤ q ∧ q ≤ 9
    · rw [if_pos c2, if_neg (by decide), if_pos ⟨c1, c2⟩]
      obtain ⟨ρ, a1, rfl⟩ := ncase (m := 3) (by decide) c1
      obtain ⟨k, b1, b2, rfl⟩ := ncase1 (m := 9) (by decide) c2
      obtain ⟨R, e1, e2⟩ := ruleOf7 (N := N) (n := n) (β := β) (typed := typed) (texts := texts) (comes := comes) (coming := coming) (came := came) (goes := goes) (going := going) (wears := wears) (worn := worn) (whens := whens) (manyIn := manyIn) (fronts := fronts) (laid := laid) hN hT a1 b1 (by omega)
      rw [e1, Option.bind_some, nI_clamp (by omega), nI_clamp (by omega)]
      exact ⟨_, rfl, e2⟩
    · rw [if_neg c2, if_pos rfl, if_neg (fun h => c2 h.2)]
      exact ⟨_, rfl, rfl⟩
  · rw [if_neg c1, if_pos rfl, if_neg (fun h => c1 h.1)]
    exact ⟨_, rfl, rfl⟩
theorem best7 {manyIn fronts laid : Nat → Int32} (hN : 20 < N) (hT : TM n β typed texts) (q : Int32) : ∃ R, fX7_best N typed texts comes coming came goes going wears worn manyIn whens fronts laid q = some R ∧ R.1 = aBest n β q := by
  have h0 := (hT 0 (by omega)).2.1
  have h10 := (dg_c (β := β) h0).1
  unfold fX7_best aBest
  rw [in_eq, Option.bind_some]
  by_cases c2 : 1 ≤ q ∧ q ≤ 9
  · rw [if_pos c2, if_neg (by decide), if_pos c2]
    obtain ⟨k, b1, b2, rfl⟩ := ncase1 (m := 9) (by decide) c2
    rw [nI_clamp (by omega)]
    have hsl : ∀ ρ, slA n β (tC n β) ρ k ≤ 100 := fun ρ => slA_le h10
    unfold fX7_bestOf
    obtain ⟨R, e1, e2⟩ := ruleOf7 (N := N) (n := n) (β := β) (typed := typed) (texts := texts) (comes := comes) (coming := coming) (came := came) (goes := goes) (going := going) (wears := wears) (worn := worn) (whens := whens) (manyIn := manyIn) (fronts := fronts) (laid := laid) (ρ := 0) hN hT (by omega) b1 (show k ≤ 10 by omega)
    rw [show (0 : Int32) = nI 0 from rfl, e1, Option.bind_some]
    obtain ⟨z, hz, e⟩ := lp_for (b := bX7_bestOf_12 N typed texts (nI k)) 4 (fun r s => s.1 = nI (fw (fun ρ => slA n β (tC n β) ρ k) r) ∧ s.2.1 = nI (slA n β (tC n β) (fw (fun ρ => slA n β (tC n β) ρ k) r) k) ∧ s.2.2.1 = nI r) (fun z => ∃ R, z = some R ∧ R.1 = nI (fw (fun ρ => slA n β (tC n β) ρ k) 4))
      (fun r s hr hp => by
        obtain ⟨x1, x2, x3, cs⟩ := s
        obtain ⟨p1, p2, p3⟩ := hp
        simp only at p1 p2 p3
        subst p1 p2 p3
        have hle := fw_le (fun ρ => slA n β (tC n β) ρ k) r
        obtain ⟨R, e1, e2⟩ := ruleOf7 (N := N) (n := n) (β := β) (typed := typed) (texts := texts) (comes := cs.1) (coming := cs.2.1) (came := cs.2.2.1) (goes := cs.2.2.2.1) (going := cs.2.2.2.2.1) (wears := cs.2.2.2.2.2.1) (worn := cs.2.2.2.2.2.2.1) (manyIn := cs.2.2.2.2.2.2.2.1) (whens := cs.2.2.2.2.2.2.2.2.1) (fronts := cs.2.2.2.2.2.2.2.2.2.1) (laid := cs.2.2.2.2.2.2.2.2.2.2) (ρ := r) hN hT (by omega) b1 (show k ≤ 10 by omega)
        have q1 := hsl r
        have q2 := hsl (fw (fun ρ => slA n β (tC n β) ρ k) r)
        left
        unfold bX7_bestOf_12 bX7_bestOf_39 bX7_bestOf_52
        simp only
        refine ⟨(nI (fw (fun ρ => slA n β (tC n β) ρ k) (r + 1)), nI (slA n β (tC n β) (fw (fun ρ => slA n β (tC n β) ρ k) (r + 1)) k), nI (r + 1), R.2), ⟨rfl, rfl, rfl⟩, fun κ => ?_⟩
        rw [if_neg (show ¬ (4 : Int32) ≤ nI r by rw [show (4 : Int32) = nI 4 from rfl, nI_leI (by omega) (by omega)]; omega), e1, Option.bind_some, e2, nI_1, fw]
        by_cases c : slA n β (tC n β) (fw (fun ρ => slA n β (tC n β) ρ k) r) k ≤ slA n β (tC n β) r k
        · rw [if_pos (show nI _ ≤ nI _ by rw [nI_leI (by omega) (by omega)]; exact c), if_pos (show nI _ ≤ nI _ by rw [nI_leI (by omega) (by omega)]; exact c), if_pos c]
        · rw [if_neg (show ¬ nI _ ≤ nI _ by rw [nI_leI (by omega) (by omega)]; exact c), if_neg (show ¬ nI _ ≤ nI _ by rw [nI_leI (by omega) (by omega)]; exact c), if_neg c])
      (fun s hp => by
        refine ⟨_, ⟨(s.1, s.2.2.2), rfl, hp.1⟩, fun κ => ?_⟩
        unfold bX7_bestOf_12
        rw [if_pos (show (4 : Int32) ≤ s.2.2.1 by rw [hp.2.2]; decide)])
      (k := 1) (s := (nI 0, R.1, 1, R.2.1, R.2.2.1, R.2.2.2.1, R.2.2.2.2.1, R.2.2.2.2.2.1, R.2.2.2.2.2.2.1, R.2.2.2.2.2.2.2.1, R.2.2.2.2.2.2.2.2.1, R.2.2.2.2.2.2.2.2.2.1, R.2.2.2.2.2.2.2.2.2.2.1, R.2.2.2.2.2.2.2.2.2.2.2)) (N := N) (by omega) ⟨by simp [fw], by simp only [fw, Nat.le_refl, if_true]; exact e2, rfl⟩ (by omega)
    obtain ⟨R', rfl, hR⟩ := hz
    rw [e, Option.bind_some]
    exact ⟨_, rfl, hR⟩
  · rw [if_neg c2, if_pos rfl, if_neg c2]
    exact ⟨_, rfl, rfl⟩
end GE
section RK
variable {N : Nat} {n : Nat → Nat} {β : Nat → Nat → Nat} {many : Int32} {gt lft ra ir fg : Nat → Int32}
theorem lay6 (hN : 20 < N) (h0 : n 0 ≤ 10) (h1 : n 1 ≤ 10) (hG : RG n β many gt lft) {ρ k m : Nat} (hρ : ρ ≤ 3) (hk1 : 1 ≤ k) (hk : k ≤ 10) (hm : m ≤ tC n β) (ra ir fg : Nat → Int32) : ∃ ra' ir' fg' : Nat → Int32, fX0_layByRule N gt lft ra ir fg (nI ρ) (nI k) (nI m) = some (nI (slA n β m ρ k), ra', ir', fg') ∧ CA m (rr ρ k (gA n β)) ra' := by
  have h10 := (dg_c (β := β) h0).1
  exact layByRule_eq hN hρ hk1 hk (by omega) (fun i hi => ⟨hG.2.1 i (by omega), by have := gA_lt (β := β) h0 h1 (show i < tC n β by omega); omega⟩) (fun i hi => hG.2.2 i (by omega))
theorem rule6 (hN : 20 < N) (h0 : n 0 ≤ 10) (h1 : n 1 ≤ 10) (hG : RG n β many gt lft) (p q : Int32) : ∃ R, fX6_rule N many gt lft ra ir fg p q = some R ∧ R.1 = aRule n β p q := by
  unfold fX6_rule aRule
  rw [within_eq, Option.bind_some]
  by_cases c1 : 0 ≤ p ∧ p ≤ 3
  · rw [if_pos c1, if_neg (by decide), within_eq, Option.bind_some]
    by_cases c2 : 1 ≤ q ∧ q ≤ 9
    · rw [if_pos c2, if_neg (by decide), if_pos ⟨c1, c2⟩]
      obtain ⟨ρ, a1, rfl⟩ := ncase (m := 3) (by decide) c1
      obtain ⟨k, b1, b2, rfl⟩ := ncase1 (m := 9) (by decide) c2
      obtain ⟨ra', ir', fg', e, -⟩ := lay6 hN h0 h1 hG a1 b1 (by omega) (Nat.le_refl _) ra ir fg
      rw [hG.1, e, Option.bind_some, nI_clamp (by omega), nI_clamp (by omega)]
      exact ⟨_, rfl, rfl⟩
    · rw [if_neg c2, if_pos rfl, if_neg (fun h => c2 h.2)]
      exact ⟨_, rfl, rfl⟩
  · rw [if_neg c1, if_pos rfl, if_neg (fun h => c1 h.1)]
    exact ⟨_, rfl, rfl⟩
theorem bestRule6 (hN : 20 < N) (h0 : n 0 ≤ 10) (h1 : n 1 ≤ 10) (hG : RG n β many gt lft) {k m : Nat} (b1 : 1 ≤ k) (hk : k ≤ 10) (hm : m ≤ tC n β) : ∃ ra' ir' fg' : Nat → Int32, fX0_bestRule N gt lft ra ir fg (nI k) (nI m) = some (nI (fw (fun ρ => slA n β m ρ k) 4), ra', ir', fg') := by
  have h10 := (dg_c (β := β) h0).1
  have hsl : ∀ ρ, slA n β m ρ k ≤ 100 := fun ρ => slA_le (by omega)
  unfold fX0_bestRule
  obtain ⟨ra, ir, fg, e0, -⟩ := lay6 hN h0 h1 hG (show 0 ≤ 3 by omega) b1 hk hm ra ir fg
  rw [show (0 : Int32) = nI 0 from rfl, e0, Option.bind_some]
  obtain ⟨z, hz, e⟩ := lp_for (b := bX0_bestRule_14 N gt lft (nI k) (nI m)) 4 (fun r s => ∃ ra ir fg : Nat → Int32, s = (nI (fw (fun ρ => slA n β m ρ k) r), nI (slA n β m (fw (fun ρ => slA n β m ρ k) r) k), nI r, ra, ir, fg)) (fun z => ∃ ra ir fg : Nat → Int32, z = some (nI (fw (fun ρ => slA n β m ρ k) 4), ra, ir, fg))
    (fun r s hr hp => by
      obtain ⟨ra, ir, fg, rfl⟩ := hp
      obtain ⟨ra', ir', fg', e1, -⟩ := lay6 hN h0 h1 hG (show r ≤ 3 by omega) b1 hk hm ra ir fg
      have hle := fw_le (fun ρ => slA n β m ρ k) r
      have q1 := hsl r
      have q2 := hsl (fw (fun ρ => slA n β m ρ k) r)
      left
      refine ⟨_, ⟨ra', ir', fg', rfl⟩, fun κ => ?_⟩
      unfold bX0_bestRule_14 bX0_bestRule_44
      simp only
      rw [if_neg (show ¬ (4 : Int32) ≤ nI r by rw [show (4 : Int32) = nI 4 from rfl, nI_leI (by omega) (by omega)]; omega), e1, Option.bind_some, nI_1, fw]
      by_cases c : slA n β m (fw (fun ρ => slA n β m ρ k) r) k ≤ slA n β m r k
      · rw [if_pos (show nI _ ≤ nI _ by rw [nI_leI (by omega) (by omega)]; exact c), if_pos c]
      · rw [if_neg (show ¬ nI _ ≤ nI _ by rw [nI_leI (by omega) (by omega)]; exact c), if_neg c])
    (fun s hp => by
      obtain ⟨ra, ir, fg, rfl⟩ := hp
      refine ⟨_, ⟨ra, ir, fg, rfl⟩, fun κ => ?_⟩
      unfold bX0_bestRule_14
      simp only
      rw [if_pos (by decide)])
    (k := 1) (s := (nI 0, nI (slA n β m 0 k), 1, ra, ir, fg)) (N := N) (by omega) ⟨ra, ir, fg, by simp only [fw, Nat.le_refl, if_true]; rfl⟩ (by omega)
  obtain ⟨a, b, c, rfl⟩ := hz
  exact ⟨a, b, c, e⟩
theorem best6 (hN : 20 < N) (h0 : n 0 ≤ 10) (h1 : n 1 ≤ 10) (hG : RG n β many gt lft) (q : Int32) : ∃ R, fX6_best N many gt lft ra ir fg q = some R ∧ R.1 = aBest n β q := by
  unfold fX6_best aBest
  rw [within_eq, Option.bind_some]
  by_cases c2 : 1 ≤ q ∧ q ≤ 9
  · rw [if_pos c2, if_neg (by decide), if_pos c2]
    obtain ⟨k, b1, b2, rfl⟩ := ncase1 (m := 9) (by decide) c2
    obtain ⟨ra', ir', fg', e⟩ := bestRule6 (ra := ra) (ir := ir) (fg := fg) hN h0 h1 hG b1 (show k ≤ 10 by omega) (Nat.le_refl _)
    rw [hG.1, e, Option.bind_some, nI_clamp (by omega)]
    exact ⟨_, rfl, rfl⟩
  · rw [if_neg c2, if_pos rfl, if_neg c2]
    exact ⟨_, rfl, rfl⟩
end RK

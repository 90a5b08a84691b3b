/-! ===== class and model, of one abstract state; the first queries ===== -/
section CL
variable (n : Nat → Nat) (β tr : Nat → Nat → Nat) (st : Nat → Nat)
def ClsT (t0_bytes : Nat → Int32) (t0_size t0_faultAt t0_known t0_bits : Int32) (t1_bytes : Nat → Int32) (t1_size t1_faultAt t1_known : Int32) (t2_bytes : Nat → Int32) (t2_size t2_faultAt t2_known : Int32) (tr0 tr1 tr2 settings h_inRow h_inFrontOf h_liftedFor h_takers : Nat → Int32) (h_takerCount h_laid h_judgedGuest h_liftedInAll g_many : Int32) (g_goesAt g_liftedForThese : Nat → Int32) : Prop :=
  TX n β 0 t0_bytes t0_size ∧ TX n β 1 t1_bytes t1_size ∧ TX n β 2 t2_bytes t2_size ∧ RTr tr tr0 tr1 tr2 ∧ RSt st settings ∧
  (t0_faultAt = tF0 n β ∧ t0_known = nI (tC n β) ∧ t0_bits = M (cS n β) ∧ t1_faultAt = tF1 n β ∧ t1_known = nI (tG n β) ∧ t2_faultAt = tF2 n β ∧ t2_known = nI (tW n β)) ∧
  RH n β (tr 0) (st 0) h_inRow h_inFrontOf h_liftedFor h_takers h_takerCount h_laid h_judgedGuest h_liftedInAll ∧ RG n β g_many g_goesAt g_liftedForThese
def ModT (typed texts rowOf looks minutes : Nat → Int32) (deep room look lift : Int32) : Prop :=
  TM n β typed texts ∧ RTr tr rowOf looks minutes ∧ SB st ∧ deep = nI (st 0) ∧ room = nI (st 1) ∧ look = nI (st 2) ∧ lift = nI (st 3)
end CL
theorem gcase (x : Int32) : (∃ g, g < 10 ∧ x = nI g) ∨ ¬ (0 ≤ x ∧ x ≤ 9) := by
  by_cases h : 0 ≤ x ∧ x ≤ 9
  · left
    obtain ⟨j, h1, h2⟩ := nI_of2 (x := x) (M := 9) (n := 9) (by decide) (Int32.not_lt.mpr h.1) h.2
    exact ⟨j, by omega, h2⟩
  · exact Or.inr h
theorem ncase {x : Int32} {m : Nat} (hm : m < 2 ^ 31) (h : 0 ≤ x ∧ x ≤ nI m) : ∃ j, j ≤ m ∧ x = nI j := nI_of2 (nI_toInt hm) (Int32.not_lt.mpr h.1) h.2
theorem in_nI {j m : Nat} (hm : m < 2 ^ 31) (h : j ≤ m) : (0 : Int32) ≤ nI j ∧ nI j ≤ nI m := ⟨nI_pos' (by omega), nI_le h hm⟩
theorem row_of {tr : Nat → Nat → Nat} {a0 a1 a2 : Nat → Int32} (h : RTr tr a0 a1 a2) : ∀ g, g < 10 → a0 g = nI (tr 0 g) ∧ tr 0 g < 10 := fun g hg => (h g hg).1
section TL
variable {L : Nat → Bool} {F : Nat → Nat → Bool} {gm : Nat → Nat} {ng : Nat}
theorem tk_lf (hd : DG ng gm) {i : Nat} (hi : i < tc L gm ng) : lfg L F gm ng (tkg L gm ng i) = some (tvg L F gm ng i) ∧ tkg L gm ng i < 10 ∧ L (tkg L gm ng i) = true := by
  obtain ⟨j, h1, h2, h3⟩ := tk_of hi
  obtain ⟨e1, e2⟩ := tkg_at (F := F) h1 h2
  rw [h3] at e1 e2
  rw [e1, e2]
  exact ⟨lfg_at hd (Nat.le_refl _) h1 h2, hd.2.1 j h1, h2⟩
theorem tk_no {g : Nat} (h : ∀ i, i < tc L gm ng → tkg L gm ng i ≠ g) : lfg L F gm ng g = none := by
  rw [lfg_none]
  rintro ⟨j, h1, h2, h3⟩
  have h4 : tc L gm (j + 1) ≤ tc L gm ng := tc_mono (by omega)
  rw [tc, if_pos h2] at h4
  exact h (tc L gm j) (by omega) (by rw [(tkg_at (F := F) h1 h2).1, h3])
theorem tv_le {i : Nat} (hi : i < tc L gm ng) : tvg L F gm ng i ≤ 10 := by
  obtain ⟨j, h1, h2, h3⟩ := tk_of hi
  obtain ⟨e1, e2⟩ := tkg_at (F := F) h1 h2
  rw [h3] at e2
  rw [e2]; exact lvk_le j
end TL
def aFault (n : Nat → Nat) (β : Nat → Nat → Nat) (p : Int32) : Int32 := if 0 ≤ p ∧ p ≤ 2 then (if p = 0 then tF0 n β else if p = 1 then tF1 n β else tF2 n β) else -2
def aLift (n : Nat → Nat) (β : Nat → Nat → Nat) (row : Nat → Nat) (dp : Nat) (p : Int32) : Int32 := if p = -1 then nI (sms n β row dp) else if 0 ≤ p ∧ p ≤ 9 then oI (lfs n β row dp (Int32.toNatClampNeg p)) else -2
theorem fault6 {n : Nat → Nat} {β : Nat → Nat → Nat} (p : Int32) : fX6_fault (tF0 n β) (tF1 n β) (tF2 n β) p = some (aFault n β p) := by
  unfold fX6_fault aFault
  rw [within_eq, Option.bind_some]
  by_cases h : 0 ≤ p ∧ p ≤ 2
  · rw [if_pos h, if_neg (by decide), if_pos h]
    obtain ⟨j, h1, rfl⟩ := ncase (m := 2) (by decide) h
    rcases (show j = 0 ∨ j = 1 ∨ j = 2 by omega) with e | e | e <;> subst e
    · rfl
    · simp only [if_neg (show ¬ nI 1 = 0 by decide), if_pos (show nI 1 = 1 by decide)]
    · simp only [if_neg (show ¬ nI 2 = 0 by decide), if_neg (show ¬ nI 2 = 1 by decide), if_pos (show nI 2 = 2 by decide)]
  · rw [if_neg h, if_pos rfl, if_neg h]
section QA
variable {N : Nat} {n : Nat → Nat} {β tr : Nat → Nat → Nat} {st : Nat → Nat} {typed texts coming going worn rowOf looks minutes manyIn goer lfo : Nat → Int32} {comes came goes wears deep room look lift laid judgedNow goers : Int32}
theorem fault7 (hN : 20 < N) (hT : TM n β typed texts) (p : Int32) : ∃ R, fX7_fault N typed texts comes coming came goes going wears worn p = some R ∧ R.1 = aFault n β p := by
  unfold fX7_fault fX7_isText aFault
  rw [in_eq, Option.bind_some, if_pos (b01 _), Option.bind_some]
  by_cases h : 0 ≤ p ∧ p ≤ 2
  · rw [if_pos h, if_neg (by decide), faultOf_eq hN hT, Option.bind_some, if_pos h]
    exact ⟨_, rfl, rfl⟩
  · rw [if_neg h, if_pos rfl, if_neg h]
    exact ⟨_, rfl, rfl⟩
theorem judged7 (hN : 20 < N) (hM : ModT n β tr st typed texts rowOf looks minutes deep room look lift) : ∃ R, fX7_judgedOf N typed texts comes coming came goes going wears worn rowOf deep laid judgedNow manyIn = some R ∧ R.1 = J_G (tr 0) (lt β 0) (st 0) (tC n β) := by
  obtain ⟨hT, hr, hs, rfl, -⟩ := hM
  obtain ⟨mi, e1, e2⟩ := lays_eq (N := N) (n := n) (β := β) (typed := typed) (texts := texts) (coming := coming) (going := going) (worn := worn) (rowOf := rowOf) (manyIn := manyIn) (comes := comes) (came := came) (goes := goes) (wears := wears) (laid := laid) (judgedNow := judgedNow) (row := tr 0) (dp := st 0) hN hT (row_of hr) hs.1.2
  unfold fX7_judgedOf
  rw [e1, Option.bind_some]
  exact ⟨_, rfl, rfl⟩
theorem judged7p (hN : 20 < N) (hM : ModT n β tr st typed texts rowOf looks minutes deep room look lift) : ∃ R, fX7_judged N typed texts comes coming came goes going wears worn rowOf deep laid judgedNow manyIn = some R ∧ R.1 = J_G (tr 0) (lt β 0) (st 0) (tC n β) := by
  obtain ⟨R, e1, e2⟩ := judged7 (N := N) (comes := comes) (coming := coming) (came := came) (goes := goes) (going := going) (wears := wears) (worn := worn) (laid := laid) (judgedNow := judgedNow) (manyIn := manyIn) hN hM
  unfold fX7_judged
  rw [e1, Option.bind_some]
  exact ⟨_, rfl, e2⟩
theorem liftedOf7 (hN : 20 < N) (hM : ModT n β tr st typed texts rowOf looks minutes deep room look lift) (p : Int32) (hp : p = -1 ∨ (0 ≤ p ∧ p ≤ 9)) : ∃ R, fX7_liftedOf N typed texts comes coming came goes going wears worn rowOf deep laid judgedNow manyIn goers goer lfo p = some R ∧ R.1 = aLift n β (tr 0) (st 0) p := by
  obtain ⟨hT, hr, hs, rfl, -⟩ := hM
  have h1 := (hT 1 (by omega)).2.1
  have hd := dg_g (β := β) h1
  obtain ⟨mi, ge, lf, e1, e2, e3, e4⟩ := goAll_eq (N := N) (n := n) (β := β) (typed := typed) (texts := texts) (coming := coming) (going := going) (worn := worn) (rowOf := rowOf) (manyIn := manyIn) (comes := comes) (came := came) (goes := goes) (wears := wears) (laid := laid) (judgedNow := judgedNow) (goers := goers) (goer := goer) (lfo := lfo) (row := tr 0) (dp := st 0) false hN hT (row_of hr) hs.1.2
  have hg : gd false n β = lt β 1 := rfl
  rw [hg] at e1 e3 e4
  have ht10 : tcs n β (tr 0) (st 0) ≤ 10 := Nat.le_trans (tc_le _) (by have := @tG_le n β; omega)
  have htk : ∀ i, i < tcs n β (tr 0) (st 0) → tks n β (tr 0) (st 0) i < 10 := fun i hi => (tk_lf (F := FRs (tr 0) (st 0) n β) hd hi).2.1
  unfold fX7_liftedOf
  rw [show (0 : Int32) = (if false = true then 1 else 0) from rfl, e1, Option.bind_some]
  simp only
  rcases hp with rfl | hp
  · rw [goerOf_none hN ht10 e3 htk, Option.bind_some, if_pos rfl]
    exact ⟨_, rfl, by unfold aLift; rw [if_pos rfl]⟩
  · obtain ⟨g, hg1, rfl⟩ := ncase (m := 9) (by decide) hp
    have hne := m1_ne (show g < 2 ^ 31 by omega)
    unfold aLift
    rw [if_neg hne, if_pos hp, nI_clamp (by omega)]
    rcases goerOf_loop (g := g) hN ht10 e3 htk (by omega) with ⟨i, i1, i2, i3⟩ | ⟨i1, i2⟩
    · rw [i3, Option.bind_some, if_neg hne, if_neg (m1_ne (by omega)), if_pos (chk_nI (by omega) (by omega)), nI_clamp (by omega), e4 i i1]
      refine ⟨_, rfl, ?_⟩
      have := (tk_lf (F := FRs (tr 0) (st 0) n β) hd i1).1
      rw [i2] at this
      show _ = oI (lfg (LSs (tr 0) (st 0) n β) (FRs (tr 0) (st 0) n β) (lt β 1) (tG n β) g)
      rw [this]; rfl
    · rw [i2, Option.bind_some, if_neg hne, if_pos rfl]
      refine ⟨_, rfl, ?_⟩
      show _ = oI (lfg (LSs (tr 0) (st 0) n β) (FRs (tr 0) (st 0) n β) (lt β 1) (tG n β) g)
      rw [tk_no i1]; rfl
theorem in19 (p : Int32) : ((-1 : Int32) ≤ p ∧ p ≤ 9) ↔ (p = -1 ∨ (0 ≤ p ∧ p ≤ 9)) := by
  have h1 : ((-1 : Int32)).toInt = -1 := by decide
  have h9 : ((9 : Int32)).toInt = 9 := by decide
  have h0 : ((0 : Int32)).toInt = 0 := by decide
  rw [← Int32.toInt_inj]
  simp only [Int32.le_iff_toInt_le, h1, h9, h0]
  omega
theorem lifted7 (hN : 20 < N) (hM : ModT n β tr st typed texts rowOf looks minutes deep room look lift) (p : Int32) : ∃ R, fX7_lifted N typed texts comes coming came goes going wears worn rowOf deep laid judgedNow manyIn goers goer lfo p = some R ∧ R.1 = aLift n β (tr 0) (st 0) p := by
  unfold fX7_lifted
  rw [in_eq, Option.bind_some]
  by_cases h : p = -1 ∨ (0 ≤ p ∧ p ≤ 9)
  · obtain ⟨R, e1, e2⟩ := liftedOf7 (N := N) (comes := comes) (coming := coming) (came := came) (goes := goes) (going := going) (wears := wears) (worn := worn) (laid := laid) (judgedNow := judgedNow) (manyIn := manyIn) (goers := goers) (goer := goer) (lfo := lfo) hN hM p h
    rw [if_pos ((in19 p).mpr h), if_neg (by decide), e1, Option.bind_some]
    exact ⟨_, rfl, e2⟩
  · rw [if_neg (fun z => h ((in19 p).mp z)), if_pos rfl]
    refine ⟨_, rfl, ?_⟩
    unfold aLift
    rw [if_neg (fun z => h (Or.inl z)), if_neg (fun z => h (Or.inr z))]
end QA
theorem lifted6 {n : Nat → Nat} {β : Nat → Nat → Nat} {row : Nat → Nat} {dp : Nat} {lf : Nat → Int32} (hl : ∀ g, g < 10 → lf g = oI (lfs n β row dp g)) (p : Int32) : fX6_lifted lf (nI (sms n β row dp)) p = some (aLift n β row dp p) := by
  unfold fX6_lifted aLift
  by_cases h : p = -1
  · rw [if_pos h, if_pos h]
  · rw [if_neg h, if_neg h, isGuest6_eq, Option.bind_some]
    by_cases d : 0 ≤ p ∧ p ≤ 9
    · obtain ⟨g, h1, rfl⟩ := ncase (m := 9) (by decide) d
      rw [if_pos d, if_neg (by decide), if_pos (chk_nI (by omega) (by omega)), if_pos d, nI_clamp (by omega), hl g (by omega)]
    · rw [if_neg d, if_pos rfl, if_neg d]

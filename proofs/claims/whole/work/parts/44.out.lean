/-! ===== out: model ===== -/
section OM
variable {N : Nat} {n : Nat → Nat} {β tr : Nat → Nat → Nat} {st : Nat → Nat} {typed texts coming going worn rowOf looks minutes manyIn goer lfo outs : Nat → Int32} {comes came goes wears deep room look lift laid judgedNow goers : Int32}
theorem outOf7 (hN : 2200 < N) (hM : ModT n β tr st typed texts rowOf looks minutes deep room look lift) (p : Int32) (hp : p = -1 ∨ (0 ≤ p ∧ p ≤ 9)) : ∃ R, fX7_outOf N typed texts comes coming came goes going wears worn rowOf minutes deep room look lift laid judgedNow manyIn goers goer lfo outs p = some R ∧ R.1 = aOut n β tr st p := by
  obtain ⟨hT, hTr, ⟨hs0, hs1, hs2, hs3⟩, rfl, rfl, rfl, rfl⟩ := hM
  have h1 := (hT 1 (by omega)).2.1
  have hd := dg_g (β := β) h1
  have hdt : DG (tcs n β (tr 0) (st 0)) (tks n β (tr 0) (st 0)) := dg_tk hd
  obtain ⟨mi, ge, lf, e1, e2, e3, e4⟩ := goAll_eq (N := N) (n := n) (β := β) (typed := typed) (texts := texts) (coming := coming) (going := going) (worn := worn) (rowOf := rowOf) (manyIn := manyIn) (comes := comes) (came := came) (goes := goes) (wears := wears) (laid := laid) (judgedNow := judgedNow) (goers := goers) (goer := goer) (lfo := lfo) (row := tr 0) (dp := st 0) false (by omega) hT (row_of hTr) hs0.2
  have hg : gd false n β = lt β 1 := rfl
  rw [hg] at e1 e3 e4
  have hmi : ∀ i, i < tcs n β (tr 0) (st 0) → oMi n β tr st i < 100 := fun i hi => ((hTr _ (hdt.2.1 i hi)).2.2).2
  have htv : ∀ i, i < tcs n β (tr 0) (st 0) → tvs n β (tr 0) (st 0) i ≤ 10 := fun i hi => tv_le hi
  have hdu : ∀ i, i < tcs n β (tr 0) (st 0) → oDu n β tr st i ≤ 150 := fun i hi => by
    have h2 := htv i hi
    have h3 : st 3 * tvs n β (tr 0) (st 0) i ≤ 9 * 10 := Nat.mul_le_mul hs3 h2
    unfold oDu; omega
  have ht := hdt.1
  unfold fX7_outOf
  rw [show (0 : Int32) = (if false = true then 1 else 0) from rfl, e1, Option.bind_some]
  simp only
  obtain ⟨z, hz, e⟩ := lp_for (b := bX7_outOf_14 N typed texts rowOf minutes (nI (st 0)) (nI (st 1)) (nI (st 2)) (nI (st 3)) p (nI (tC n β)) (fl coming (fun k => nI (β 0 k - 97)) (tC n β)) (M (cS n β)) (nI (tG n β)) (fl going (fun k => nI (β 1 k - 97)) (tG n β)) (nI (tW n β)) (fl worn (fun k => nI (β 2 k - 97)) (tW n β)) (M (LSs (tr 0) (st 0) n β)) (J_G (tr 0) (lt β 0) (st 0) (tC n β)) mi (nI (tcs n β (tr 0) (st 0))) ge lf) (tcs n β (tr 0) (st 0)) (fun k s => ∃ outs : Nat → Int32, s = (nI (oZ n β tr st k).1, nI (lst (oZ n β tr st k).2 k), nI k, outs) ∧ ∀ i, i < k → outs i = nI ((oZ n β tr st k).2 i)) (fun z => ∃ R, z = some R ∧ R.1 = aOut n β tr st p)
    (fun k s hk hp2 => by
      obtain ⟨outs, rfl, b1⟩ := hp2
      left
      have hg := hdt.2.1 k hk
      obtain ⟨q1, q2⟩ : (oZ n β tr st k).1 ≤ 99 + 150 * k ∧ ∀ i, i < k → (oZ n β tr st k).2 i ≤ 99 + 150 * k := oz_bd (rm := st 1) ht (by omega) hmi hdu (k := k) (by omega)
      obtain ⟨q3, q4⟩ : IsE (oZ n β tr st k).2 k (st 1) (if (oZ n β tr st k).1 < oMi n β tr st k then oMi n β tr st k else (oZ n β tr st k).1) (eN (st 1) (oMi n β tr st) (oZ n β tr st k) k) ∧ eN (st 1) (oMi n β tr st) (oZ n β tr st k) k ≤ 99 + 150 * k := eN_is (rm := st 1) ht (by omega) hmi hdu hk
      have hm1 := hmi k hk
      have htv1 := htv k hk
      have hdu1 := hdu k hk
      have hl1 : lst (oZ n β tr st k).2 k ≤ 99 + 150 * k := lst_le q2
      have htr : minutes (tks n β (tr 0) (st 0) k) = nI (oMi n β tr st k) := ((hTr _ hg).2.2).1
      have hek : (oZ n β tr st (k + 1)).2 k = eN (st 1) (oMi n β tr st) (oZ n β tr st k) k + oDu n β tr st k := by rw [show (oZ n β tr st (k + 1)).2 k = _ from oz_2 k k, if_pos rfl]
      have hls : lst (oZ n β tr st (k + 1)).2 (k + 1) = if lst (oZ n β tr st k).2 k < eN (st 1) (oMi n β tr st) (oZ n β tr st k) k + oDu n β tr st k then eN (st 1) (oMi n β tr st) (oZ n β tr st k) k + oDu n β tr st k else lst (oZ n β tr st k).2 k := by
        rw [lst, hek, lst_congr (p := (oZ n β tr st k).2) (fun i hi => oz_keep (by omega) hi)]
      generalize hE : eN (st 1) (oMi n β tr st) (oZ n β tr st k) k = E at q3 q4 hek hls
      -- the search for the minute
      have inner : ∀ (τ : Nat) κ, (if (oZ n β tr st k).1 < oMi n β tr st k then oMi n β tr st k else (oZ n β tr st k).1) = τ → lp (bX7_outOf_56 N typed texts rowOf minutes (nI (st 0)) (nI (st 1)) (nI (st 2)) (nI (st 3)) p (nI (tC n β)) (fl coming (fun k => nI (β 0 k - 97)) (tC n β)) (M (cS n β)) (nI (tG n β)) (fl going (fun k => nI (β 1 k - 97)) (tG n β)) (nI (tW n β)) (fl worn (fun k => nI (β 2 k - 97)) (tW n β)) (M (LSs (tr 0) (st 0) n β)) (J_G (tr 0) (lt β 0) (st 0) (tC n β)) mi (nI (tcs n β (tr 0) (st 0))) ge lf κ (nI (lst (oZ n β tr st k).2 k)) (nI k) outs) N (nI τ) = κ (nI E, nI (lst (oZ n β tr st (k + 1)).2 (k + 1)), nI (k + 1), upd outs k (nI (E + oDu n β tr st k))) := by
        intro τ κ hτ
        rw [hτ] at q3
        obtain ⟨i1, i2, i3⟩ := q3
        have hw : ∀ x, x ≤ 2000 → fX7_within N outs (nI k) (nI x) = some (nI (ins (oZ n β tr st k).2 k x)) := fun x hx => within7_eq (by omega) (by omega) hx (fun i hi => ⟨b1 i hi, by have := q2 i hi; omega⟩)
        have hil : ∀ x, ins (oZ n β tr st k).2 k x ≤ k := fun x => ins_le _ _ _
        have st0' : nI τ = (fun d => nI (τ + d)) 0 := rfl
        rw [st0']
        refine lp_eq0 (E - τ) (fun d => nI (τ + d)) _ (by omega) (fun d hd2 κ2 => ?_) (fun κ2 => ?_)
        · have h5 := i3 (τ + d) (by omega) (by omega)
          have h6 := hil (τ + d)
          unfold bX7_outOf_56
          rw [hw (τ + d) (by omega), Option.bind_some, if_neg (by rw [nI_ltI (by omega) (by omega)]; omega), nI_1]
          rfl
        · have h6 := hil E
          unfold bX7_outOf_56 bX7_outOf_126
          rw [show τ + (E - τ) = E by omega, hw E (by omega), Option.bind_some, if_pos (by rw [nI_ltI (by omega) (by omega)]; exact i2), if_pos (chk_nI (by omega) (by omega)), if_pos (chk_nI (by omega) (by omega)), if_pos (chk_nI (by omega) (by omega)), if_pos (chk_nI (by omega) (by omega)), nI_clamp (by omega), e4 k hk, pk_us, pk_mul, nI_add, nI_add, show E + st 2 + st 3 * tvs n β (tr 0) (st 0) k = E + oDu n β tr st k by unfold oDu; omega, nI_1, hls]
          by_cases c : lst (oZ n β tr st k).2 k < E + oDu n β tr st k
          · rw [if_neg (by rw [nI_leI (by omega) (by omega)]; omega), if_pos c]
          · rw [if_pos (by rw [nI_leI (by omega) (by omega)]; omega), if_neg c]
      refine ⟨(nI (oZ n β tr st (k + 1)).1, nI (lst (oZ n β tr st (k + 1)).2 (k + 1)), nI (k + 1), upd outs k (nI (E + oDu n β tr st k))), ⟨_, rfl, fun i hi => ?_⟩, fun κ => ?_⟩
      · rw [show (oZ n β tr st (k + 1)).2 i = _ from oz_2 k i, hE]
        unfold upd
        by_cases d : i = k
        · rw [if_pos d, if_pos d]
        · rw [if_neg d, if_neg d]; exact b1 i (by omega)
      · rw [show (oZ n β tr st (k + 1)).1 = _ from oz_1 k, hE]
        unfold bX7_outOf_14 nm
        simp only
        rw [if_neg (by rw [nI_leI (by omega) (by omega)]; omega), if_pos (chk_nI (by omega) (by omega)), nI_clamp (show k < 2 ^ 31 by omega), e3 k hk, if_pos (chk_nI hg (by omega)), if_pos (chk_nI (show k < 10 by omega) (by omega)), if_pos (chk_nI hg (by omega)), nI_clamp (show tks n β (tr 0) (st 0) k < 2 ^ 31 by omega), htr]
        by_cases c : (oZ n β tr st k).1 < oMi n β tr st k
        · rw [if_neg (by rw [nI_leI (by omega) (by omega)]; omega)]
          exact inner _ κ (if_pos c)
        · rw [if_pos (by rw [nI_leI (by omega) (by omega)]; omega)]
          exact inner _ κ (if_neg c))
    (fun s hp2 => by
      obtain ⟨outs, rfl, b1⟩ := hp2
      have key : ∃ R, bX7_outOf_14 N typed texts rowOf minutes (nI (st 0)) (nI (st 1)) (nI (st 2)) (nI (st 3)) p (nI (tC n β)) (fl coming (fun k => nI (β 0 k - 97)) (tC n β)) (M (cS n β)) (nI (tG n β)) (fl going (fun k => nI (β 1 k - 97)) (tG n β)) (nI (tW n β)) (fl worn (fun k => nI (β 2 k - 97)) (tW n β)) (M (LSs (tr 0) (st 0) n β)) (J_G (tr 0) (lt β 0) (st 0) (tC n β)) mi (nI (tcs n β (tr 0) (st 0))) ge lf (fun _ => none) (nI (oZ n β tr st (tcs n β (tr 0) (st 0))).1, nI (lst (oZ n β tr st (tcs n β (tr 0) (st 0))).2 (tcs n β (tr 0) (st 0))), nI (tcs n β (tr 0) (st 0)), outs) = some R ∧ R.1 = aOut n β tr st p := by
        unfold bX7_outOf_14
        simp only
        rw [if_pos (by rw [nI_leI (by omega) (by omega)]; omega)]
        rcases hp with hp | hp
        · subst hp
          rw [goerOf_none (by omega) ht e3 hdt.2.1, Option.bind_some, if_pos rfl]
          exact ⟨_, rfl, by unfold aOut; rw [if_pos rfl]⟩
        · obtain ⟨g, hg1, rfl⟩ := ncase (m := 9) (by decide) hp
          have hne := m1_ne (show g < 2 ^ 31 by omega)
          unfold aOut
          rw [if_neg hne, if_pos hp, nI_clamp (by omega)]
          rcases goerOf_loop (N := N) (g := g) (by omega) ht e3 hdt.2.1 (by omega) with ⟨i, i1, i2, i3⟩ | ⟨i1, i2⟩
          · rw [i3, Option.bind_some, if_neg hne, if_neg (m1_ne (by omega)), if_pos (chk_nI (by omega) (by omega)), nI_clamp (by omega), b1 i i1, (pof_some hdt (Nat.le_refl _)).mpr ⟨i1, i2⟩]
            exact ⟨_, rfl, rfl⟩
          · rw [i2, Option.bind_some, if_neg hne, if_pos rfl]
            refine ⟨_, rfl, ?_⟩
            rw [pof_none.mpr (show gn (tks n β (tr 0) (st 0)) (tcs n β (tr 0) (st 0)) g = false from by
              cases q : gn (tks n β (tr 0) (st 0)) (tcs n β (tr 0) (st 0)) g with
              | false => rfl
              | true =>
                obtain ⟨j, j1, j2⟩ := gn_iff.mp q
                exact absurd j2.symm (i1 j j1))]
      obtain ⟨R, k1, k2⟩ := key
      refine ⟨some R, ⟨R, rfl, k2⟩, fun κ => ?_⟩
      rw [← k1]
      unfold bX7_outOf_14
      simp only
      rw [if_pos (by rw [nI_leI (by omega) (by omega)]; omega), if_pos (by rw [nI_leI (by omega) (by omega)]; omega)])
    (k := 0) (s := (0, 0, 0, outs)) (N := N) (by omega) ⟨outs, rfl, fun i hi => by omega⟩ (by omega)
  obtain ⟨R, a1, a2⟩ := hz
  exact ⟨R, e.trans a1, a2⟩
theorem out7 (hN : 2200 < N) (hM : ModT n β tr st typed texts rowOf looks minutes deep room look lift) (p : Int32) : ∃ R, fX7_out N typed texts comes coming came goes going wears worn rowOf minutes deep room look lift laid judgedNow manyIn goers goer lfo outs p = some R ∧ R.1 = aOut n β tr st p := by
  unfold fX7_out
  rw [in_eq, Option.bind_some]
  by_cases h : p = -1 ∨ (0 ≤ p ∧ p ≤ 9)
  · obtain ⟨R, e1, e2⟩ := outOf7 (N := N) (comes := comes) (coming := coming) (came := came) (goes := goes) (going := going) (wears := wears) (worn := worn) (laid := laid) (judgedNow := judgedNow) (manyIn := manyIn) (goers := goers) (goer := goer) (lfo := lfo) (outs := outs) hN hM p h
    rw [if_pos ((in19 p).mpr h), if_neg (by decide), e1, Option.bind_some]
    exact ⟨_, rfl, e2⟩
  · rw [if_neg (fun z => h ((in19 p).mp z)), if_pos rfl]
    refine ⟨_, rfl, ?_⟩
    unfold aOut
    rw [if_neg (fun z => h (Or.inl z)), if_neg (fun z => h (Or.inr z))]
end OM

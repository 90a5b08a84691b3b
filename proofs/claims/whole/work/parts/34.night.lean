/-! 34: night -/
def nou (L : Nat → Bool) (F : Nat → Nat → Bool) (C : Nat → Bool) (r0 : Nat) (s : Int32) : Nat → Int32 × Int64
  | 0 => (s, 0)
  | k + 1 => nin L F r0 (nou L F C r0 s k).1 (nou L F C r0 s k).2 C
def aNight (n : Nat → Nat) (β : Nat → Nat → Nat) (row : Nat → Nat) (dp : Nat) (p q : Int32) : Int64 := if 1 ≤ q ∧ q ≤ 60 then (nou (LSs row dp n β) (FRs row dp n β) (cS n β) (tC n β) p (Int32.toNatClampNeg q)).2 else (-9223372036854775808 : Int64) - ((-2 : Int32)).toInt64
theorem cS_cnt {n : Nat → Nat} {β : Nat → Nat → Nat} (h0 : n 0 ≤ 10) : cnt (cS n β) 10 = tC n β := by
  rw [cnt_congr (T := gn (lt β 0) (tC n β)) (fun g _ => cS_gn g)]
  exact cnt_gn (dg_c h0) (Nat.le_refl _)
theorem LS_cS {n : Nat → Nat} {β : Nat → Nat → Nat} {row : Nat → Nat} {dp : Nat} (h0 : n 0 ≤ 10) : M (LSs row dp n β) = M (fun g => LSs row dp n β g && cS n β g) := by
  refine M_congr (fun g _ => ?_)
  cases q : cS n β g with
  | true => rw [Bool.and_true]
  | false =>
    rw [cS_gn] at q
    rw [Bool.and_false]
    exact L_S_out (dg_c h0) (Nat.le_refl _) q
theorem night6 {N : Nat} {n : Nat → Nat} {β : Nat → Nat → Nat} {row : Nat → Nat} {dp : Nat} {fo : Nat → Int32} (hN : 60 < N) (h0 : n 0 ≤ 10) (hf : ∀ o, o < 10 → fo o = M (FRs row dp n β o)) (p q : Int32) : fX6_night N (nI (tC n β)) (M (cS n β)) fo (M (LSs row dp n β)) p q = some (aNight n β row dp p q) := by
  have h10 := (dg_c (β := β) h0).1
  unfold fX6_night fX6_refusal aNight
  rw [within_eq, Option.bind_some]
  by_cases c : 1 ≤ q ∧ q ≤ 60
  · rw [if_pos c, if_neg (by decide), if_pos c]
    obtain ⟨k, k1, k2, rfl⟩ := ncase1 (m := 60) (by decide) c
    rw [nI_clamp (by omega)]
    refine lp_eq0 k (fun v => ((nou (LSs row dp n β) (FRs row dp n β) (cS n β) (tC n β) p v).1, (nou (LSs row dp n β) (FRs row dp n β) (cS n β) (tC n β) p v).2, nI v)) _ (by omega) (fun v hv κ => ?_) (fun κ => ?_)
    · unfold bX6_night_35
      simp only
      rw [if_neg (by rw [nI_leI (by omega) (by omega)]; omega)]
      have e := night6in (N := N) (known := nI (tC n β)) (bits := M (cS n β)) (laid := M (LSs row dp n β)) (p1 := p) (p2 := nI k) (v3 := M (cS n β)) (fo := fo) (L := LSs row dp n β) (F := FRs row dp n β) (v := v) (κ := κ) (by omega) hf (tC n β) N (nou (LSs row dp n β) (FRs row dp n β) (cS n β) (tC n β) p v).1 (nou (LSs row dp n β) (FRs row dp n β) (cS n β) (tC n β) p v).2 (cS n β) (by omega) (cS_cnt h0)
      rw [← LS_cS h0] at e
      exact e
    · unfold bX6_night_35
      simp only
      rw [if_pos (by rw [nI_leI (by omega) (by omega)]; omega)]
  · rw [if_neg c, if_pos rfl, if_neg c]
    rfl
theorem night7 {N : Nat} {n : Nat → Nat} {β tr : Nat → Nat → Nat} {st : Nat → Nat} {typed texts coming going worn rowOf looks minutes manyIn : Nat → Int32} {comes came goes wears deep room look lift laid judgedNow : Int32} (hN : 60 < N) (hM : ModT n β tr st typed texts rowOf looks minutes deep room look lift) (p q : Int32) : ∃ R, fX7_night N typed texts comes coming came goes going wears worn rowOf deep laid judgedNow manyIn p q = some R ∧ R.1 = aNight n β (tr 0) (st 0) p q := by
  obtain ⟨hT, hr, hs, rfl, -⟩ := hM
  have h0 := (hT 0 (by omega)).2.1
  have d0 := dg_c (β := β) h0
  have h10 := d0.1
  unfold fX7_night fX7_no aNight
  rw [in_eq, Option.bind_some]
  by_cases c : 1 ≤ q ∧ q ≤ 60
  · rw [if_pos c, if_neg (by decide), if_pos c]
    obtain ⟨k, k1, k2, rfl⟩ := ncase1 (m := 60) (by decide) c
    rw [nI_clamp (by omega)]
    unfold fX7_nightOf
    obtain ⟨mi, e, -⟩ := lays_eq (N := N) (comes := comes) (coming := coming) (came := came) (goes := goes) (going := going) (wears := wears) (worn := worn) (laid := laid) (judgedNow := judgedNow) (manyIn := manyIn) (by omega) hT (row_of hr) hs.1.2
    rw [e, Option.bind_some]
    simp only
    have key : lp (bX7_nightOf_12 N typed texts rowOf (nI (st 0)) p (nI k) (nI (tC n β)) (fl coming (fun k => nI (β 0 k - 97)) (tC n β)) (M (cS n β)) (nI (tG n β)) (fl going (fun k => nI (β 1 k - 97)) (tG n β)) (nI (tW n β)) (fl worn (fun k => nI (β 2 k - 97)) (tW n β)) (M (LSs (tr 0) (st 0) n β)) (J_G (tr 0) (lt β 0) (st 0) (tC n β)) mi) N (p, 0, 0) = some ((nou (LSs (tr 0) (st 0) n β) (FRs (tr 0) (st 0) n β) (cS n β) (tC n β) p k).2, nI (tC n β), fl coming (fun k => nI (β 0 k - 97)) (tC n β), M (cS n β), nI (tG n β), fl going (fun k => nI (β 1 k - 97)) (tG n β), nI (tW n β), fl worn (fun k => nI (β 2 k - 97)) (tW n β), M (LSs (tr 0) (st 0) n β), J_G (tr 0) (lt β 0) (st 0) (tC n β), mi) := by
      refine lp_eq0 k (fun v => ((nou (LSs (tr 0) (st 0) n β) (FRs (tr 0) (st 0) n β) (cS n β) (tC n β) p v).1, (nou (LSs (tr 0) (st 0) n β) (FRs (tr 0) (st 0) n β) (cS n β) (tC n β) p v).2, nI v)) _ (by omega) (fun v hv κ => ?_) (fun κ => ?_)
      · unfold bX7_nightOf_12
        simp only
        rw [if_neg (by rw [nI_leI (by omega) (by omega)]; omega)]
        exact night7in (by omega) d0 ca_fl (row_of hr) (tC n β) N _ _ (cS n β) (by omega) (cS_cnt h0)
      · unfold bX7_nightOf_12
        simp only
        rw [if_pos (by rw [nI_leI (by omega) (by omega)]; omega)]
    rw [key, Option.bind_some]
    exact ⟨_, rfl, rfl⟩
  · rw [if_neg c, if_pos rfl, if_neg c]
    exact ⟨_, rfl, rfl⟩

/-! 25: count -/
theorem cnt_zero {S : Nat → Bool} : ∀ {m : Nat}, cnt S m = 0 ↔ ∀ g, g < m → S g = false
  | 0 => by simp [cnt]
  | m + 1 => by
    rw [cnt]
    constructor
    · intro h g hg
      have h1 : cnt S m = 0 := by omega
      by_cases w : g = m
      · subst w
        cases q : S g with
        | false => rfl
        | true => rw [q, if_pos rfl] at h; omega
      · exact cnt_zero.mp h1 g (by omega)
    · intro h
      rw [cnt_zero.mpr (fun g hg => h g (by omega)), h m (by omega)]
      rfl
def Ur (n : Nat → Nat) (β : Nat → Nat → Nat) (row : Nat → Nat) (dp : Nat) (r : Nat) : Bool := decide (0 < cnt (fun g => LSs row dp n β g && (row g == r)) 10)
def aCount (n : Nat → Nat) (β : Nat → Nat → Nat) (row : Nat → Nat) (dp rm : Nat) (ah fi p : Int32) : Int32 := if p = 0 then nI (tC n β) else if p = 1 then nI (tG n β) else if p = 2 then nI (tW n β) else if p = 3 then nI (cnt (LSs row dp n β) 10) else if p = 4 then nI (cnt (Ur n β row dp) 10) else if p = 5 then ah else if p = 6 then nI rm else if p = 7 then nI dp else if p = 8 then fi else -2
theorem used6 {N : Nat} {n : Nat → Nat} {β : Nat → Nat → Nat} {row : Nat → Nat} {dp : Nat} {ir : Nat → Int32} (hN : 20 < N) (hi : ∀ r, r < 10 → ir r = M (fun g => LSs row dp n β g && (row g == r))) : fX2_usedRows N ir = some (nI (cnt (Ur n β row dp) 10)) := by
  unfold fX2_usedRows
  refine lp_eq0 10 (fun r => (nI (cnt (Ur n β row dp) r), nI r)) _ (by omega) (fun r hr κ => ?_) (fun κ => ?_)
  · unfold bX2_usedRows_4 bX2_usedRows_22
    simp only
    rw [if_neg (by rw [li10, nI_leI (by omega) (by omega)]; omega), if_pos (chk_nI (by omega) (by omega)), nI_clamp (by omega), hi r hr, nI_1, nI_1, cnt]
    by_cases c : cnt (fun g => LSs row dp n β g && (row g == r)) 10 = 0
    · rw [if_pos (M_eq0.mpr (cnt_zero.mp c)), if_neg (show ¬ Ur n β row dp r = true by unfold Ur; rw [c]; decide)]
      rfl
    · rw [if_neg (fun h => c (cnt_zero.mpr (M_eq0.mp h))), if_pos (show Ur n β row dp r = true by unfold Ur; rw [decide_eq_true_eq]; omega)]
  · unfold bX2_usedRows_4
    simp only
    rw [if_pos (by decide)]
theorem count6 {N : Nat} {n : Nat → Nat} {β : Nat → Nat → Nat} {row st : Nat → Nat} {ir se : Nat → Int32} {ah fi : Int32} (hN : 20 < N) (hi : ∀ r, r < 10 → ir r = M (fun g => LSs row (st 0) n β g && (row g == r))) (hs : RSt st se) (p : Int32) : fX6_count N (nI (tC n β)) (nI (tG n β)) (nI (tW n β)) se ir (M (LSs row (st 0) n β)) ah fi p = some (aCount n β row (st 0) (st 1) ah fi p) := by
  unfold fX6_count aCount
  rw [bitCount_M, Option.bind_some, used6 hN hi, Option.bind_some, show se (Int32.toNatClampNeg 1) = nI (st 1) from hs.2 1 (by omega), show se (Int32.toNatClampNeg 0) = nI (st 0) from hs.2 0 (by omega)]
  (repeat' split) <;> first | rfl | contradiction
theorem sumOf7 {N : Nat} {n : Nat → Nat} {β tr : Nat → Nat → Nat} {st : Nat → Nat} {typed texts coming going worn rowOf looks minutes manyIn : Nat → Int32} {comes came goes wears deep room look lift laid judgedNow : Int32} (hN : 20 < N) (hM : ModT n β tr st typed texts rowOf looks minutes deep room look lift) (p : Int32) : ∃ R, fX7_sumOf N typed texts comes coming came goes going wears worn rowOf deep laid judgedNow manyIn p = some R ∧ R.1 = if p = 0 then nI (tC n β) else if p = 1 then nI (tG n β) else if p = 2 then nI (tW n β) else if p = 3 then nI (cnt (LSs (tr 0) (st 0) n β) 10) else nI (cnt (Ur n β (tr 0) (st 0)) 10) := by
  obtain ⟨hT, hr, hs, rfl, -⟩ := hM
  unfold fX7_sumOf
  obtain ⟨mi, e, hm⟩ := lays_eq (N := N) (comes := comes) (coming := coming) (came := came) (goes := goes) (going := going) (wears := wears) (worn := worn) (laid := laid) (judgedNow := judgedNow) (manyIn := manyIn) hN hT (row_of hr) hs.1.2
  rw [e, Option.bind_some]
  simp only
  refine ⟨(if p = 0 then nI (tC n β) else if p = 1 then nI (tG n β) else if p = 2 then nI (tW n β) else if p = 3 then nI (cnt (LSs (tr 0) (st 0) n β) 10) else nI (cnt (Ur n β (tr 0) (st 0)) 10), nI (tC n β), fl coming (fun k => nI (β 0 k - 97)) (tC n β), M (cS n β), nI (tG n β), fl going (fun k => nI (β 1 k - 97)) (tG n β), nI (tW n β), fl worn (fun k => nI (β 2 k - 97)) (tW n β), M (L_S (tr 0) (lt β 0) (st 0) (tC n β)), J_G (tr 0) (lt β 0) (st 0) (tC n β), mi), ?_, rfl⟩
  refine lp_eq0 10 (fun r => (nI (cnt (Ur n β (tr 0) (st 0)) r), nI r)) _ (by omega) (fun r hr κ => ?_) (fun κ => ?_)
  · have hc := cnt_le (fun g => LSs (tr 0) (st 0) n β g && (tr 0 g == r)) 10
    have hm' : mi r = nI (cnt (fun g => LSs (tr 0) (st 0) n β g && (tr 0 g == r)) 10) := hm r hr
    unfold bX7_sumOf_8 bX7_sumOf_29
    simp only
    rw [if_neg (by rw [li10, nI_leI (by omega) (by omega)]; omega), if_pos (chk_nI (by omega) (by omega)), nI_clamp (by omega), hm', nI_1, nI_1, show cnt (Ur n β (tr 0) (st 0)) (r + 1) = cnt (Ur n β (tr 0) (st 0)) r + (if Ur n β (tr 0) (st 0) r then 1 else 0) from rfl]
    by_cases c : cnt (fun g => LSs (tr 0) (st 0) n β g && (tr 0 g == r)) 10 = 0
    · rw [c, if_pos (by decide), if_neg (show ¬ Ur n β (tr 0) (st 0) r = true by unfold Ur; rw [c]; decide), show (0 : Int32) = nI 0 from rfl, nI_add]
    · rw [if_neg (show ¬ nI _ ≤ 0 by rw [li0, nI_leI (by omega) (by omega)]; omega), if_pos (show Ur n β (tr 0) (st 0) r = true by unfold Ur; rw [decide_eq_true_eq]; omega)]
  · unfold bX7_sumOf_8
    simp only
    rw [if_pos (by decide), ones_M _ (by omega), Option.bind_some]
    (repeat' split) <;> first | rfl | contradiction
theorem count7 {N : Nat} {n : Nat → Nat} {β tr : Nat → Nat → Nat} {st : Nat → Nat} {typed texts coming going worn rowOf looks minutes manyIn : Nat → Int32} {comes came goes wears deep room look lift laid judgedNow ah fi : Int32} (hN : 20 < N) (hM : ModT n β tr st typed texts rowOf looks minutes deep room look lift) (p : Int32) : ∃ R, fX7_count N typed texts comes coming came goes going wears worn rowOf deep room laid judgedNow manyIn ah fi p = some R ∧ R.1 = aCount n β (tr 0) (st 0) (st 1) ah fi p := by
  obtain ⟨R, e1, e2⟩ := sumOf7 (N := N) (comes := comes) (coming := coming) (came := came) (goes := goes) (going := going) (wears := wears) (worn := worn) (laid := laid) (judgedNow := judgedNow) (manyIn := manyIn) hN hM p
  obtain ⟨hT, hr, hs, rfl, rfl, -⟩ := hM
  unfold fX7_count aCount
  rw [e1, Option.bind_some, e2]
  by_cases c0 : p = 0
  · simp only [c0, if_true]; exact ⟨_, rfl, rfl⟩
  by_cases c1 : p = 1
  · simp only [c0, c1, if_true, if_false]; exact ⟨_, rfl, rfl⟩
  by_cases c2 : p = 2
  · simp only [c0, c1, c2, if_true, if_false]; exact ⟨_, rfl, rfl⟩
  by_cases c3 : p = 3
  · simp only [c0, c1, c2, c3, if_true, if_false]; exact ⟨_, rfl, rfl⟩
  by_cases c4 : p = 4
  · simp only [c0, c1, c2, c3, c4, if_true, if_false]; exact ⟨_, rfl, rfl⟩
  rw [if_neg c0, if_neg c1, if_neg c2, if_neg c3, if_neg c4, if_neg c0, if_neg c1, if_neg c2, if_neg c3, if_neg c4]
  (repeat' split) <;> first | exact ⟨_, rfl, rfl⟩ | contradiction

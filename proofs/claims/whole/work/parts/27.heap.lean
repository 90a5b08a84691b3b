/-! 27: heap -/
theorem tc_cnt {L : Nat → Bool} {gm : Nat → Nat} {ng : Nat} (hd : DG ng gm) : ∀ {k : Nat}, k ≤ ng → cnt (fun x => L x && gn gm k x) 10 = tc L gm k
  | 0, _ => by rw [cnt_zero.mpr (fun g _ => by simp [gn])]; rfl
  | k + 1, hk => by
    have ih := @tc_cnt L gm ng hd k (by omega)
    have hnew := gn_new hd (show k < ng by omega)
    have h10 := hd.2.1 k (by omega)
    rw [tc, ← ih]
    cases q : L (gm k) with
    | true =>
      rw [if_pos rfl, ← cnt_ins (x := gm k) h10 (by rw [hnew, Bool.and_false])]
      refine cnt_congr (fun g _ => ?_)
      rw [gn]
      by_cases w : g = gm k
      · subst w; rw [q]; simp
      · rw [beq_false_of_ne w, Bool.or_false, Bool.or_false]
    | false =>
      rw [if_neg (by decide)]
      refine (cnt_congr (fun g _ => ?_)).trans (Nat.add_zero _).symm
      rw [gn]
      by_cases w : g = gm k
      · subst w; rw [q]; simp
      · rw [beq_false_of_ne w, Bool.or_false]
theorem tc_le_L {L : Nat → Bool} {gm : Nat → Nat} {ng : Nat} (hd : DG ng gm) : tc L gm ng ≤ cnt L 10 := by
  rw [← tc_cnt hd (Nat.le_refl _)]
  exact cnt_mono (fun g _ h => (Bool.and_eq_true _ _ ▸ h).1)
def hsu (L a : Nat) : Nat → Nat
  | 0 => 0
  | d + 1 => hsu L a d + 2 * (2 * (L - (a + d)) + 1)
theorem hsu_le {L a : Nat} (hL : L ≤ 10) : ∀ d, hsu L a d ≤ 42 * d
  | 0 => by simp [hsu]
  | d + 1 => by rw [hsu]; have := @hsu_le L a hL d; omega
theorem heap69 {N a b L T : Nat} {S : Nat → Bool} {p q tcn : Int32} (hN : 20 < N) (hS : cnt S 10 = L) (hab : a ≤ b) (hb : b ≤ L) : lp (bX6_heap_69 N tcn (M S) p q (nI b)) N (0, nI a) = some (qL (lwt (hsu L a (b - a)) 3 q)) := by
  have hL : L ≤ 10 := by rw [← hS]; exact cnt_le _ _
  refine lp_eq0 (b - a) (fun d => (nI (hsu L a d), nI (a + d))) _ (by omega) (fun d hd κ => ?_) (fun κ => ?_)
  · unfold bX6_heap_69 nm
    simp only
    rw [if_neg (by rw [nI_leI (by omega) (by omega)]; omega), bitCount_M, Option.bind_some, hS, pk_sub (show a + d ≤ L by omega), show (2 : Int32) = nI 2 from rfl, pk_mul, nI_1, pk_mul, nI_add, nI_1]
    rfl
  · have := @hsu_le L a hL (b - a)
    unfold bX6_heap_69
    simp only
    rw [show a + (b - a) = b by omega, if_pos (by rw [nI_leI (by omega) (by omega)]; omega), show (3 : Int32) = nI 3 from rfl, low6 hN (by omega) (by omega) (by omega)]
    rfl
def aHeap (T L : Nat) (p q : Int32) : Int64 := if ((-1 : Int32) ≤ p ∧ p ≤ nI T - 1) ∧ (0 ≤ q ∧ q ≤ 1) then qL (lwt (if p = -1 then hsu L 0 T else hsu L (Int32.toNatClampNeg p) 1) 3 q) else (-9223372036854775808 : Int64) - ((-2 : Int32)).toInt64
theorem hcase {T : Nat} (hT : T ≤ 10) {p : Int32} (h : (-1 : Int32) ≤ p ∧ p ≤ nI T - 1) : p = -1 ∨ ∃ j, j < T ∧ p = nI j := by
  by_cases c : p = -1
  · exact Or.inl c
  · right
    have h9 : nI T - 1 ≤ 9 := by
      have : ∀ t, t ≤ 10 → nI t - 1 ≤ 9 := by decide
      exact this T hT
    have := (in19 p).mp ⟨h.1, Int32.le_trans h.2 h9⟩
    rcases this with h' | h'
    · exact absurd h' c
    · obtain ⟨j, h1, rfl⟩ := ncase (m := 9) (by decide) h'
      refine ⟨j, ?_, rfl⟩
      cases T with
      | zero =>
        have h0 := h.2
        have : ∀ t, t ≤ 9 → ¬ nI t ≤ nI 0 - 1 := by decide
        exact absurd h0 (this j h1)
      | succ T =>
        have h0 := h.2
        rw [nI_pred, nI_leI (by omega) (by omega)] at h0
        omega
theorem heap6 {N T : Nat} {S : Nat → Bool} (hN : 20 < N) (hT : T ≤ cnt S 10) (p q : Int32) : fX6_heap N (nI T) (M S) p q = some (aHeap T (cnt S 10) p q) := by
  have hL := cnt_le S 10
  unfold fX6_heap bX6_heap_26 bX6_heap_42 bX6_heap_61 fX6_refusal aHeap
  rw [within_eq, Option.bind_some]
  by_cases c1 : (-1 : Int32) ≤ p ∧ p ≤ nI T - 1
  · rw [if_pos c1, if_neg (by decide), within_eq, Option.bind_some]
    by_cases c2 : 0 ≤ q ∧ q ≤ 1
    · rw [if_pos c2, if_neg (by decide), if_pos (show ((-1 : Int32) ≤ p ∧ p ≤ nI T - 1) ∧ (0 ≤ q ∧ q ≤ 1) from ⟨c1, c2⟩)]
      rcases hcase (by omega) c1 with h | ⟨j, h1, rfl⟩
      · rw [if_pos h, if_pos h, if_pos h]
        exact heap69 (T := T) hN rfl (Nat.zero_le _) hT
      · have hne : ¬ nI j = (-1 : Int32) := m1_ne (by omega)
        rw [if_neg hne, if_neg hne, if_neg hne, nI_1, nI_clamp (by omega)]
        refine (heap69 (T := T) hN rfl (by omega) (by omega)).trans ?_
        rw [show j + 1 - j = 1 by omega]
    · rw [if_neg c2, if_pos rfl, if_neg (fun h => c2 h.2)]
      rfl
  · rw [if_neg c1, if_pos rfl, if_neg (fun h => c1 h.1)]
    rfl
theorem heapOf7 {N T : Nat} {S : Nat → Bool} (hN : 20 < N) (hT : T ≤ cnt S 10) {p : Int32} (hp : (-1 : Int32) ≤ p ∧ p ≤ nI T - 1) (q : Int32) : fX7_heapOf N (M S) (nI T) p q = some (qL (lwt (if p = -1 then hsu (cnt S 10) 0 T else hsu (cnt S 10) (Int32.toNatClampNeg p) 1) 3 q)) := by
  have hL := cnt_le S 10
  unfold fX7_heapOf
  rw [ones_M _ (by omega), Option.bind_some]
  generalize hS : cnt S 10 = L at *
  have h53 : ∀ (x j : Nat) κ, x ≤ 420 → j < T → bX7_heapOf_36 N (M S) (nI T) p q (nI L) κ (qL x) (nI j) = κ (qL (x + 2 * (2 * (L - j) + 1)), nI (j + 1)) := by
    intro x j κ hx hj
    unfold bX7_heapOf_36 bX7_heapOf_53
    rw [pk_sub (show j ≤ L by omega), show (2 : Int32) = nI 2 from rfl, pk_mul, nI_1, nI_1]
    show κ (qL x + qL 2 * qL (2 * (L - j) + 1), _) = _
    rw [qL_mul (by omega) (by omega) (by omega), qL_add (by omega)]
  rcases hcase (by omega) hp with h | ⟨j0, h1, rfl⟩
  · rw [if_pos h]
    refine lp_eq0 T (fun j => (qL (hsu L 0 j), nI j)) _ (by omega) (fun j hj κ => ?_) (fun κ => ?_)
    · have hb := @hsu_le L 0 hL j
      unfold bX7_heapOf_14
      simp only
      rw [if_neg (by rw [nI_leI (by omega) (by omega)]; omega), if_pos h, h53 _ _ _ (by omega) hj, hsu, Nat.zero_add]
    · have hb := @hsu_le L 0 hL T
      unfold bX7_heapOf_14
      simp only
      rw [if_pos (by rw [nI_leI (by omega) (by omega)]; omega), show (3 : Int64) = qL 3 from rfl, lowest7 hN (by omega) (by omega) (by omega)]
      rfl
  · have hne : ¬ nI j0 = (-1 : Int32) := m1_ne (by omega)
    rw [if_neg hne, nI_clamp (by omega)]
    have hb := @hsu_le L j0 hL 1
    refine lp_eq0 T (fun j => (qL (if j0 < j then hsu L j0 1 else 0), nI j)) _ (by omega) (fun j hj κ => ?_) (fun κ => ?_)
    · unfold bX7_heapOf_14
      simp only
      rw [if_neg (by rw [nI_leI (by omega) (by omega)]; omega), if_neg hne]
      by_cases w : j0 = j
      · subst w
        rw [if_pos rfl, h53 _ _ _ (by split <;> omega) hj, if_neg (Nat.lt_irrefl _), if_pos (by omega)]
        simp only [hsu, Nat.zero_add, Nat.add_zero]
      · rw [if_neg (by rw [nI_eq (by omega) (by omega)]; exact w)]
        unfold bX7_heapOf_53
        rw [show (0 : Int64) = qL 0 from rfl, qL_add (by split <;> omega), nI_1]
        by_cases v : j0 < j
        · rw [if_pos v, if_pos (by omega)]
          rfl
        · rw [if_neg v, if_neg (by omega)]
    · unfold bX7_heapOf_14
      simp only
      rw [if_pos (by rw [nI_leI (by omega) (by omega)]; omega), if_pos h1, show (3 : Int64) = qL 3 from rfl, lowest7 hN (by omega) (by omega) (by omega)]
      rfl
theorem heap7 {N : Nat} {n : Nat → Nat} {β tr : Nat → Nat → Nat} {st : Nat → Nat} {typed texts coming going worn rowOf looks minutes manyIn goer lfo : Nat → Int32} {comes came goes wears deep room look lift laid judgedNow goers : Int32} (hN : 20 < N) (hM : ModT n β tr st typed texts rowOf looks minutes deep room look lift) (p q : Int32) : ∃ R, fX7_heap N typed texts comes coming came goes going wears worn rowOf deep laid judgedNow manyIn goers goer lfo p q = some R ∧ R.1 = aHeap (tcs n β (tr 0) (st 0)) (cnt (LSs (tr 0) (st 0) n β) 10) p q := by
  obtain ⟨hT, hr, hs, rfl, -⟩ := hM
  have h1 := (hT 1 (by omega)).2.1
  have d1 := dg_g (β := β) h1
  obtain ⟨mi, ge, lf, e1, -⟩ := goAll_eq (N := N) (n := n) (β := β) (typed := typed) (texts := texts) (coming := coming) (going := going) (worn := worn) (rowOf := rowOf) (manyIn := manyIn) (comes := comes) (came := came) (goes := goes) (wears := wears) (laid := laid) (judgedNow := judgedNow) (goers := goers) (goer := goer) (lfo := lfo) (row := tr 0) (dp := st 0) false hN hT (row_of hr) hs.1.2
  rw [show (if false = true then (1 : Int32) else 0) = 0 from rfl, show gd false n β = lt β 1 from rfl] at e1
  unfold fX7_heap bX7_heap_38 fX7_no aHeap
  rw [e1, Option.bind_some]
  simp only
  rw [in_eq, Option.bind_some]
  by_cases c1 : (-1 : Int32) ≤ p ∧ p ≤ nI (tcs n β (tr 0) (st 0)) - 1
  · rw [if_pos c1, if_neg (by decide), in_eq, Option.bind_some]
    by_cases c2 : 0 ≤ q ∧ q ≤ 1
    · rw [if_pos c2, if_neg (by decide), if_pos ⟨c1, c2⟩, heapOf7 hN (tc_le_L d1) c1 q, Option.bind_some]
      exact ⟨_, rfl, rfl⟩
    · rw [if_neg c2, if_pos rfl, if_neg (fun h => c2 h.2)]
      exact ⟨_, rfl, rfl⟩
  · rw [if_neg c1, if_pos rfl, if_neg (fun h => c1 h.1)]
    exact ⟨_, rfl, rfl⟩

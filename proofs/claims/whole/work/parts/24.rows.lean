/-! 24: the fewest rows -/
theorem so_ext {fr : Nat → Nat} {t u : Nat} (ht : t < 10) (hf : ∀ r, fr r ≤ 10) (hu : ∀ r, u ≤ r → fr r = 10) : ∀ {d : Nat}, so fr t (u + (d + 1)) = some ((so fr t u).getD u)
  | 0 => by
    show so fr t (u + 1) = _
    rw [so, if_neg (by rw [hu u (Nat.le_refl _)]; omega)]
    cases q : so fr t u with
    | none => rfl
    | some b =>
      have := hf b
      simp only [hu u (Nat.le_refl _), this, if_true]
      rfl
  | d + 1 => by
    rw [show u + (d + 1 + 1) = (u + (d + 1)) + 1 by omega, so, if_neg (by rw [hu _ (by omega)]; omega), so_ext ht hf hu]
    have := hf ((so fr t u).getD u)
    simp only [hu (u + (d + 1)) (by omega), this, if_true]
section US
variable (ga : Nat → Nat)
abbrev Fr (i : Nat) : Nat → Nat := (fr2 3 10 ga i).1
def us : Nat → Nat
  | 0 => 0
  | i + 1 => if (so (Fr ga i) (ga i) (us i)) = none then us i + 1 else us i
theorem us_le : ∀ i, us ga i ≤ i
  | 0 => Nat.le_refl _
  | i + 1 => by rw [us]; have := us_le i; split <;> omega
variable {ga} {m : Nat}
theorem us_inv (hm : m ≤ 10) (hg : ∀ i, i < m → ga i < 10) : ∀ {i : Nat}, i ≤ m → (∀ r, us ga i ≤ r → Fr ga i r = 10) ∧ (∀ r, r < us ga i → Fr ga i r < 10) ∧ (i < m → rr 3 10 ga i = (so (Fr ga i) (ga i) (us ga i)).getD (us ga i)) := by
  have key : ∀ i, i < m → (∀ r, us ga i ≤ r → Fr ga i r = 10) → rr 3 10 ga i = (so (Fr ga i) (ga i) (us ga i)).getD (us ga i) := by
    intro i hi h1
    have hul := us_le ga i
    obtain ⟨d, hd⟩ : ∃ d, 10 = us ga i + (d + 1) := ⟨10 - us ga i - 1, by omega⟩
    have e := so_ext (fr := Fr ga i) (t := ga i) (u := us ga i) (hg i hi) (fr_le (m := m) hg (by omega)) h1 (d := d)
    rw [← hd] at e
    show sr (Fr ga i) (ga i) 10 = _
    unfold sr
    rw [e]
  intro i
  induction i with
  | zero => exact fun _ => ⟨fun r _ => rfl, fun r hr => absurd hr (Nat.not_lt_zero _), fun h => key 0 h (fun r _ => rfl)⟩
  | succ i ih =>
    intro hi
    obtain ⟨a1, a2, a3⟩ := ih (by omega)
    have hk := a3 (by omega)
    have hgi := hg i (by omega)
    have e : ∀ r, Fr ga (i + 1) r = if r = rr 3 10 ga i then ga i else Fr ga i r := fun r => rfl
    have b1 : ∀ r, us ga (i + 1) ≤ r → Fr ga (i + 1) r = 10 := by
      intro r hr
      rw [e]
      rw [us] at hr
      cases q : so (Fr ga i) (ga i) (us ga i) with
      | none =>
        rw [q] at hr hk
        rw [if_pos rfl] at hr
        rw [if_neg (show ¬ r = rr 3 10 ga i by rw [hk]; show ¬ r = us ga i; omega)]
        exact a1 r (by omega)
      | some b =>
        have := so_lt q
        rw [q] at hr hk
        rw [if_neg (by simp)] at hr
        rw [if_neg (show ¬ r = rr 3 10 ga i by rw [hk]; show ¬ r = b; omega)]
        exact a1 r hr
    refine ⟨b1, ?_, fun h => key _ h b1⟩
    intro r hr
    rw [e]
    rw [us] at hr
    cases q : so (Fr ga i) (ga i) (us ga i) with
    | none =>
      rw [q] at hr hk
      rw [if_pos rfl] at hr
      by_cases w : r = rr 3 10 ga i
      · rw [if_pos w]; exact hgi
      · rw [if_neg w]
        exact a2 r (by have : ¬ r = us ga i := fun h => w (by rw [hk, h]; rfl)
                       omega)
    | some b =>
      rw [q] at hr
      rw [if_neg (by simp)] at hr
      by_cases w : r = rr 3 10 ga i
      · rw [if_pos w]; exact hgi
      · rw [if_neg w]; exact a2 r hr
theorem us_max (hm : m ≤ 10) (hg : ∀ i, i < m → ga i < 10) {i : Nat} (hi : i < m) : us ga (i + 1) = if us ga i < rr 3 10 ga i + 1 then rr 3 10 ga i + 1 else us ga i := by
  rw [(us_inv hm hg (Nat.le_of_lt hi)).2.2 hi, us]
  cases q : so (Fr ga i) (ga i) (us ga i) with
  | none =>
    show (if (none : Option Nat) = none then us ga i + 1 else us ga i) = if us ga i < us ga i + 1 then us ga i + 1 else us ga i
    rw [if_pos rfl, if_pos (by omega)]
  | some b =>
    have := so_lt q
    show (if some b = none then _ else _) = if us ga i < b + 1 then b + 1 else us ga i
    rw [if_neg (by simp), if_neg (by omega)]
theorem usedRows_eq (hm : m ≤ 10) (hg : ∀ i, i < m → ga i < 10) {N : Nat} {ra : Nat → Int32} (hN : 20 < N) (hr : CA m (rr 3 10 ga) ra) : fX0_usedRows N (nI m) ra = some (nI (us ga m)) := by
  unfold fX0_usedRows
  refine lp_eq0 m (fun i => (nI (us ga i), nI i)) _ (by omega) (fun i hi κ => ?_) (fun κ => ?_)
  · have h1 := us_le ga i
    have h2 : rr 3 10 ga i < 10 := rr_lt (by omega)
    unfold bX0_usedRows_4 nm
    simp only
    rw [if_neg (by rw [nI_leI (by omega) (by omega)]; omega), if_pos (chk_nI (by omega) (by omega)), nI_clamp (by omega), hr i hi, nI_1, nI_1, us_max hm hg hi]
    by_cases c : us ga i < rr 3 10 ga i + 1
    · rw [if_pos (by rw [nI_ltI (by omega) (by omega)]; exact c), if_pos c]
    · rw [if_neg (by rw [nI_ltI (by omega) (by omega)]; exact c), if_neg c]
  · unfold bX0_usedRows_4
    simp only
    rw [if_pos (by rw [nI_leI (by omega) (by omega)]; omega)]
end US
def aRows (n : Nat → Nat) (β : Nat → Nat → Nat) (p : Int32) : Int32 := if p = -1 then nI (us (gA n β) (tC n β)) else if 0 ≤ p ∧ p ≤ 9 then (match pof (lt β 0) (tC n β) (Int32.toNatClampNeg p) with | some i => nI (rr 3 10 (gA n β) i) | none => -3) else -2
theorem rows6 {N : Nat} {n : Nat → Nat} {β : Nat → Nat → Nat} {many z : Int32} {gt lft ra ir fg b : Nat → Int32} (hN : 20 < N) (h0 : n 0 ≤ 10) (h1 : n 1 ≤ 10) (hX : TX n β 0 b z) (hG : RG n β many gt lft) (p : Int32) : ∃ R, fX6_rows N b (nI (tC n β)) many gt lft ra ir fg p = some R ∧ R.1 = aRows n β p := by
  have d0 := dg_c (β := β) h0
  have h10 := d0.1
  have hga : ∀ i, i < tC n β → gA n β i < 10 := fun i hi => by have := gA_lt (β := β) h0 h1 hi; omega
  obtain ⟨ra', ir', fg', e, hra⟩ := lay6 hN h0 h1 hG (show 3 ≤ 3 by omega) (show 1 ≤ 10 by omega) (Nat.le_refl _) (Nat.le_refl _) ra ir fg
  unfold fX6_rows bX6_rows_15 aRows
  rw [hG.1, show (3 : Int32) = nI 3 from rfl, show (10 : Int32) = nI 10 from rfl, e, Option.bind_some]
  by_cases c : p = -1
  · rw [if_pos c, if_pos c, if_pos c]
    simp only
    rw [usedRows_eq h10 hga hN hra, Option.bind_some]
    exact ⟨_, rfl, rfl⟩
  · rw [if_neg c, if_neg c, isGuest6_eq, Option.bind_some]
    by_cases d : 0 ≤ p ∧ p ≤ 9
    · obtain ⟨g, g1, rfl⟩ := ncase (m := 9) (by decide) d
      rw [if_pos d, if_neg (by decide), if_pos d, if_neg c, nI_clamp (by omega), placeOf_eq hN d0 (tx_tg hX tC_le (fun k hk => c_ok h0 hk)) (by omega), Option.bind_some]
      cases q : pof (lt β 0) (tC n β) g with
      | none => exact ⟨_, rfl, rfl⟩
      | some i =>
        have hi := (pof_lt q).1
        show ∃ R, (if nI i = -1 then _ else if chk (nI i) _ = true then some (ra' (Int32.toNatClampNeg (nI i)), _) else none) = some R ∧ _
        rw [if_neg (m1_ne (by omega)), if_pos (chk_nI (by omega) (by omega)), nI_clamp (by omega)]
        exact ⟨_, rfl, hra i hi⟩
    · rw [if_neg d, if_pos rfl, if_neg d, if_neg c]
      exact ⟨_, rfl, rfl⟩

theorem rowsOf_loop {N : Nat} {n : Nat → Nat} {β : Nat → Nat → Nat} {typed texts coming going worn w fronts : Nat → Int32} {came goes wears : Int32} (hN : 20 < N) (h0 : n 0 ≤ 10) (h1 : n 1 ≤ 10) (hok : ∀ i, i < tC n β → coming i = nI (lt β 0 i) ∧ lt β 0 i < 10 ∧ w (lt β 0 i) = nI (gA n β i) ∧ gA n β i < 10) (p : Int32) : ∃ R, bX7_rowsOf_23 N typed texts p (nI (tC n β)) coming came goes going wears worn w fronts = some R ∧ ((p = -1 → R.1 = nI (us (gA n β) (tC n β))) ∧ ∀ i, i < tC n β → p = nI (lt β 0 i) → R.1 = nI (rr 3 10 (gA n β) i)) := by
  have d0 := dg_c (β := β) h0
  have h10 := d0.1
  have hga : ∀ i, i < tC n β → gA n β i < 10 := fun i hi => (hok i hi).2.2.2
  unfold bX7_rowsOf_23
  obtain ⟨z, hz, e⟩ := lp_for (b := bX7_rowsOf_30 N typed texts p (nI (tC n β)) coming came goes going wears worn w) (tC n β) (fun i s => ∃ (x : Int32) (f : Nat → Int32), s = (nI (us (gA n β) i), x, nI i, f) ∧ (∀ j, j < i → p = nI (lt β 0 j) → x = nI (rr 3 10 (gA n β) j)) ∧ ∀ r, r < us (gA n β) i → f r = nI (Fr (gA n β) i r)) (fun z => ∃ R, z = some R ∧ ((p = -1 → R.1 = nI (us (gA n β) (tC n β))) ∧ ∀ i, i < tC n β → p = nI (lt β 0 i) → R.1 = nI (rr 3 10 (gA n β) i)))
    (fun i s hi hp => by
      obtain ⟨x, f, rfl, p1, p2⟩ := hp
      obtain ⟨a1, a2, a3, a4⟩ := hok i hi
      have hul := us_le (gA n β) i
      obtain ⟨u1, u2, u3⟩ := us_inv h10 hga (Nat.le_of_lt hi)
      have hrr := u3 hi
      have hr10 : rr 3 10 (gA n β) i < 10 := rr_lt (by omega)
      have hnext : ∀ r, r < us (gA n β) (i + 1) → upd f (rr 3 10 (gA n β) i) (nI (gA n β i)) r = nI (Fr (gA n β) (i + 1) r) := by
        intro r hr
        show upd f (rr 3 10 (gA n β) i) (nI (gA n β i)) r = nI (if r = rr 3 10 (gA n β) i then gA n β i else Fr (gA n β) i r)
        unfold upd
        by_cases v : r = rr 3 10 (gA n β) i
        · rw [if_pos v, if_pos v]
        · rw [if_neg v, if_neg v]
          apply p2
          rw [us_max h10 hga hi] at hr
          by_cases c : us (gA n β) i < rr 3 10 (gA n β) i + 1
          · rw [if_pos c] at hr
            have : rr 3 10 (gA n β) i ≤ us (gA n β) i := by
              rw [hrr]
              cases q : so (Fr (gA n β) i) (gA n β i) (us (gA n β) i) with
              | none => exact Nat.le_refl _
              | some b => exact Nat.le_of_lt (so_lt q)
            omega
          · rw [if_neg c] at hr; exact hr
      have e70 : ∀ (y1 y2 : Int32) κ, y1 = nI (us (gA n β) (i + 1)) → y2 = nI (rr 3 10 (gA n β) i) → bX7_rowsOf_70 N typed texts p (nI (tC n β)) coming came goes going wears worn w κ y1 x (nI i) y2 f = κ (nI (us (gA n β) (i + 1)), (if nI (lt β 0 i) = p then nI (rr 3 10 (gA n β) i) else x), nI (i + 1), upd f (rr 3 10 (gA n β) i) (nI (gA n β i))) := by
        rintro y1 y2 κ rfl rfl
        unfold bX7_rowsOf_70 bX7_rowsOf_106
        rw [nI_clamp (show i < 2 ^ 31 by omega), a1, if_pos (chk_nI (show i < 10 by omega) (by omega)), if_pos (chk_nI (show lt β 0 i < 10 by omega) (by omega)), nI_clamp (show lt β 0 i < 2 ^ 31 by omega), a3, nI_clamp (show rr 3 10 (gA n β) i < 2 ^ 31 by omega)]
        unfold nm
        simp only
        rw [if_pos (chk_nI hr10 (by omega)), if_pos (chk_nI (show i < 10 by omega) (by omega)), nI_1]
        by_cases c : nI (lt β 0 i) = p
        · rw [if_pos c, if_pos c]
        · rw [if_neg c, if_neg c]
      left
      refine ⟨(nI (us (gA n β) (i + 1)), (if nI (lt β 0 i) = p then nI (rr 3 10 (gA n β) i) else x), nI (i + 1), upd f (rr 3 10 (gA n β) i) (nI (gA n β i))), ⟨_, _, rfl, fun j hj hp => ?_, hnext⟩, fun κ => ?_⟩
      · by_cases v : j = i
        · subst v
          rw [if_pos hp.symm]
        · have hne : ¬ nI (lt β 0 i) = p := by
            rw [hp, nI_eq (by omega) (by have := d0.2.1 j (by omega); omega)]
            intro h
            exact v (d0.2.2 _ _ (by omega) hi h.symm)
          rw [if_neg hne]
          exact p1 j (by omega) hp
      · unfold bX7_rowsOf_30
        simp only
        rw [if_neg (by rw [nI_leI (by omega) (by omega)]; omega), if_pos (chk_nI (show i < 10 by omega) (by omega)), nI_clamp (show i < 2 ^ 31 by omega), a1, if_pos (chk_nI (show lt β 0 i < 10 by omega) (by omega)), nI_clamp (show lt β 0 i < 2 ^ 31 by omega), a3, soonest_eq (fr := Fr (gA n β) i) hN (by omega) a4 (fun r hr => ⟨by rw [p2 r hr]; unfold em; rw [if_neg (by have := u2 r hr; omega)], by have := u2 r hr; omega⟩), Option.bind_some]
        cases q : so (Fr (gA n β) i) (gA n β i) (us (gA n β) i) with
        | none =>
          have hus : us (gA n β) (i + 1) = us (gA n β) i + 1 := by rw [us, q, if_pos rfl]
          rw [if_pos (show pI none = (-1 : Int32) from rfl), nI_1]
          exact e70 _ _ κ (by rw [hus]) (by rw [hrr, q]; rfl)
        | some b =>
          have := so_lt q
          have hus : us (gA n β) (i + 1) = us (gA n β) i := by rw [us, q, if_neg (by simp)]
          rw [if_neg (show ¬ pI (some b) = (-1 : Int32) from m1_ne (by omega))]
          exact e70 _ _ κ (by rw [hus]) (by rw [hrr, q]; rfl))
    (fun s hp => by
      obtain ⟨x, f, rfl, p1, p2⟩ := hp
      by_cases c : p = -1
      · refine ⟨_, ⟨(nI (us (gA n β) (tC n β)), nI (tC n β), coming, came, goes, going, wears, worn, w, f), rfl, ?_, ?_⟩, fun κ => ?_⟩
        rotate_left 2
        · unfold bX7_rowsOf_30
          simp only
          rw [if_pos (by rw [nI_leI (by omega) (by omega)]; omega), if_pos c]
        · exact fun _ => rfl
        · intro i hi hpi
          exact absurd (hpi.symm.trans c) (m1_ne (by have := d0.2.1 i hi; omega))
      · refine ⟨_, ⟨(x, nI (tC n β), coming, came, goes, going, wears, worn, w, f), rfl, ?_, ?_⟩, fun κ => ?_⟩
        rotate_left 2
        · unfold bX7_rowsOf_30
          simp only
          rw [if_pos (by rw [nI_leI (by omega) (by omega)]; omega), if_neg c]
        · exact fun h => absurd h c
        · exact p1)
    (k := 0) (s := (0, -1, 0, fronts)) (N := N) (by omega) ⟨_, _, rfl, fun j hj => absurd hj (Nat.not_lt_zero _), fun r hr => absurd hr (Nat.not_lt_zero _)⟩ (by omega)
  obtain ⟨R, rfl, h⟩ := hz
  exact ⟨R, e, h⟩
theorem rows7 {N : Nat} {n : Nat → Nat} {β : Nat → Nat → Nat} {typed texts coming going worn whens fronts : Nat → Int32} {comes came goes wears : Int32} (hN : 20 < N) (hT : TM n β typed texts) (p : Int32) : ∃ R, fX7_rows N typed texts comes coming came goes going wears worn whens fronts p = some R ∧ R.1 = aRows n β p := by
  have h0 := (hT 0 (by omega)).2.1
  have h1 := (hT 1 (by omega)).2.1
  have d0 := dg_c (β := β) h0
  unfold fX7_rows fX7_rowsOf aRows
  obtain ⟨w, e, hw⟩ := goesEach7 (N := N) (comes := comes) (coming := coming) (came := came) (goes := goes) (going := going) (wears := wears) (worn := worn) (whens := whens) hN hT
  obtain ⟨R, e1, e2, e3⟩ := rowsOf_loop (typed := typed) (texts := texts) (coming := fl coming (fun k => nI (β 0 k - 97)) (tC n β)) (going := fl going (fun k => nI (β 1 k - 97)) (tG n β)) (worn := fl worn (fun k => nI (β 2 k - 97)) (tW n β)) (came := M (cS n β)) (goes := nI (tG n β)) (wears := nI (tW n β)) (w := w) (fronts := fronts) hN h0 h1 (gA_ok h0 h1 hw (Nat.le_refl _)) p
  rw [in_eq, Option.bind_some, e]
  by_cases c : p = -1
  · rw [if_pos ((in19 p).mpr (Or.inl c)), if_neg (by decide), Option.bind_some, if_pos c, if_pos c]
    simp only
    rw [e1, Option.bind_some]
    exact ⟨_, rfl, e2 c⟩
  · rw [if_neg c]
    by_cases d : 0 ≤ p ∧ p ≤ 9
    · rw [if_pos ((in19 p).mpr (Or.inr d)), if_neg (by decide), Option.bind_some, if_neg c, if_pos d]
      obtain ⟨g, g1, rfl⟩ := ncase (m := 9) (by decide) d
      simp only
      rw [isIn_M (by omega), Option.bind_some, nI_clamp (by omega), e1]
      cases q : pof (lt β 0) (tC n β) g with
      | none =>
        rw [if_neg (show ¬ cS n β g = true by rw [cS_gn, pof_none.mp q]; decide), if_pos rfl, Option.bind_some]
        exact ⟨_, rfl, rfl⟩
      | some i =>
        obtain ⟨i1, i2⟩ := pof_lt q
        rw [if_pos (show cS n β g = true by rw [← i2]; exact cS_in i1), if_neg (by decide), Option.bind_some]
        exact ⟨_, rfl, e3 i i1 (by rw [i2])⟩
    · rw [if_neg (fun h => ((in19 p).mp h).elim c d), if_pos rfl, if_neg d]
      exact ⟨_, rfl, rfl⟩

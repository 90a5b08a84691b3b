/-! ===== told: model, and the queries ===== -/
def RM (h : Nat) (ea eb : Nat → Nat) (aheads : Int32) (one oth : Nat → Int32) : Prop := aheads = nI h ∧ ∀ i, i < h → one i = nI (ea i) ∧ oth i = nI (eb i)
theorem mayGo_eq {N h g : Nat} {ea eb : Nat → Nat} {one oth : Nat → Int32} {T : Nat → Bool} (hN : 20 < N) (hk : OK8 h ea eb) (hR : ∀ i, i < h → one i = nI (ea i) ∧ oth i = nI (eb i)) (hg : g < 10) : fX7_mayGo N (nI h) one oth (nI g) (M T) = some (if okp (eP ea eb h) T g then 1 else 0) := by
  have h9 := hk.1
  have e0 : okp (eP ea eb h) T g = alw (fun i => !(eb i == g) || T (ea i)) h := by
    rw [Bool.eq_iff_iff, okp_iff, alw_iff]
    constructor
    · intro z i hi
      by_cases c : eb i = g
      · rw [z (ea i) (hk.2 i hi).1 (eP_iff.mpr ⟨i, hi, rfl, c.symm⟩)]; simp
      · simp [c]
    · intro z x hx hp
      obtain ⟨i, h1, h2, h3⟩ := eP_iff.mp hp
      have := z i h1
      rw [← h3] at this
      rw [h2]; simpa using this
  rw [e0]
  unfold fX7_mayGo
  have st : ((1 : Int32), (0 : Int32)) = (fun k => ((if alw (fun i => !(eb i == g) || T (ea i)) k then (1 : Int32) else 0), nI k)) 0 := by simp [alw]; rfl
  rw [st]
  refine lp_eq0 (b := bX7_mayGo_5 N (nI h) one oth (nI g) (M T)) h (fun k => ((if alw (fun i => !(eb i == g) || T (ea i)) k then (1 : Int32) else 0), nI k)) _ (by omega) (fun k hk2 κ => ?_) (fun κ => ?_)
  · obtain ⟨r1, r2⟩ := hR k hk2
    obtain ⟨b1, b2, b3⟩ := hk.2 k hk2
    unfold bX7_mayGo_5 bX7_mayGo_48
    simp only
    rw [if_neg (by rw [nI_leI (by omega) (by omega)]; omega), nI_1, alw]
    cases q : alw (fun i => !(eb i == g) || T (ea i)) k with
    | false => rw [if_neg Bool.false_ne_true, if_pos rfl]; rfl
    | true =>
      rw [if_pos rfl, if_neg (by decide), if_pos (chk_nI (by omega) (by omega)), if_pos (chk_nI (by omega) (by omega)), nI_clamp (by omega), r1, r2, isIn_M b1, Option.bind_some, Bool.true_and]
      by_cases c : eb k = g
      · rw [if_pos (by rw [c]), c]
        cases q2 : T (ea k) with
        | false => rw [if_neg Bool.false_ne_true, if_pos rfl]; simp
        | true => rw [if_pos rfl, if_neg (by decide)]; simp
      · rw [if_neg (by rw [nI_eq (by omega) (by omega)]; exact c), beq_false_of_ne c]; rfl
  · unfold bX7_mayGo_5
    simp only
    rw [if_pos (by rw [nI_leI (by omega) (by omega)]; omega), if_pos (b01 _)]
section OR
variable {N h : Nat} {ea eb : Nat → Nat} {n : Nat → Nat} {β : Nat → Nat → Nat} {typed texts coming going worn one oth : Nat → Int32} {comes came goes wears p : Int32} {orders : Nat → Int64} {G : Nat → Bool}
theorem ordersOf_set (hN : 2200 < N) (hk : OK8 h ea eb) (hR : ∀ i, i < h → one i = nI (ea i) ∧ oth i = nI (eb i)) {s : Nat} (hs : s < 1024) (hw : ∀ r, r < s → sbs r G → orders r = lN (wv (eP ea eb h) r)) : ∃ orders' : Nat → Int64, (∀ κ, bX7_ordersOf_59 N typed texts (nI h) one oth p (M G) comes coming came goes going wears worn κ (nI s, orders) = κ (nI (s + 1), orders')) ∧ ∀ r, r < s + 1 → sbs r G → orders' r = lN (wv (eP ea eb h) r) := by
  have start : ∀ κ, bX7_ordersOf_59 N typed texts (nI h) one oth p (M G) comes coming came goes going wears worn κ (nI s, orders) = lp (bX7_ordersOf_84 N typed texts (nI h) one oth p (M G) comes coming came goes going wears worn κ (nI s)) N (0, vp_updL orders s (if s = 0 then 1 else 0)) := by
    intro κ
    unfold bX7_ordersOf_59 bX7_ordersOf_80
    simp only
    rw [if_neg (by rw [li1024, nI_leI (by omega) (by omega)]; omega), if_pos (chk_nI hs (by omega)), if_pos (chk_nI hs (by omega)), nI_clamp (by omega)]
    by_cases c : s = 0
    · subst c; rw [if_pos rfl, if_pos (show nI 0 = (0 : Int32) from rfl)]
    · rw [if_neg (nI_ne0 (by omega) (by omega)), if_neg c]
  by_cases c : sbs s G
  · -- term by term
    obtain ⟨v, hv⟩ : ∃ v : Nat → Nat, v = fun k => (if s = 0 then 1 else 0) + sg (wF (eP ea eb h) s) k := ⟨_, rfl⟩
    have hv0 : v 0 = if s = 0 then 1 else 0 := by rw [hv]; rfl
    have hvs : ∀ k, v (k + 1) = v k + wF (eP ea eb h) s k := fun k => by rw [hv]; simp only [sg]; omega
    have hv10 : v 10 = wv (eP ea eb h) s := by
      rw [hv]
      by_cases z : s = 0
      · subst z
        have : sg (wF (eP ea eb h) 0) 10 = 0 := by
          rcases Nat.eq_zero_or_pos (sg (wF (eP ea eb h) 0) 10) with z | z
          · exact z
          · obtain ⟨i, i1, i2⟩ := sg_ex (show sg (wF (eP ea eb h) 0) 10 ≠ 0 by omega)
            unfold wF at i2
            simp at i2
        simp only [this, if_true, wv_0]
      · simp only [z, if_false, wv_s hs z]; omega
    refine ⟨vp_updL orders s (lN (v 10)), fun κ => ?_, fun r hr hsb => ?_⟩
    · rw [start κ, show (if s = 0 then (1 : Int64) else 0) = lN (v 0) by rw [hv0]; by_cases z : s = 0 <;> simp [z] <;> rfl]
      have st : ((0 : Int32), vp_updL orders s (lN (v 0))) = (fun k => (nI k, vp_updL orders s (lN (v k)))) 0 := rfl
      rw [st]
      refine lp_eq0 (b := bX7_ordersOf_84 N typed texts (nI h) one oth p (M G) comes coming came goes going wears worn κ (nI s)) 10 (fun k => (nI k, vp_updL orders s (lN (v k)))) _ (by omega) (fun k hk2 κ2 => ?_) (fun κ2 => ?_)
      · have uu : ∀ a b : Int64, vp_updL (vp_updL orders s a) s b = vp_updL orders s b := fun a b => by funext x; unfold vp_updL; by_cases e : x = s <;> simp [e]
        unfold bX7_ordersOf_84 bX7_ordersOf_147 nm
        simp only
        rw [if_neg (by rw [li10, nI_leI (by omega) (by omega)]; omega), if_pos ((sbs_M hs).mpr c), nI_1, M_bit k hk2]
        have em : nI s &&& (M (fun x => x == k) ^^^ (-1)) = M (rmv s.testBit k) := by rw [M_of hs, M_andn]; rfl
        rw [em, hvs]
        have hin : fX7_isIn (nI s) (nI k) = some (if s.testBit k then 1 else 0) := by rw [M_of hs]; exact isIn_M hk2
        rw [hin, Option.bind_some]
        cases q : s.testBit k with
        | false => rw [if_neg Bool.false_ne_true, if_pos rfl, wF, q]; rfl
        | true =>
          have hlt := bm_rmv hs hk2 q
          rw [if_pos rfl, if_neg (by decide), mayGo_eq (by omega) hk hR hk2, Option.bind_some]
          cases q2 : okp (eP ea eb h) (rmv s.testBit k) k with
          | false => rw [if_neg Bool.false_ne_true, if_pos rfl, wF, q, q2]; rfl
          | true =>
            rw [if_pos rfl, if_neg (by decide), if_pos (chk_nI hs (by omega)), show M (rmv s.testBit k) = nI (bm (rmv s.testBit k) 10) from rfl, if_pos (chk_nI (by omega) (by omega)), if_pos (chk_nI hs (by omega)), nI_clamp (by omega), nI_clamp (by omega), pk_uLs, pk_uLn (by omega), hw _ hlt (sbs_rmv c), lN_add, uu, wF, q, q2]
            rfl
      · unfold bX7_ordersOf_84 bX7_ordersOf_153
        simp only
        rw [if_pos (by rw [li10, nI_leI (by omega) (by omega)]; omega), nI_1]
    · by_cases d : r = s
      · rw [d, pk_uLs, hv10]
      · rw [pk_uLn d]; exact hw r (by omega) hsb
  · refine ⟨vp_updL orders s (if s = 0 then 1 else 0), fun κ => ?_, fun r hr hsb => ?_⟩
    · rw [start κ]
      obtain ⟨N', rfl⟩ : ∃ N', N = N' + 1 := ⟨N - 1, by omega⟩
      rw [lp_s]
      unfold bX7_ordersOf_84 bX7_ordersOf_153
      simp only
      rw [if_neg (by decide), if_neg (fun z => c ((sbs_M hs).mp z)), nI_1]
    · by_cases d : r = s
      · rw [d] at hsb; exact absurd hsb c
      · rw [pk_uLn d]; exact hw r (by omega) hsb
theorem ordersOf_loop (hN : 2200 < N) (hk : OK8 h ea eb) (hR : ∀ i, i < h → one i = nI (ea i) ∧ oth i = nI (eb i)) : ∃ R, lp (bX7_ordersOf_15 N typed texts (nI h) one oth p (M G) comes coming came goes going wears worn orders) N 0 = some R ∧ R.1 = lN (fO ea eb h G) ∧ R.2.1 = comes ∧ R.2.2.2.1 = came := by
  have h9 := hk.1
  have hG := bm10 G
  have last : ∃ R, lp (bX7_ordersOf_59 N typed texts (nI h) one oth p (M G) comes coming came goes going wears worn) N (0, orders) = some R ∧ R.1 = lN (Wo (eP ea eb h) (cnt G 10) G) ∧ R.2.1 = comes ∧ R.2.2.2.1 = came := by
    obtain ⟨z, hz, e⟩ := lp_for (b := bX7_ordersOf_59 N typed texts (nI h) one oth p (M G) comes coming came goes going wears worn) 1024 (fun s st => ∃ or' : Nat → Int64, st = (nI s, or') ∧ ∀ r, r < s → sbs r G → or' r = lN (wv (eP ea eb h) r)) (fun z => ∃ R, z = some R ∧ R.1 = lN (Wo (eP ea eb h) (cnt G 10) G) ∧ R.2.1 = comes ∧ R.2.2.2.1 = came)
      (fun s st hs hp => by
        obtain ⟨or', rfl, p1⟩ := hp
        left
        obtain ⟨or2, e1, e2⟩ := ordersOf_set (typed := typed) (texts := texts) (coming := coming) (going := going) (worn := worn) (comes := comes) (came := came) (goes := goes) (wears := wears) (p := p) hN hk hR hs p1
        exact ⟨_, ⟨or2, rfl, e2⟩, e1⟩)
      (fun st hp => by
        obtain ⟨or', rfl, p1⟩ := hp
        have hself : sbs (bm G 10) G := fun x hx z => by rw [bm_bit] at z; simpa [hx] using z
        have hwv := p1 (bm G 10) (by omega) hself
        rw [wv_bm] at hwv
        refine ⟨some (lN (Wo (eP ea eb h) (cnt G 10) G), comes, coming, came, goes, going, wears, worn, or'), ⟨_, rfl, rfl, rfl, rfl⟩, fun κ => ?_⟩
        unfold bX7_ordersOf_59
        simp only
        rw [if_pos (by rw [li1024, nI_leI (by omega) (by omega)]; omega), show M G = nI (bm G 10) from rfl, if_pos (chk_nI (by omega) (by omega)), nI_clamp (by omega), hwv])
      (k := 0) (s := (0, orders)) (N := N) (by omega) ⟨orders, rfl, fun r hr => by omega⟩ (by omega)
    obtain ⟨R, a1, a2⟩ := hz
    exact ⟨R, by rw [e, a1], a2⟩
  obtain ⟨z, hz, e⟩ := lp_for (b := bX7_ordersOf_15 N typed texts (nI h) one oth p (M G) comes coming came goes going wears worn orders) h (fun k s => s = nI k ∧ ∀ i, i < k → G (ea i) = true ∧ G (eb i) = true) (fun z => ∃ R, z = some R ∧ R.1 = lN (fO ea eb h G) ∧ R.2.1 = comes ∧ R.2.2.2.1 = came)
    (fun k s hk2 hp => by
      obtain ⟨rfl, p1⟩ := hp
      obtain ⟨r1, r2⟩ := hR k hk2
      obtain ⟨b1, b2, b3⟩ := hk.2 k hk2
      have bad : (G (ea k) = false ∨ G (eb k) = false) → fO ea eb h G = 0 := by
        intro z
        unfold fO
        rw [if_neg]
        intro z2
        have hn := nmIn_iff.mp z2
        rcases z with z | z
        · rw [hn (ea k) b1 (nmd_iff.mpr ⟨k, hk2, Or.inl rfl⟩)] at z; cases z
        · rw [hn (eb k) b2 (nmd_iff.mpr ⟨k, hk2, Or.inr rfl⟩)] at z; cases z
      have step : ∀ κ, bX7_ordersOf_15 N typed texts (nI h) one oth p (M G) comes coming came goes going wears worn orders κ (nI k) = if G (ea k) = true then (if G (eb k) = true then κ (nI (k + 1)) else some (0, comes, coming, came, goes, going, wears, worn, orders)) else some (0, comes, coming, came, goes, going, wears, worn, orders) := by
        intro κ
        unfold bX7_ordersOf_15
        rw [if_neg (by rw [nI_leI (by omega) (by omega)]; omega), if_pos (chk_nI (by omega) (by omega)), if_pos (chk_nI (by omega) (by omega)), nI_clamp (by omega), r1, r2, isIn_M b1, isIn_M b2, Option.bind_some, Option.bind_some, nI_1]
        cases G (ea k) <;> cases G (eb k) <;> rfl
      cases qa : G (ea k) with
      | false =>
        right
        exact ⟨some (0, comes, coming, came, goes, going, wears, worn, orders), ⟨_, rfl, by rw [bad (Or.inl qa)]; rfl, rfl, rfl⟩, fun κ => by rw [step, qa, if_neg Bool.false_ne_true]⟩
      | true =>
        cases qb : G (eb k) with
        | false =>
          right
          exact ⟨some (0, comes, coming, came, goes, going, wears, worn, orders), ⟨_, rfl, by rw [bad (Or.inr qb)]; rfl, rfl, rfl⟩, fun κ => by rw [step, qa, qb, if_pos rfl, if_neg Bool.false_ne_true]⟩
        | true =>
          left
          refine ⟨_, ⟨rfl, fun i hi => ?_⟩, fun κ => by rw [step, qa, qb, if_pos rfl, if_pos rfl]⟩
          by_cases c : i = k
          · rw [c]; exact ⟨qa, qb⟩
          · exact p1 i (by omega))
    (fun s hp => by
      obtain ⟨rfl, p1⟩ := hp
      obtain ⟨R, e1, e2, e3⟩ := last
      refine ⟨some R, ⟨R, rfl, ?_, e3⟩, fun κ => ?_⟩
      · rw [e2]
        unfold fO
        rw [if_pos]
        rw [nmIn_iff]
        intro x hx z
        obtain ⟨i, i1, i2⟩ := nmd_iff.mp z
        rcases i2 with i2 | i2
        · rw [i2]; exact (p1 i i1).1
        · rw [i2]; exact (p1 i i1).2
      · unfold bX7_ordersOf_15
        rw [if_pos (by rw [nI_leI (by omega) (by omega)]; omega), e1])
    (k := 0) (s := 0) (N := N) (by omega) ⟨rfl, fun i hi => by omega⟩ (by omega)
  obtain ⟨R, a1, a2⟩ := hz
  exact ⟨R, by rw [e, a1], a2⟩
end OR

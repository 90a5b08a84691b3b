/-! ===== lies ===== -/
def pkr (cm : Nat → Nat) (S : Nat → Bool) : Nat → Nat → Nat → Int32
  | 0, _, _ => -1
  | r + 1, k, a => if S (cm k) then (if a = 0 then nI (cm k) else pkr cm S r (k + 1) (a - 1)) else pkr cm S r (k + 1) a
theorem pkr_s {cm : Nat → Nat} {S : Nat → Bool} {n k a : Nat} (h : k < n) : pkr cm S (n - k) k a = if S (cm k) then (if a = 0 then nI (cm k) else pkr cm S (n - (k + 1)) (k + 1) (a - 1)) else pkr cm S (n - (k + 1)) (k + 1) a := by
  obtain ⟨r, hr⟩ : ∃ r, n - k = r + 1 := ⟨n - k - 1, by omega⟩
  rw [hr, pkr, show n - (k + 1) = r by omega]
theorem pickOf_eq {N n i : Nat} {cm : Nat → Nat} {bytes : Nat → Int32} {S : Nat → Bool} (hN : 20 < N) (hd : DG n cm) (ht : TG n cm bytes) (hi : i < 10) : fX4_pickOf N bytes (nI n) (M S) (nI i) = some (pkr cm S n 0 i) := by
  have hn := hd.1
  unfold fX4_pickOf
  obtain ⟨z, hz, e⟩ := lp_for (b := bX4_pickOf_5 N bytes (nI n) (M S) (nI i)) n (fun k s => ∃ a, a ≤ i ∧ s = (nI (i - a), nI k) ∧ pkr cm S n 0 i = pkr cm S (n - k) k a) (fun z => z = some (pkr cm S n 0 i))
    (fun k s hk hp => by
      obtain ⟨a, ha, rfl, h1⟩ := hp
      have hc := hd.2.1 k hk
      rw [pkr_s hk] at h1
      by_cases c : S (cm k) = true
      · rw [if_pos c] at h1
        by_cases d : a = 0
        · right
          rw [if_pos d] at h1
          refine ⟨_, rfl, fun κ => ?_⟩
          unfold bX4_pickOf_5
          simp only
          rw [if_neg (by rw [nI_leI (by omega) (by omega)]; omega), guestAt_eq hd ht hk, Option.bind_some, has_M hc, Option.bind_some, if_pos c, if_neg (by decide), d, Nat.sub_zero, if_pos rfl, h1]
        · left
          rw [if_neg d] at h1
          refine ⟨_, ⟨a - 1, by omega, rfl, h1⟩, fun κ => ?_⟩
          unfold bX4_pickOf_5 bX4_pickOf_42
          simp only
          rw [if_neg (by rw [nI_leI (by omega) (by omega)]; omega), guestAt_eq hd ht hk, Option.bind_some, has_M hc, Option.bind_some, if_pos c, if_neg (by decide), if_neg (by rw [nI_eq (by omega) (by omega)]; omega), nI_1, nI_1, show i - a + 1 = i - (a - 1) by omega]
      · left
        rw [if_neg c] at h1
        refine ⟨_, ⟨a, ha, rfl, h1⟩, fun κ => ?_⟩
        unfold bX4_pickOf_5 bX4_pickOf_42
        simp only
        rw [if_neg (by rw [nI_leI (by omega) (by omega)]; omega), guestAt_eq hd ht hk, Option.bind_some, has_M hc, Option.bind_some, if_neg c, if_pos rfl, nI_1])
    (fun s hp => by
      obtain ⟨a, ha, rfl, h1⟩ := hp
      refine ⟨_, rfl, fun κ => ?_⟩
      unfold bX4_pickOf_5
      simp only
      rw [if_pos (by rw [nI_leI (by omega) (by omega)]; omega), h1, Nat.sub_self]
      rfl)
    (k := 0) (s := (0, 0)) (N := N) (by omega) ⟨i, Nat.le_refl _, by rw [Nat.sub_self]; rfl, by rw [Nat.sub_zero]⟩ (by omega)
  rw [e, hz]
def lieS (n : Nat → Nat) (β : Nat → Nat → Nat) (row : Nat → Nat) (dp r k : Nat) : Nat → Bool := fun g => (LSs row dp n β g && (row g == r)) && !gn (lt β 1) k g
def aLies (n : Nat → Nat) (β : Nat → Nat → Nat) (row : Nat → Nat) (dp : Nat) (p q i : Int32) : Int32 := if (0 ≤ p ∧ p ≤ nI (tG n β)) ∧ (0 ≤ q ∧ q ≤ 9) ∧ (0 ≤ i ∧ i ≤ 9) then pkr (lt β 0) (lieS n β row dp (Int32.toNatClampNeg q) (Int32.toNatClampNeg p)) (tC n β) 0 (Int32.toNatClampNeg i) else -2
theorem lies6 {N : Nat} {n : Nat → Nat} {β : Nat → Nat → Nat} {row : Nat → Nat} {dp : Nat} {b0 b1 ir : Nat → Int32} {z0 z1 : Int32} (hN : 20 < N) (h0 : TX n β 0 b0 z0) (h1 : TX n β 1 b1 z1) (hir : ∀ r, r < 10 → ir r = M (fun g => LSs row dp n β g && (row g == r))) (p q i : Int32) : fX6_lies N b0 (nI (tC n β)) b1 (nI (tG n β)) ir p q i = some (aLies n β row dp p q i) := by
  have d0 := dg_c (β := β) h0.2.1
  have d1 := dg_g (β := β) h1.2.1
  have g0 : TG (tC n β) (lt β 0) b0 := tx_tg h0 tC_le (fun k hk => c_ok h0.2.1 hk)
  have g1 : TG (tG n β) (lt β 1) b1 := tx_tg h1 tG_le (fun k hk => g_ok h1.2.1 hk)
  have hg10 := d1.1
  unfold fX6_lies aLies
  rw [within_eq, Option.bind_some]
  by_cases c1 : 0 ≤ p ∧ p ≤ nI (tG n β)
  · rw [if_pos c1, if_neg (by decide), within_eq, Option.bind_some]
    by_cases c2 : 0 ≤ q ∧ q ≤ 9
    · rw [if_pos c2, if_neg (by decide), within_eq, Option.bind_some]
      by_cases c3 : 0 ≤ i ∧ i ≤ 9
      · rw [if_pos c3, if_neg (by decide)]
        obtain ⟨k, hk, rfl⟩ := ncase (by omega) c1
        obtain ⟨r, hr, rfl⟩ := ncase (m := 9) (by decide) c2
        obtain ⟨j, hj, rfl⟩ := ncase (m := 9) (by decide) c3
        rw [if_pos (show (0 ≤ nI k ∧ nI k ≤ nI (tG n β)) ∧ (0 ≤ nI r ∧ nI r ≤ 9) ∧ 0 ≤ nI j ∧ nI j ≤ 9 from ⟨c1, c2, c3⟩), if_pos (chk_nI (show r < 10 by omega) (by omega)), nI_clamp (by omega), nI_clamp (by omega), nI_clamp (by omega), hir r (by omega)]
        have i0 : (M (fun g => LSs row dp n β g && (row g == r)), (0 : Int32)) = (fun m => (M (lieS n β row dp r m), nI m)) 0 := by
          refine congrArg (fun z => (z, (0 : Int32))) (M_congr (fun x _ => ?_))
          simp [lieS, gn]
        rw [i0]
        refine lp_eq0 k (fun m => (M (lieS n β row dp r m), nI m)) _ (by omega) (fun m hm κ => ?_) (fun κ => ?_)
        · have hc := d1.2.1 m (by omega)
          unfold bX6_lies_54
          simp only
          rw [if_neg (by rw [nI_leI (by omega) (by omega)]; omega), guestAt_eq d1 g1 (by omega), Option.bind_some, bit_in hc, Option.bind_some, M_andn, nI_1]
          refine congrArg (fun z => κ (z, _)) (M_congr (fun x _ => ?_))
          simp only [lieS, gn]
          cases LSs row dp n β x <;> cases (row x == r) <;> cases gn (lt β 1) m x <;> simp
        · unfold bX6_lies_54
          simp only
          rw [if_pos (by rw [nI_leI (by omega) (by omega)]; omega), pickOf_eq hN d0 g0 (by omega), Option.bind_some]
      · rw [if_neg c3, if_pos rfl, if_neg (fun z => c3 z.2.2)]
    · rw [if_neg c2, if_pos rfl, if_neg (fun z => c2 z.2.1)]
  · rw [if_neg c1, if_pos rfl, if_neg (fun z => c1 z.1)]
theorem lies7 {N : Nat} {n : Nat → Nat} {β tr : Nat → Nat → Nat} {st : Nat → Nat} {typed texts coming going worn rowOf looks minutes manyIn : Nat → Int32} {comes came goes wears deep room look lift laid judgedNow : Int32} (hN : 20 < N) (hM : ModT n β tr st typed texts rowOf looks minutes deep room look lift) (p q i : Int32) : ∃ R, fX7_lies N typed texts comes coming came goes going wears worn rowOf deep laid judgedNow manyIn p q i = some R ∧ R.1 = aLies n β (tr 0) (st 0) p q i := by
  obtain ⟨hT, hr, hs, rfl, -⟩ := hM
  have h0 := (hT 0 (by omega)).2.1
  have h1 := (hT 1 (by omega)).2.1
  have d0 := dg_c (β := β) h0
  have d1 := dg_g (β := β) h1
  have hg10 := d1.1
  have hc10 := d0.1
  unfold fX7_lies fX7_goesMany aLies
  rw [reads_eq hN hT, Option.bind_some, Option.bind_some, in_eq, Option.bind_some]
  by_cases c1 : 0 ≤ p ∧ p ≤ nI (tG n β)
  · rw [if_pos c1, if_neg (by decide), isGuest7_eq, Option.bind_some]
    by_cases c2 : 0 ≤ q ∧ q ≤ 9
    · rw [if_pos c2, if_neg (by decide), isGuest7_eq, Option.bind_some]
      by_cases c3 : 0 ≤ i ∧ i ≤ 9
      · rw [if_pos c3, if_neg (by decide), if_pos ⟨c1, c2, c3⟩]
        obtain ⟨k, hk, rfl⟩ := ncase (by omega) c1
        obtain ⟨r, hr9, rfl⟩ := ncase (m := 9) (by decide) c2
        obtain ⟨j, hj, rfl⟩ := ncase (m := 9) (by decide) c3
        rw [nI_clamp (by omega), nI_clamp (by omega), nI_clamp (by omega)]
        simp only
        unfold fX7_liesOf
        obtain ⟨mi, e1, e2⟩ := lays_eq (N := N) (n := n) (β := β) (typed := typed) (texts := texts) (coming := fl coming (fun k => nI (β 0 k - 97)) (tC n β)) (going := fl going (fun k => nI (β 1 k - 97)) (tG n β)) (worn := fl worn (fun k => nI (β 2 k - 97)) (tW n β)) (rowOf := rowOf) (manyIn := manyIn) (comes := nI (tC n β)) (came := M (cS n β)) (goes := nI (tG n β)) (wears := nI (tW n β)) (laid := laid) (judgedNow := judgedNow) (row := tr 0) (dp := st 0) hN hT (row_of hr) hs.1.2
        rw [e1, Option.bind_some]
        simp only
        have hco : CA (tC n β) (lt β 0) (fl (fl coming (fun k => nI (β 0 k - 97)) (tC n β)) (fun k => nI (β 0 k - 97)) (tC n β)) := ca_fl
        have hgo : CA (tG n β) (lt β 1) (fl (fl going (fun k => nI (β 1 k - 97)) (tG n β)) (fun k => nI (β 1 k - 97)) (tG n β)) := ca_fl
        generalize fl (fl coming (fun k => nI (β 0 k - 97)) (tC n β)) (fun k => nI (β 0 k - 97)) (tC n β) = co at hco ⊢
        generalize fl (fl going (fun k => nI (β 1 k - 97)) (tG n β)) (fun k => nI (β 1 k - 97)) (tG n β) = go at hgo ⊢
        generalize fl (fl worn (fun k => nI (β 2 k - 97)) (tW n β)) (fun k => nI (β 2 k - 97)) (tW n β) = wo
        have second : ∃ z, (∃ R, z = some R ∧ R.1 = pkr (lt β 0) (lieS n β (tr 0) (st 0) r k) (tC n β) 0 j) ∧ lp (bX7_liesOf_47 N typed texts rowOf (nI (st 0)) (nI k) (nI r) (nI j) (M (fun g => LSs (tr 0) (st 0) n β g && !gn (lt β 1) k g)) (nI (tC n β)) co (M (cS n β)) (nI (tG n β)) go (nI (tW n β)) wo (M (LSs (tr 0) (st 0) n β)) (J_G (tr 0) (lt β 0) (st 0) (tC n β)) mi) N (nI j, 0) = z := by
          refine lp_for (b := bX7_liesOf_47 N typed texts rowOf (nI (st 0)) (nI k) (nI r) (nI j) (M (fun g => LSs (tr 0) (st 0) n β g && !gn (lt β 1) k g)) (nI (tC n β)) co (M (cS n β)) (nI (tG n β)) go (nI (tW n β)) wo (M (LSs (tr 0) (st 0) n β)) (J_G (tr 0) (lt β 0) (st 0) (tC n β)) mi) (tC n β) (fun m s => ∃ a, a ≤ 9 ∧ s = (nI a, nI m) ∧ pkr (lt β 0) (lieS n β (tr 0) (st 0) r k) (tC n β) 0 j = pkr (lt β 0) (lieS n β (tr 0) (st 0) r k) (tC n β - m) m a) _
            (fun m s hm hp => ?_) (fun s hp => ?_) (k := 0) (by omega) ⟨j, hj, rfl, by rw [Nat.sub_zero]⟩ (by omega)
          · obtain ⟨a, ha, rfl, h2⟩ := hp
            have hc := d0.2.1 m hm
            obtain ⟨r1, r2⟩ := row_of hr _ hc
            rw [pkr_s hm] at h2
            have base : ∀ κ, bX7_liesOf_47 N typed texts rowOf (nI (st 0)) (nI k) (nI r) (nI j) (M (fun g => LSs (tr 0) (st 0) n β g && !gn (lt β 1) k g)) (nI (tC n β)) co (M (cS n β)) (nI (tG n β)) go (nI (tW n β)) wo (M (LSs (tr 0) (st 0) n β)) (J_G (tr 0) (lt β 0) (st 0) (tC n β)) mi κ (nI a, nI m) = if lieS n β (tr 0) (st 0) r k (lt β 0 m) then (if a = 0 then some (nI (lt β 0 m), nI (tC n β), co, M (cS n β), nI (tG n β), go, nI (tW n β), wo, M (LSs (tr 0) (st 0) n β), J_G (tr 0) (lt β 0) (st 0) (tC n β), mi) else κ (nI (a - 1), nI (m + 1))) else κ (nI a, nI (m + 1)) := by
              intro κ
              unfold bX7_liesOf_47 bX7_liesOf_97
              simp only
              rw [if_neg (by rw [nI_leI (by omega) (by omega)]; omega), if_pos (chk_nI (by omega) (by omega)), nI_clamp (by omega), hco m hm, isIn_M hc, Option.bind_some, nI_1]
              by_cases x1 : (LSs (tr 0) (st 0) n β (lt β 0 m) && !gn (lt β 1) k (lt β 0 m)) = true
              · rw [if_pos x1, if_neg (by decide), if_pos (chk_nI hc (by omega)), nI_clamp (by omega), r1]
                simp only [Bool.and_eq_true, Bool.not_eq_true'] at x1
                by_cases x2 : tr 0 (lt β 0 m) = r
                · have hl : lieS n β (tr 0) (st 0) r k (lt β 0 m) = true := by
                    unfold lieS
                    rw [x1.1, x1.2, x2, beq_self_eq_true]; rfl
                  rw [if_pos (show nI (tr 0 (lt β 0 m)) = nI r by rw [x2]), if_pos hl]
                  by_cases x3 : a = 0
                  · rw [if_pos (show nI a = 0 by rw [x3]; rfl), if_pos x3]
                  · rw [if_neg (show ¬ nI a = 0 by rw [li0, nI_eq (by omega) (by omega)]; exact x3), if_neg x3, add_m1, nI_pd (by omega)]
                · rw [if_neg (by rw [nI_eq (by omega) (by omega)]; exact x2), if_neg (show ¬ lieS n β (tr 0) (st 0) r k (lt β 0 m) = true by unfold lieS; rw [beq_false_of_ne x2]; simp)]
              · rw [if_neg x1, if_pos rfl, if_neg]
                intro z
                apply x1
                simp only [lieS, Bool.and_eq_true] at z
                simp only [Bool.and_eq_true]
                exact ⟨z.1.1, z.2⟩
            by_cases c : lieS n β (tr 0) (st 0) r k (lt β 0 m) = true
            · rw [if_pos c] at h2
              by_cases d : a = 0
              · rw [if_pos d] at h2
                exact Or.inr ⟨_, ⟨_, rfl, h2.symm⟩, fun κ => by rw [base, if_pos c, if_pos d]⟩
              · rw [if_neg d] at h2
                exact Or.inl ⟨_, ⟨a - 1, by omega, rfl, h2⟩, fun κ => by rw [base, if_pos c, if_neg d]⟩
            · rw [if_neg c] at h2
              exact Or.inl ⟨_, ⟨a, ha, rfl, h2⟩, fun κ => by rw [base, if_neg c]⟩
          · obtain ⟨a, ha, rfl, h2⟩ := hp
            refine ⟨_, ⟨(-1, nI (tC n β), co, M (cS n β), nI (tG n β), go, nI (tW n β), wo, M (LSs (tr 0) (st 0) n β), J_G (tr 0) (lt β 0) (st 0) (tC n β), mi), rfl, by rw [h2, Nat.sub_self]; rfl⟩, fun κ => ?_⟩
            unfold bX7_liesOf_47
            simp only
            rw [if_pos (by rw [nI_leI (by omega) (by omega)]; omega)]
        obtain ⟨z, ⟨R, z1, z2⟩, z3⟩ := second
        have i0 : (M (LSs (tr 0) (st 0) n β), (0 : Int32)) = (fun m => (M (fun g => LSs (tr 0) (st 0) n β g && !gn (lt β 1) m g), nI m)) 0 := by
          refine congrArg (fun z => (z, (0 : Int32))) (M_congr (fun x _ => ?_))
          simp [gn]
        rw [i0, lp_eq0 (b := bX7_liesOf_13 N typed texts rowOf (nI (st 0)) (nI k) (nI r) (nI j) (nI (tC n β)) co (M (cS n β)) (nI (tG n β)) go (nI (tW n β)) wo (M (LSs (tr 0) (st 0) n β)) (J_G (tr 0) (lt β 0) (st 0) (tC n β)) mi) k (fun m => (M (fun g => LSs (tr 0) (st 0) n β g && !gn (lt β 1) m g), nI m)) (some R) (by omega) (fun m hm κ => ?_) (fun κ => ?_), Option.bind_some]
        · exact ⟨_, rfl, z2⟩
        · have hc := d1.2.1 m (by omega)
          unfold bX7_liesOf_13 nm
          simp only
          rw [if_neg (by rw [nI_leI (by omega) (by omega)]; omega), if_pos (chk_nI (by omega) (by omega)), nI_clamp (by omega), hgo m (by omega), M_bit _ hc, M_andn, nI_1]
          refine congrArg (fun z => κ (z, _)) (M_congr (fun x _ => ?_))
          rw [gn]
          cases LSs (tr 0) (st 0) n β x <;> cases gn (lt β 1) m x <;> simp
        · unfold bX7_liesOf_13
          simp only
          rw [if_pos (by rw [nI_leI (by omega) (by omega)]; omega), z3, z1]
      · rw [if_neg c3, if_pos rfl, if_neg (fun z => c3 z.2.2)]
        exact ⟨_, rfl, rfl⟩
    · rw [if_neg c2, if_pos rfl, if_neg (fun z => c2 z.2.1)]
      exact ⟨_, rfl, rfl⟩
  · rw [if_neg c1, if_pos rfl, if_neg (fun z => c1 z.1)]
    exact ⟨_, rfl, rfl⟩

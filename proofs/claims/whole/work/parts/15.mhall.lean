/-! ===== the hall and the goings, in the model ===== -/
abbrev lt (β : Nat → Nat → Nat) (t : Nat) : Nat → Nat := fun k => β t k - 97
theorem dg_of {al : Nat → Bool} {b : Nat → Nat} {n : Nat} (hn : n ≤ 10) (h : ∀ k, k < n → okc al b k = true) : DG n (fun k => b k - 97) := by
  refine ⟨hn, fun k hk => by have := okc_lo (h k hk); show b k - 97 < 10; omega, fun i j hi hj e => ?_⟩
  have key : ∀ i j, i < n → j < n → i < j → b i - 97 = b j - 97 → False := by
    intro i j hi hj hij e
    have h1 := (okc_lo (h j hj)).2.2.2
    have h2 : sn b j (b j - 97) = true := sn_iff.mpr ⟨i, hij, e.symm⟩
    rw [h1] at h2; cases h2
  rcases Nat.lt_trichotomy i j with c | c | c
  · exact (key i j hi hj c e).elim
  · exact c
  · exact (key j i hj hi c e.symm).elim
theorem dg_c {n : Nat → Nat} {β : Nat → Nat → Nat} (hn : n 0 ≤ 10) : DG (tC n β) (lt β 0) := dg_of (by have := @tC_le n β; omega) (fun k hk => c_ok hn hk)
theorem dg_g {n : Nat → Nat} {β : Nat → Nat → Nat} (hn : n 1 ≤ 10) : DG (tG n β) (lt β 1) := dg_of (by have := @tG_le n β; omega) (fun k hk => g_ok hn hk)
theorem dg_w {n : Nat → Nat} {β : Nat → Nat → Nat} (hn : n 2 ≤ 10) : DG (tW n β) (lt β 2) := dg_of (by have := @tW_le n β; omega) (fun k hk => w_ok hn hk)
theorem gn_sn (β : Nat → Nat → Nat) (t : Nat) : ∀ k g, gn (lt β t) k g = sn (β t) k g
  | 0, g => rfl
  | k + 1, g => by rw [gn, sn, gn_sn β t k g]
/-- an array of the model holds guests -/
def CA (n : Nat) (cm : Nat → Nat) (a : Nat → Int32) : Prop := ∀ k, k < n → a k = nI (cm k)
theorem ca_fl {β : Nat → Nat → Nat} {t n : Nat} {f : Nat → Int32} : CA n (lt β t) (fl f (fun k => nI (β t k - 97)) n) := fun k hk => by rw [fl_eq, if_pos hk]
section HL
variable {row cm : Nat → Nat} {dp n : Nat}
theorem L_S_keep (hd : DG n cm) {g : Nat} : ∀ {m k : Nat}, k ≤ m → m ≤ n → gn cm k g = true → L_S row cm dp m g = L_S row cm dp k g
  | 0, k, h1, h2, h3 => by rw [show k = 0 by omega]
  | m + 1, k, h1, h2, h3 => by
    by_cases e : k = m + 1
    · rw [e]
    · have ne : g ≠ cm m := by
        obtain ⟨j, q1, q2⟩ := gn_iff.mp h3
        intro z
        have := hd.2.2 j m (by omega) (by omega) (by rw [← q2, z])
        omega
      rw [L_S_s, beq_false_of_ne ne, Bool.false_and, Bool.or_false]
      exact L_S_keep hd (by omega) (by omega) h3
theorem L_S_out (hd : DG n cm) {g k : Nat} (hk : k ≤ n) (h : gn cm k g = false) : L_S row cm dp k g = false := by
  cases q : L_S row cm dp k g with
  | false => rfl
  | true =>
    obtain ⟨j, h1, h2⟩ := L_S_in hd hk q
    have := gn_iff.mpr ⟨j, h1, h2⟩
    rw [h] at this; cases this
theorem L_S_fit (hd : DG n cm) {k : Nat} (hk : k < n) : L_S row cm dp n (cm k) = fitk row cm dp k := by
  rw [L_S_keep hd (k := k + 1) (by omega) (Nat.le_refl _) (gn_iff.mpr ⟨k, by omega, rfl⟩), L_S_s, L_S_new hd hk]
  simp
theorem F_R_in : ∀ {k o x : Nat}, F_R row cm dp k o x = true → ∃ j, j < k ∧ x = cm j
  | 0, o, x, h => by simp [F_R] at h
  | k + 1, o, x, h => by
    rw [F_R, Bool.or_eq_true, Bool.and_eq_true, beq_iff_eq] at h
    rcases h with h | h
    · obtain ⟨j, h1, h2⟩ := F_R_in h
      exact ⟨j, by omega, h2⟩
    · exact ⟨k, by omega, h.1⟩
theorem F_R_irr (hd : DG n cm) : ∀ {k : Nat}, k ≤ n → ∀ g, F_R row cm dp k g g = false
  | 0, _, g => rfl
  | k + 1, hk, g => by
    rw [F_R, F_R_irr hd (by omega) g, Bool.false_or]
    by_cases e : g = cm k
    · subst e; rw [L_S_new hd (by omega)]; simp
    · rw [beq_false_of_ne e]; rfl
/-- counted along the comings -/
def ifc (row cm : Nat → Nat) (T : Nat → Bool) (g : Nat) : Nat → Nat
  | 0 => 0
  | k + 1 => ifc row cm T g k + (if gn cm k g && ((row (cm k) == row g) && T (cm k)) then 1 else 0)
theorem ifc_le (T : Nat → Bool) (g : Nat) : ∀ k, ifc row cm T g k ≤ k
  | 0 => Nat.le_refl 0
  | k + 1 => by rw [ifc]; have := ifc_le T g k; split <;> omega
theorem ifc_eq (hd : DG n cm) {T : Nat → Bool} {g : Nat} (hl : L_S row cm dp n g = true) (hT : ∀ x, T x = true → L_S row cm dp n x = true) : ∀ {k : Nat}, k ≤ n → ifc row cm T g k = cnt (fun x => F_R row cm dp k g x && T x) 10
  | 0, _ => by
    rw [ifc, cnt_congr (T := fun _ => false) (fun x _ => by simp [F_R])]
    rfl
  | k + 1, hk => by
    have hc := hd.2.1 k (by omega)
    have fresh : (F_R row cm dp k g (cm k) && T (cm k)) = false := by
      cases q : F_R row cm dp k g (cm k) with
      | false => rfl
      | true =>
        obtain ⟨j, h1, h2⟩ := F_R_in q
        have := hd.2.2 k j (by omega) (by omega) h2
        omega
    have hlg : L_S row cm dp k g = gn cm k g := by
      cases q : gn cm k g with
      | false => exact L_S_out hd (by omega) q
      | true => rw [← L_S_keep hd (m := n) (by omega) (Nat.le_refl _) q]; exact hl
    rw [ifc, ifc_eq hd hl hT (by omega)]
    by_cases c : (gn cm k g && ((row (cm k) == row g) && T (cm k))) = true
    · have c' := c
      simp only [Bool.and_eq_true, beq_iff_eq] at c'
      have hfit : fitk row cm dp k = true := by rw [← L_S_fit hd (by omega)]; exact hT _ c'.2.2
      rw [if_pos c, ← cnt_ins hc fresh]
      refine cnt_congr (fun x _ => ?_)
      rw [F_R, hfit, hlg, c'.1, c'.2.1]
      by_cases e : x = cm k
      · subst e; simp [c'.2.2]
      · simp [beq_false_of_ne e]
    · rw [if_neg c, Nat.add_zero]
      refine cnt_congr (fun x _ => ?_)
      rw [F_R, hlg]
      by_cases e : x = cm k
      · subst e
        simp only [beq_self_eq_true, Bool.true_and]
        cases q1 : T (cm k) with
        | false => simp
        | true =>
          cases q2 : gn cm k g with
          | false => simp
          | true =>
            have q3 : (row (cm k) == row g) = false := by
              cases q3 : (row (cm k) == row g) with
              | false => rfl
              | true => rw [q1, q2, q3] at c; simp at c
            have q4 : (row g == row (cm k)) = false := by
              rw [beq_eq_false_iff_ne] at q3 ⊢
              exact fun z => q3 z.symm
            simp [q4]
      · simp [beq_false_of_ne e]
end HL
theorem inFront_eq {N n g : Nat} {row cm : Nat → Nat} {T : Nat → Bool} {coming rowOf : Nat → Int32} (hN : 20 < N) (hd : DG n cm) (hca : CA n cm coming) (hrow : ∀ g, g < 10 → rowOf g = nI (row g) ∧ row g < 10) (hg : g < 10) : fX7_inFront N (nI n) coming rowOf (nI g) (M T) = some (nI (ifc row cm T g n)) := by
  have hn := hd.1
  unfold fX7_inFront
  have i0 : ((0 : Int32), (0 : Int32), (0 : Int32)) = (fun k => ((if gn cm k g then (1 : Int32) else 0), nI (ifc row cm T g k), nI k)) 0 := rfl
  rw [i0]
  refine lp_eq0 n (fun k => ((if gn cm k g then (1 : Int32) else 0), nI (ifc row cm T g k), nI k)) _ (by omega) (fun k hk κ => ?_) (fun κ => ?_)
  · have hc := hd.2.1 k hk
    obtain ⟨r1, r2⟩ := hrow _ hc
    obtain ⟨s1, s2⟩ := hrow _ hg
    have e62 : ∀ x : Int32, bX7_inFront_62 N (nI n) coming rowOf (nI g) (M T) κ x (nI (ifc row cm T g k)) (if gn cm k g then (1 : Int32) else 0) (nI k) (nI (cm k)) = κ ((if gn cm (k + 1) g then (1 : Int32) else 0), nI (ifc row cm T g k) + x, nI (k + 1)) := by
      intro x
      unfold bX7_inFront_62 bX7_inFront_80
      rw [nI_1, gn]
      by_cases c : gn cm k g = true
      · rw [if_pos c, if_neg (by decide), c]; rfl
      · rw [if_neg c, if_pos rfl, Bool.eq_false_iff.mpr c, Bool.false_or]
        by_cases e : g = cm k
        · subst e; rw [if_pos rfl, if_pos (by simp)]
        · rw [if_neg (by rw [nI_eq (by omega) (by omega)]; exact fun z => e z.symm), beq_false_of_ne e]; rfl
    unfold bX7_inFront_8
    simp only
    rw [if_neg (by rw [nI_leI (by omega) (by omega)]; omega), if_pos (chk_nI (by omega) (by omega)), nI_clamp (by omega), hca k hk, if_pos (chk_nI hc (by omega)), if_pos (chk_nI hg (by omega)), nI_clamp (by omega), nI_clamp (by omega), r1, s1, isIn_M hc, Option.bind_some, e62, e62, ifc]
    by_cases c : gn cm k g = true
    · rw [if_pos c, if_neg (by decide), c, Bool.true_and]
      by_cases d : row (cm k) = row g
      · rw [if_pos (by rw [d]), d, beq_self_eq_true, Bool.true_and]
        by_cases f : T (cm k) = true
        · rw [if_pos f, if_neg (by decide), if_pos f, nI_1]
        · rw [if_neg f, if_pos rfl, if_neg f, Int32.add_zero]
          rfl
      · rw [if_neg (by rw [nI_eq (by omega) (by omega)]; exact d), beq_false_of_ne d, Bool.false_and, Int32.add_zero]
        rfl
    · rw [if_neg c, if_pos rfl, Bool.eq_false_iff.mpr c, Bool.false_and, Int32.add_zero]
      rfl
  · unfold bX7_inFront_8
    simp only
    rw [if_pos (by rw [nI_leI (by omega) (by omega)]; omega)]
theorem cnt_row {row cm : Nat → Nat} {dp n k : Nat} (hd : DG n cm) (hk : k < n) (c : fitk row cm dp k = true) (r : Nat) : cnt (fun g => L_S row cm dp (k + 1) g && (row g == r)) 10 = cnt (fun g => L_S row cm dp k g && (row g == r)) 10 + (if row (cm k) = r then 1 else 0) := by
  have hc := hd.2.1 k hk
  have hnew := L_S_new (row := row) (dp := dp) hd hk
  by_cases e : row (cm k) = r
  · have h1 : cnt (fun g => L_S row cm dp (k + 1) g && (row g == r)) 10 = cnt (fun g => (L_S row cm dp k g && (row g == r)) || (g == cm k)) 10 := by
      apply cnt_congr
      intro x _
      rw [L_S_s, c]
      by_cases w : x = cm k
      · subst w; simp [e]
      · simp [beq_false_of_ne w]
    rw [h1, if_pos e]
    exact cnt_ins (S := fun g => L_S row cm dp k g && (row g == r)) hc (by show (L_S row cm dp k (cm k) && _) = false; rw [hnew]; rfl)
  · rw [if_neg e]
    show _ = cnt (fun g => L_S row cm dp k g && (row g == r)) 10
    apply cnt_congr
    intro x _
    rw [L_S_s, c]
    by_cases w : x = cm k
    · subst w; simp [beq_false_of_ne e]
    · simp [beq_false_of_ne w]
section ML
variable {N : Nat} {n : Nat → Nat} {β : Nat → Nat → Nat} {typed texts coming going worn rowOf manyIn : Nat → Int32} {comes came goes wears laid judgedNow : Int32} {row : Nat → Nat} {dp : Nat}
theorem lays_eq (hN : 20 < N) (hT : TM n β typed texts) (hrow : ∀ g, g < 10 → rowOf g = nI (row g) ∧ row g < 10) (hdp : dp ≤ 10) :
    ∃ mi : Nat → Int32, fX7_lays N typed texts comes coming came goes going wears worn rowOf (nI dp) laid judgedNow manyIn = some (nI (tC n β), fl coming (fun k => nI (β 0 k - 97)) (tC n β), M (cS n β), nI (tG n β), fl going (fun k => nI (β 1 k - 97)) (tG n β), nI (tW n β), fl worn (fun k => nI (β 2 k - 97)) (tW n β), M (L_S row (lt β 0) dp (tC n β)), J_G row (lt β 0) dp (tC n β), mi) ∧ ∀ r, r < 10 → mi r = nI (cnt (fun g => L_S row (lt β 0) dp (tC n β) g && (row g == r)) 10) := by
  have h0 := (hT 0 (by omega)).2.1
  have hd : DG (tC n β) (lt β 0) := dg_c h0
  have hn := hd.1
  have hca : CA (tC n β) (lt β 0) (fl coming (fun k => nI (β 0 k - 97)) (tC n β)) := ca_fl
  generalize hcm : lt β 0 = cm at hd hca
  generalize hco : fl coming (fun k => nI (β 0 k - 97)) (tC n β) = co at hca
  unfold fX7_lays
  rw [reads_eq hN hT, Option.bind_some, hco]
  simp only
  have second : ∀ a : Nat → Int32, (∀ r, r < 10 → a r = 0) → ∃ z, (∃ mi : Nat → Int32, z = some (nI (tC n β), co, M (cS n β), nI (tG n β), fl going (fun k => nI (β 1 k - 97)) (tG n β), nI (tW n β), fl worn (fun k => nI (β 2 k - 97)) (tW n β), M (L_S row cm dp (tC n β)), J_G row cm dp (tC n β), mi) ∧ ∀ r, r < 10 → mi r = nI (cnt (fun g => L_S row cm dp (tC n β) g && (row g == r)) 10)) ∧ lp (bX7_lays_37 N typed texts rowOf (nI dp) (nI (tC n β)) co (M (cS n β)) (nI (tG n β)) (fl going (fun k => nI (β 1 k - 97)) (tG n β)) (nI (tW n β)) (fl worn (fun k => nI (β 2 k - 97)) (tW n β))) N (0, 0, -1, a) = z := by
    intro a ha
    refine lp_for (b := bX7_lays_37 N typed texts rowOf (nI dp) (nI (tC n β)) co (M (cS n β)) (nI (tG n β)) (fl going (fun k => nI (β 1 k - 97)) (tG n β)) (nI (tW n β)) (fl worn (fun k => nI (β 2 k - 97)) (tW n β))) (tC n β) (fun k s => ∃ mi : Nat → Int32, s = (nI k, M (L_S row cm dp k), J_G row cm dp k, mi) ∧ ∀ r, r < 10 → mi r = nI (cnt (fun g => L_S row cm dp k g && (row g == r)) 10)) _
      (fun k s hk hp => ?_) (fun s hp => ?_) (k := 0) (by omega) ⟨a, by rw [show M (L_S row cm dp 0) = 0 from M_none.symm]; rfl, fun r hr => by rw [ha r hr, cnt_congr (T := fun _ => false) (fun x _ => by simp [L_S])]; rfl⟩ (by omega)
    · obtain ⟨mi, rfl, hm⟩ := hp
      have hc := hd.2.1 k hk
      obtain ⟨r1, r2⟩ := hrow _ hc
      have hcnt : cnt (fun g => L_S row cm dp k g && (row g == row (cm k))) 10 ≤ 10 := cnt_le _ _
      left
      by_cases c : fitk row cm dp k = true
      · refine ⟨_, ⟨upd mi (row (cm k)) (nI (cnt (fun g => L_S row cm dp k g && (row g == row (cm k))) 10 + 1)), rfl, fun r hr => ?_⟩, fun κ => ?_⟩
        · rw [cnt_row hd hk c]
          unfold upd
          by_cases e : r = row (cm k)
          · rw [if_pos e, e, if_pos rfl]
          · rw [if_neg e, if_neg (fun z => e z.symm), hm r hr, Nat.add_zero]
        · unfold bX7_lays_37 bX7_lays_120 nm
          simp only
          rw [if_neg (by rw [nI_leI (by omega) (by omega)]; omega), if_pos (chk_nI (by omega) (by omega)), nI_clamp (by omega), hca k hk]
          simp only [if_pos (chk_nI hc (show 10 < 2 ^ 31 by omega)), nI_clamp (show cm k < 2 ^ 31 by omega), r1, if_pos (chk_nI r2 (show 10 < 2 ^ 31 by omega)), nI_clamp (show row (cm k) < 2 ^ 31 by omega), hm _ r2]
          rw [if_neg (by rw [nI_leI (by omega) (by omega)]; have := of_decide_eq_true c; omega), M_bit _ hc, M_or, nI_1, nI_1, J_G, if_pos c]
          refine congrArg κ (Prod.ext rfl (Prod.ext (M_congr (fun x _ => ?_)) rfl))
          rw [L_S_s, c, Bool.and_true]
      · have c' : fitk row cm dp k = false := Bool.eq_false_iff.mpr c
        refine ⟨_, ⟨mi, rfl, fun r hr => ?_⟩, fun κ => ?_⟩
        · rw [hm r hr]
          exact congrArg nI (cnt_congr (fun x _ => by rw [L_S_s, c']; simp))
        · unfold bX7_lays_37 bX7_lays_117 bX7_lays_120 nm
          simp only
          rw [if_neg (by rw [nI_leI (by omega) (by omega)]; omega), if_pos (chk_nI (by omega) (by omega)), nI_clamp (by omega), hca k hk]
          simp only [if_pos (chk_nI hc (show 10 < 2 ^ 31 by omega)), nI_clamp (show cm k < 2 ^ 31 by omega), r1, if_pos (chk_nI r2 (show 10 < 2 ^ 31 by omega)), nI_clamp (show row (cm k) < 2 ^ 31 by omega), hm _ r2]
          have eM : M (L_S row cm dp (k + 1)) = M (L_S row cm dp k) := M_congr (fun x _ => by rw [L_S_s, c']; simp)
          rw [if_pos (by rw [nI_leI (by omega) (by omega)]; have := of_decide_eq_false c'; omega), nI_1, eM, J_G, if_neg c]
          by_cases d : J_G row cm dp k = -1
          · rw [if_pos d, if_pos d]
          · rw [if_neg d, if_neg d]
    · obtain ⟨mi, rfl, hm⟩ := hp
      refine ⟨_, ⟨mi, rfl, hm⟩, fun κ => ?_⟩
      unfold bX7_lays_37
      simp only
      rw [if_pos (by rw [nI_leI (by omega) (by omega)]; omega)]
  obtain ⟨z, hz, e⟩ := lp_for (b := bX7_lays_16 N typed texts rowOf (nI dp) (nI (tC n β)) co (M (cS n β)) (nI (tG n β)) (fl going (fun k => nI (β 1 k - 97)) (tG n β)) (nI (tW n β)) (fl worn (fun k => nI (β 2 k - 97)) (tW n β)) 0 (-1)) 10 (fun k s => ∃ a : Nat → Int32, s = (nI k, a) ∧ ∀ r, r < k → a r = 0) _
    (fun k s hk hp => by
      obtain ⟨a, rfl, ha⟩ := hp
      left
      refine ⟨(nI (k + 1), upd a k 0), ⟨_, rfl, fun r hr => ?_⟩, fun κ => ?_⟩
      · unfold upd
        by_cases e : r = k
        · rw [if_pos e]
        · rw [if_neg e]; exact ha r (by omega)
      · unfold bX7_lays_16
        simp only
        rw [if_neg (by rw [li10, nI_leI (by omega) (by omega)]; omega), if_pos (chk_nI hk (by omega)), nI_clamp (by omega), nI_1])
    (fun s hp => by
      obtain ⟨a, rfl, ha⟩ := hp
      obtain ⟨z, hz, e⟩ := second a ha
      refine ⟨z, hz, fun κ => ?_⟩
      unfold bX7_lays_16
      simp only
      rw [if_pos (by rw [li10, nI_leI (by omega) (by omega)]; omega)]
      exact e)
    (k := 0) (s := (0, manyIn)) (N := N) (by omega) ⟨manyIn, rfl, fun r hr => by omega⟩ (by omega)
  obtain ⟨mi, h1, h2⟩ := hz
  exact ⟨mi, by rw [e, h1], h2⟩
end ML

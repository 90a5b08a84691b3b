/-! ===== proof: class and model ===== -/
theorem cdt_lo {ga f : Nat → Nat} {la : Option Nat} {len i : Nat} (h : i < st0 la) : cdt ga f la len i = false := by
  cases la with
  | none => exact absurd h (Nat.not_lt_zero _)
  | some l =>
    have h : i < l + 1 := h
    unfold cdt
    simp [show ¬ l < i by omega]
theorem cdt_none (ga f : Nat → Nat) (len j : Nat) : cdt ga f none len j = (f j == len) := by unfold cdt; simp
theorem cdt_some {ga f : Nat → Nat} {l len j : Nat} (h : l < j) : cdt ga f (some l) len j = (decide (ga l < ga j) && (f j == len)) := by unfold cdt; simp [h]
theorem leastLetter_eq {N m len : Nat} {ga F cm : Nat → Nat} {la : Option Nat} {gt lf b : Nat → Int32} (hN : 20 < N) (hd : DG m cm) (ht : TG m cm b) (hg : ∀ i, i < m → gt i = nI (ga i) ∧ ga i < 10) (hf : ∀ i, i < m → lf i = nI (F i) ∧ F i ≤ 10) (hla : ∀ l, la = some l → l < m) (hlen : len ≤ 10) :
    fX0_leastLetterBehind N (nI m) gt lf b (nI m) (pI la) (nI len) = some (pI (pk2 (cdt ga F la len) cm m)) := by
  have hm := hd.1
  have hst : st0 la ≤ m := by
    cases la with
    | none => exact Nat.zero_le _
    | some l => exact hla l rfl
  unfold fX0_leastLetterBehind
  rw [pI_1]
  obtain ⟨z, hz, e⟩ := lp_for (b := bX0_leastLetterBehind_8 N (nI m) gt lf b (nI m) (pI la) (nI len)) m (fun j s => st0 la ≤ j ∧ s = (pI (pk2 (cdt ga F la len) cm j), nI j)) (fun z => z = some (pI (pk2 (cdt ga F la len) cm m)))
    (fun j s hj hp => by
      obtain ⟨h1, rfl⟩ := hp
      left
      refine ⟨_, ⟨by omega, rfl⟩, fun κ => ?_⟩
      obtain ⟨g1, g2⟩ := hg j hj
      obtain ⟨f1, f2⟩ := hf j hj
      have hcj := hd.2.1 j hj
      -- the inner test
      have in0 : ∀ v, bX0_leastLetterBehind_43 N (nI m) gt lf b (nI m) (pI la) (nI len) κ 0 v (nI j) = κ (v, nI (j + 1)) := by
        intro v
        unfold bX0_leastLetterBehind_43 bX0_leastLetterBehind_86
        rw [if_pos rfl, nI_1]
      have in1 : ∀ B : Bool, B = (F j == len) → bX0_leastLetterBehind_43 N (nI m) gt lf b (nI m) (pI la) (nI len) κ 1 (pI (pk2 (cdt ga F la len) cm j)) (nI j) = κ (pI (if B then (match pk2 (cdt ga F la len) cm j with
            | none => some j
            | some b => if cm b ≤ cm j then some b else some j) else pk2 (cdt ga F la len) cm j), nI (j + 1)) := by
        intro B hB
        unfold bX0_leastLetterBehind_43 bX0_leastLetterBehind_86
        rw [if_neg (by decide), if_pos (chk_nI (by omega) (by omega)), nI_clamp (by omega), f1, nI_1]
        by_cases c : F j = len
        · rw [if_pos (by rw [c]), hB, c, beq_self_eq_true, if_pos rfl]
          cases q : pk2 (cdt ga F la len) cm j with
          | none => rw [show pI none = -1 from rfl, if_pos rfl]; rfl
          | some x =>
            have hx := (pk2_some q).1
            have hcx := hd.2.1 x (by omega)
            rw [show pI (some x) = nI x from rfl, if_neg (m1_ne (by omega)), guestAt_eq hd ht hj, Option.bind_some, guestAt_eq hd ht (show x < m by omega), Option.bind_some]
            by_cases d : cm x ≤ cm j
            · rw [if_pos (by rw [nI_leI (by omega) (by omega)]; exact d)]
              simp only [if_pos d]; rfl
            · rw [if_neg (by rw [nI_leI (by omega) (by omega)]; exact d)]
              simp only [if_neg d]; rfl
        · rw [if_neg (by rw [nI_eq (by omega) (by omega)]; exact c), hB, beq_false_of_ne c, if_neg (by decide)]
      unfold bX0_leastLetterBehind_8
      simp only
      rw [if_neg (by rw [nI_leI (by omega) (by omega)]; omega), pk2]
      cases hq : la with
      | none =>
        rw [hq] at in0 in1
        rw [show pI none = -1 from rfl] at *
        rw [if_pos rfl, in1 _ rfl, cdt_none]
        rfl
      | some l =>
        rw [hq] at in0 in1 h1
        have hl : l < m := hla l hq
        have hlj : l < j := h1
        obtain ⟨g3, g4⟩ := hg l hl
        rw [show pI (some l) = nI l from rfl] at *
        rw [if_neg (m1_ne (by omega)), if_pos (chk_nI (by omega) (by omega)), if_pos (chk_nI (by omega) (by omega)), nI_clamp (by omega), nI_clamp (by omega), g1, g3, cdt_some hlj]
        by_cases c : ga j ≤ ga l
        · rw [if_pos (by rw [nI_leI (by omega) (by omega)]; exact c), in0, show decide (ga l < ga j) = false by simp; omega, Bool.false_and, if_neg (by decide)]
        · rw [if_neg (by rw [nI_leI (by omega) (by omega)]; exact c), in1 _ rfl, show decide (ga l < ga j) = true by simp; omega, Bool.true_and]
          rfl)
    (fun s hp => by
      obtain ⟨h1, rfl⟩ := hp
      refine ⟨_, rfl, fun κ => ?_⟩
      unfold bX0_leastLetterBehind_8
      simp only
      rw [if_pos (by rw [nI_leI (by omega) (by omega)]; omega)])
    (k := st0 la) (s := (-1, nI (st0 la))) (N := N) hst ⟨Nat.le_refl _, by rw [pk2_no (fun i hi => cdt_lo hi)]; rfl⟩ (by omega)
  rw [e, hz]
theorem findProof_eq {N m : Nat} {ga cm : Nat → Nat} {gt pr lf b : Nat → Int32} (hN : 20 < N) (hd : DG m cm) (ht : TG m cm b) (hg : ∀ i, i < m → gt i = nI (ga i) ∧ ga i < 10) :
    ∃ pr' lf' : Nat → Int32, fX0_findProof N (nI m) gt pr lf b (nI m) = some (nI (mst ga m m), pr', lf') ∧ ∀ i, i < mst ga m m → pr' i = nI (cm ((pq ga (chs ga m m) cm m (mst ga m m) (i + 1)).getD 0)) := by
  have hm := hd.1
  have hml := mst_le (ga := ga) (m := m) m
  -- the last loop
  have last : ∀ lf : Nat → Int32, (∀ i, i < m → lf i = nI (chs ga m m i)) → ∃ z, (∃ pr' lf' : Nat → Int32, z = some (nI (mst ga m m), pr', lf') ∧ ∀ i, i < mst ga m m → pr' i = nI (cm ((pq ga (chs ga m m) cm m (mst ga m m) (i + 1)).getD 0))) ∧ lp (bX0_findProof_102 N (nI m) gt b (nI m) (nI (mst ga m m)) lf) N (-1, 0, pr) = z := by
    intro lf hlf
    refine lp_for (b := bX0_findProof_102 N (nI m) gt b (nI m) (nI (mst ga m m)) lf) (mst ga m m) (fun q s => ∃ pr' : Nat → Int32, s = (pI (pq ga (chs ga m m) cm m (mst ga m m) q), nI q, pr') ∧ ∀ i, i < q → pr' i = nI (cm ((pq ga (chs ga m m) cm m (mst ga m m) (i + 1)).getD 0))) _
      (fun q s hq hp => ?_) (fun s hp => ?_) (k := 0) (by omega) ⟨pr, rfl, fun i hi => by omega⟩ (by omega)
    · obtain ⟨pr', rfl, h1⟩ := hp
      left
      obtain ⟨j, j1, j2, j3⟩ := pq_ok (ga := ga) (cm := cm) hq
      refine ⟨(pI (pq ga (chs ga m m) cm m (mst ga m m) (q + 1)), nI (q + 1), upd pr' q (nI (cm j))), ⟨_, rfl, fun i hi => ?_⟩, fun κ => ?_⟩
      · unfold upd
        by_cases c : i = q
        · rw [if_pos c, c, j1]; rfl
        · rw [if_neg c]; exact h1 i (by omega)
      · unfold bX0_findProof_102
        simp only
        rw [if_neg (by rw [nI_leI (by omega) (by omega)]; omega), pk_sub (show q ≤ mst ga m m by omega), leastLetter_eq (ga := ga) (F := chs ga m m) (cm := cm) (la := pq ga (chs ga m m) cm m (mst ga m m) q) hN hd ht hg (fun i hi => ⟨hlf i hi, by have := chs_le (ga := ga) (m := m) m i; omega⟩) (fun l hl => ?_) (by omega), Option.bind_some]
        · have e1 : pk2 (cdt ga (chs ga m m) (pq ga (chs ga m m) cm m (mst ga m m) q) (mst ga m m - q)) cm m = some j := j1
          rw [e1, j1, show pI (some j) = nI j from rfl, guestAt_eq hd ht j2, Option.bind_some, if_pos (chk_nI (by omega) (by omega)), nI_clamp (by omega), nI_1]
        · cases q with
          | zero => cases hl
          | succ q => exact (pk2_some hl).1
    · obtain ⟨pr', rfl, h1⟩ := hp
      refine ⟨_, ⟨pr', lf, rfl, h1⟩, fun κ => ?_⟩
      unfold bX0_findProof_102
      simp only
      rw [if_pos (by rw [nI_leI (by omega) (by omega)]; omega)]
  unfold fX0_findProof
  rw [dn_0]
  obtain ⟨z, hz, e⟩ := lp_for (b := bX0_findProof_9 N (nI m) gt b (nI m) pr) m (fun d s => ∃ lf : Nat → Int32, s = (nI (mst ga m d), dn m d, lf) ∧ ∀ i, m - d ≤ i → i < m → lf i = nI (chs ga m d i))
    (fun z => ∃ pr' lf' : Nat → Int32, z = some (nI (mst ga m m), pr', lf') ∧ ∀ i, i < mst ga m m → pr' i = nI (cm ((pq ga (chs ga m m) cm m (mst ga m m) (i + 1)).getD 0)))
    (fun d s hk hp => by
      obtain ⟨lf, rfl, h1⟩ := hp
      left
      have hmd := mst_le (ga := ga) (m := m) d
      obtain ⟨k, hkk⟩ : ∃ k, k = m - 1 - d := ⟨_, rfl⟩
      obtain ⟨gk1, gk2⟩ := hg k (by omega)
      have mx10 : ∀ j, mxc ga (chs ga m d) k j ≤ d + 1 := mxc_le (chs_le d)
      have inner : ∀ κ, ∃ z, (z = κ (nI (mst ga m (d + 1)), dn m (d + 1), upd lf k (nI (chs ga m (d + 1) k)))) ∧ lp (bX0_findProof_25 N (nI m) gt b (nI m) pr κ (nI (mst ga m d)) (nI k)) N (nI (k + 1), upd lf k 1) = z := by
        intro κ
        refine lp_for (b := bX0_findProof_25 N (nI m) gt b (nI m) pr κ (nI (mst ga m d)) (nI k)) d (fun j s => s = (nI (k + 1 + j), upd lf k (nI (mxc ga (chs ga m d) k j)))) _
          (fun j s hj hp => ?_) (fun s hp => ?_) (k := 0) (by omega) rfl (by omega)
        · subst hp
          left
          obtain ⟨g1, g2⟩ := hg (k + 1 + j) (by omega)
          have hlj := h1 (k + 1 + j) (by omega) (by omega)
          have hcl := chs_le (ga := ga) (m := m) d (k + 1 + j)
          have hmj := mx10 j
          refine ⟨(nI (k + 1 + (j + 1)), upd lf k (nI (mxc ga (chs ga m d) k (j + 1)))), rfl, fun κ2 => ?_⟩
          have uu : ∀ a b : Int32, upd (upd lf k a) k b = upd lf k b := fun a b => by funext x; unfold upd; by_cases e : x = k <;> simp [e]
          unfold bX0_findProof_25 bX0_findProof_74 nm
          simp only
          rw [if_neg (by rw [nI_leI (by omega) (by omega)]; omega), if_pos (chk_nI (by omega) (by omega)), if_pos (chk_nI (by omega) (by omega)), nI_clamp (by omega), nI_clamp (by omega), g1, gk1, if_pos (chk_nI (by omega) (by omega)), if_pos (chk_nI (by omega) (by omega)), if_pos (chk_nI (by omega) (by omega)), pk_us, pk_un (by omega), hlj, nI_1, nI_1, uu, mxc, show k + 1 + j + 1 = k + 1 + (j + 1) from rfl]
          by_cases c : ga (k + 1 + j) ≤ ga k
          · rw [if_pos (by rw [nI_leI (by omega) (by omega)]; exact c), if_neg (fun z => by omega)]
          · rw [if_neg (by rw [nI_leI (by omega) (by omega)]; exact c), ite_max _ _ _ (nI_ltI (by omega) (by omega))]
            by_cases c2 : mxc ga (chs ga m d) k j < chs ga m d (k + 1 + j) + 1
            · rw [if_pos c2, if_pos ⟨by omega, c2⟩]
            · rw [if_neg c2, if_neg (fun z => c2 z.2)]
        · subst hp
          refine ⟨_, rfl, fun κ2 => ?_⟩
          have hcc : chs ga m (d + 1) k = mxc ga (chs ga m d) k d := by rw [chs, ← hkk, if_pos rfl]
          have hmj := mx10 d
          unfold bX0_findProof_25 nm
          simp only
          rw [if_pos (by rw [nI_leI (by omega) (by omega)]; omega), if_pos (chk_nI (by omega) (by omega)), nI_clamp (by omega), pk_us, mst, ← hkk, hcc, ite_max _ _ _ (nI_ltI (by omega) (by omega)), ← dn_s hk, dn_in hk, hkk]
      refine ⟨(nI (mst ga m (d + 1)), dn m (d + 1), upd lf k (nI (chs ga m (d + 1) k))), ⟨_, rfl, fun i hi hi2 => ?_⟩, fun κ => ?_⟩
      · unfold upd
        by_cases c : i = k
        · rw [if_pos c, c]
        · rw [if_neg c, h1 i (by omega) hi2, chs, if_neg (by omega)]
      · obtain ⟨z, hz, e⟩ := inner κ
        unfold bX0_findProof_9
        simp only
        rw [dn_in hk, ← hkk, if_neg (nI_pos (by omega)), if_pos (chk_nI (by omega) (by omega)), nI_clamp (by omega), nI_1, e, hz])
    (fun s hp => by
      obtain ⟨lf, rfl, h1⟩ := hp
      obtain ⟨z, hz, e⟩ := last lf (fun i hi => h1 i (by omega) hi)
      refine ⟨z, hz, fun κ => ?_⟩
      unfold bX0_findProof_9
      simp only
      rw [dn_e, if_pos m1_lt]
      exact e)
    (k := 0) (s := (0, dn m 0, lf)) (N := N) (by omega) ⟨lf, rfl, fun i h h2 => by omega⟩ (by omega)
  obtain ⟨pr', lf', a1, a2⟩ := hz
  exact ⟨pr', lf', by rw [e, a1], a2⟩
def aProof (n : Nat → Nat) (β : Nat → Nat → Nat) (p : Int32) : Int32 := if p = -1 then nI (mst (gA n β) (tC n β) (tC n β)) else if 0 ≤ p ∧ p ≤ 9 then (if Int32.toNatClampNeg p < mst (gA n β) (tC n β) (tC n β) then nI (lt β 0 ((pq (gA n β) (chs (gA n β) (tC n β) (tC n β)) (lt β 0) (tC n β) (mst (gA n β) (tC n β) (tC n β)) (Int32.toNatClampNeg p + 1)).getD 0)) else -1) else -2
theorem proof6 {N : Nat} {n : Nat → Nat} {β : Nat → Nat → Nat} {many z : Int32} {gt lft pr lf b : Nat → Int32} (hN : 20 < N) (h0 : n 0 ≤ 10) (h1 : n 1 ≤ 10) (hX : TX n β 0 b z) (hG : RG n β many gt lft) (p : Int32) : ∃ R, fX6_proof N b (nI (tC n β)) many gt pr lf p = some R ∧ R.1 = aProof n β p := by
  obtain ⟨rfl, g1, -⟩ := hG
  have hd := dg_c (β := β) h0
  have g0 : TG (tC n β) (lt β 0) b := tx_tg hX tC_le (fun k hk => c_ok h0 hk)
  have hml := mst_le (ga := gA n β) (m := tC n β) (tC n β)
  have hm := hd.1
  obtain ⟨pr', lf', e1, e2⟩ := findProof_eq (N := N) (m := tC n β) (ga := gA n β) (cm := lt β 0) (gt := gt) (pr := pr) (lf := lf) (b := b) hN hd g0 (fun i hi => ⟨g1 i hi, by have := gA_lt (β := β) h0 h1 hi; omega⟩)
  unfold fX6_proof aProof
  rw [within_eq, Option.bind_some]
  by_cases h : p = -1 ∨ (0 ≤ p ∧ p ≤ 9)
  · rw [if_pos ((in19 p).mpr h), if_neg (by decide), e1, Option.bind_some]
    simp only
    by_cases h2 : p = -1
    · rw [if_pos h2, if_pos h2]; exact ⟨_, rfl, rfl⟩
    · have h3 : 0 ≤ p ∧ p ≤ 9 := by rcases h with h | h; exact absurd h h2; exact h
      obtain ⟨g, q1, rfl⟩ := ncase (m := 9) (by decide) h3
      rw [if_neg h2, if_neg h2, if_pos h3, nI_clamp (by omega)]
      by_cases c : g < mst (gA n β) (tC n β) (tC n β)
      · rw [if_neg (by rw [nI_leI (by omega) (by omega)]; omega), if_pos (chk_nI (by omega) (by omega)), if_pos c, e2 g c]
        exact ⟨_, rfl, rfl⟩
      · rw [if_pos (by rw [nI_leI (by omega) (by omega)]; omega), if_neg c]
        exact ⟨_, rfl, rfl⟩
  · rw [if_neg (fun z => h ((in19 p).mp z)), if_pos rfl, if_neg (fun z => h (Or.inl z)), if_neg (fun z => h (Or.inr z))]
    exact ⟨_, rfl, rfl⟩

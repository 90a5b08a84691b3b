/-! ===== proof: model ===== -/
theorem proofOf_pick {N m q : Nat} {ga F cm : Nat → Nat} {la : Option Nat} {most : Nat} {typed texts coming going worn w ch : Nat → Int32} {came goes wears p1 : Int32} (hN : 20 < N) (hm : m ≤ 10) (hg : ∀ i, i < m → coming i = nI (cm i) ∧ cm i < 10 ∧ w (cm i) = nI (ga i) ∧ ga i < 10) (hf : ∀ i, i < m → ch i = nI (F i) ∧ F i ≤ 10) (hla : ∀ l, la = some l → l < m) (hmo : most ≤ 10) (hq : q < most) (κ7) :
    lp (bX7_proofOf_191 N typed texts p1 (nI most) (nI m) coming came goes going wears worn w ch κ7 (pI la) (nI q)) N (-1, pI la + 1) = κ7 (pI (pk2 (cdt ga F la (most - q)) cm m), nI (q + 1)) := by
  have hst : st0 la ≤ m := by
    cases la with
    | none => exact Nat.zero_le _
    | some l => exact hla l rfl
  rw [pI_1]
  obtain ⟨z, hz, e⟩ := lp_for (b := bX7_proofOf_191 N typed texts p1 (nI most) (nI m) coming came goes going wears worn w ch κ7 (pI la) (nI q)) m (fun j s => st0 la ≤ j ∧ s = (pI (pk2 (cdt ga F la (most - q)) cm j), nI j)) (fun z => z = κ7 (pI (pk2 (cdt ga F la (most - q)) cm m), nI (q + 1)))
    (fun j s hj hp => by
      obtain ⟨h1, rfl⟩ := hp
      left
      refine ⟨_, ⟨by omega, rfl⟩, fun κ => ?_⟩
      obtain ⟨c1, c2, g1, g2⟩ := hg j hj
      obtain ⟨f1, f2⟩ := hf j hj
      have in0 : ∀ v, bX7_proofOf_250 N typed texts p1 (nI most) (nI m) coming came goes going wears worn w ch (pI la) (nI q) κ7 κ 0 v (nI j) = κ (v, nI (j + 1)) := by
        intro v
        unfold bX7_proofOf_250 bX7_proofOf_287
        rw [if_pos rfl, nI_1]
      have in1 : bX7_proofOf_250 N typed texts p1 (nI most) (nI m) coming came goes going wears worn w ch (pI la) (nI q) κ7 κ 1 (pI (pk2 (cdt ga F la (most - q)) cm j)) (nI j) = κ (pI (match pk2 (cdt ga F la (most - q)) cm j with
            | none => some j
            | some b => if cm b ≤ cm j then some b else some j), nI (j + 1)) := by
        unfold bX7_proofOf_250 bX7_proofOf_287
        rw [if_neg (by decide), nI_1]
        cases q : pk2 (cdt ga F la (most - q)) cm j with
        | none => rw [show pI none = -1 from rfl, if_pos rfl]; rfl
        | some x =>
          have hx := (pk2_some q).1
          obtain ⟨x1, x2, -, -⟩ := hg x (by omega)
          rw [show pI (some x) = nI x from rfl, if_neg (m1_ne (by omega)), if_pos (chk_nI (by omega) (by omega)), if_pos (chk_nI (by omega) (by omega)), nI_clamp (by omega), nI_clamp (by omega), c1, x1]
          by_cases d : cm x ≤ cm j
          · rw [if_pos (by rw [nI_leI (by omega) (by omega)]; exact d)]
            simp only [if_pos d]; rfl
          · rw [if_neg (by rw [nI_leI (by omega) (by omega)]; exact d)]
            simp only [if_neg d]; rfl
      unfold bX7_proofOf_191
      simp only
      rw [if_neg (by rw [nI_leI (by omega) (by omega)]; omega), if_pos (chk_nI (by omega) (by omega)), nI_clamp (by omega), f1, pk_sub (show q ≤ most by omega), pk2]
      by_cases cf : F j = most - q
      · rw [if_pos (by rw [cf])]
        cases hq : la with
        | none =>
          rw [hq] at in0 in1
          rw [show pI none = -1 from rfl] at *
          rw [if_pos rfl, in1, cdt_none, cf, beq_self_eq_true, if_pos rfl]
          rfl
        | some l =>
          rw [hq] at in0 in1 h1
          have hl : l < m := hla l hq
          have hlj : l < j := h1
          obtain ⟨l1, l2, l3, l4⟩ := hg l hl
          rw [show pI (some l) = nI l from rfl] at *
          rw [if_neg (m1_ne (by omega)), if_pos (chk_nI (by omega) (by omega)), c1, if_pos (chk_nI (by omega) (by omega)), if_pos (chk_nI (by omega) (by omega)), nI_clamp (show l < 2 ^ 31 by omega), l1, if_pos (chk_nI (by omega) (by omega)), nI_clamp (by omega), nI_clamp (by omega), g1, l3, cdt_some hlj, cf, beq_self_eq_true, Bool.and_true]
          by_cases c : ga j ≤ ga l
          · rw [if_pos (by rw [nI_leI (by omega) (by omega)]; exact c), in0, show decide (ga l < ga j) = false by simp; omega, if_neg (by decide)]
          · rw [if_neg (by rw [nI_leI (by omega) (by omega)]; exact c), in1, show decide (ga l < ga j) = true by simp; omega, if_pos rfl]
            rfl
      · rw [if_neg (by rw [nI_eq (by omega) (by omega)]; exact cf), in0, show cdt ga F la (most - q) j = false by unfold cdt; rw [beq_false_of_ne cf, Bool.and_false], if_neg (by decide)])
    (fun s hp => by
      obtain ⟨h1, rfl⟩ := hp
      refine ⟨_, rfl, fun κ => ?_⟩
      unfold bX7_proofOf_191
      simp only
      rw [if_pos (by rw [nI_leI (by omega) (by omega)]; omega), nI_1])
    (k := st0 la) (s := (-1, nI (st0 la))) (N := N) hst ⟨Nat.le_refl _, by rw [pk2_no (fun i hi => cdt_lo hi)]; rfl⟩ (by omega)
  rw [e, hz]
def prA (ga cm : Nat → Nat) (m : Nat) (p : Int32) : Int32 := if p = -1 then nI (mst ga m m) else (if Int32.toNatClampNeg p < mst ga m m then nI (cm ((pq ga (chs ga m m) cm m (mst ga m m) (Int32.toNatClampNeg p + 1)).getD 0)) else -1)
theorem proofOf_loop {N m : Nat} {ga cm : Nat → Nat} {typed texts coming going worn w ch : Nat → Int32} {came goes wears p1 : Int32} (hN : 20 < N) (hm : m ≤ 10) (hg : ∀ i, i < m → coming i = nI (cm i) ∧ cm i < 10 ∧ w (cm i) = nI (ga i) ∧ ga i < 10) (hp1 : p1 = -1 ∨ (0 ≤ p1 ∧ p1 ≤ 9)) :
    ∃ R, lp (bX7_proofOf_13 N typed texts p1 (nI m) coming came goes going wears worn w) N (0, dn m 0, ch) = some R ∧ R.1 = prA ga cm m p1 := by
  have hml := mst_le (ga := ga) (m := m) m
  -- what comes behind the chains
  have last : ∀ ch : Nat → Int32, (∀ i, i < m → ch i = nI (chs ga m m i)) → ∃ R, (if p1 = (-1 : Int32) then bX7_proofOf_161 N typed texts p1 (nI (mst ga m m)) (nI m) coming came goes going wears worn w ch else (if p1 < nI (mst ga m m) then lp (bX7_proofOf_177 N typed texts p1 (nI (mst ga m m)) (nI m) coming came goes going wears worn w ch) N ((-1 : Int32), (0 : Int32)) else bX7_proofOf_161 N typed texts p1 (nI (mst ga m m)) (nI m) coming came goes going wears worn w ch)) = some R ∧ R.1 = prA ga cm m p1 := by
    intro ch hch
    unfold prA
    by_cases h : p1 = -1
    · unfold bX7_proofOf_161
      rw [if_pos h, if_pos h, if_pos h]
      exact ⟨_, rfl, rfl⟩
    · have h3 : 0 ≤ p1 ∧ p1 ≤ 9 := by rcases hp1 with z | z; exact absurd z h; exact z
      rw [if_neg h, if_neg h]
      obtain ⟨g, q1, rfl⟩ := ncase (m := 9) (by decide) h3
      rw [nI_clamp (by omega)]
      by_cases c : g < mst ga m m
      · rw [if_pos (by rw [nI_ltI (by omega) (by omega)]; exact c), if_pos c]
        obtain ⟨z, hz, e⟩ := lp_for (b := bX7_proofOf_177 N typed texts (nI g) (nI (mst ga m m)) (nI m) coming came goes going wears worn w ch) (g + 1) (fun q s => s = (pI (pq ga (chs ga m m) cm m (mst ga m m) q), nI q)) (fun z => ∃ R, z = some R ∧ R.1 = nI (cm ((pq ga (chs ga m m) cm m (mst ga m m) (g + 1)).getD 0)))
          (fun q s hq hp => by
            subst hp
            left
            refine ⟨_, rfl, fun κ => ?_⟩
            unfold bX7_proofOf_177
            simp only
            rw [if_neg (by rw [nI_ltI (by omega) (by omega)]; omega), proofOf_pick (ga := ga) (F := chs ga m m) (cm := cm) (la := pq ga (chs ga m m) cm m (mst ga m m) q) hN hm hg (fun i hi => ⟨hch i hi, by have := chs_le (ga := ga) (m := m) m i; omega⟩) (fun l hl => ?_) (by omega) (by omega)]
            · rfl
            · cases q with
              | zero => cases hl
              | succ q => exact (pk2_some hl).1)
          (fun s hp => by
            subst hp
            obtain ⟨j, j1, j2, j3⟩ := pq_ok (ga := ga) (cm := cm) c
            obtain ⟨c1, -, -, -⟩ := hg j j2
            refine ⟨some (nI (cm j), nI m, coming, came, goes, going, wears, worn, w, ch), ⟨_, rfl, by rw [j1]; rfl⟩, fun κ => ?_⟩
            unfold bX7_proofOf_177
            simp only
            rw [if_pos (by rw [nI_ltI (by omega) (by omega)]; omega), j1, show pI (some j) = nI j from rfl, if_pos (chk_nI (by omega) (by omega)), nI_clamp (by omega), c1])
          (k := 0) (s := (-1, 0)) (N := N) (by omega) rfl (by omega)
        obtain ⟨R, e2, e3⟩ := hz
        exact ⟨R, by rw [e, e2], e3⟩
      · unfold bX7_proofOf_161
        rw [if_neg (by rw [nI_ltI (by omega) (by omega)]; exact c), if_neg c, if_neg h]
        exact ⟨_, rfl, rfl⟩
  obtain ⟨z, hz, e⟩ := lp_for (b := bX7_proofOf_13 N typed texts p1 (nI m) coming came goes going wears worn w) m (fun d s => ∃ lf : Nat → Int32, s = (nI (mst ga m d), dn m d, lf) ∧ ∀ i, m - d ≤ i → i < m → lf i = nI (chs ga m d i))
    (fun z => ∃ R, z = some R ∧ R.1 = prA ga cm m p1)
    (fun d s hk hp => by
      obtain ⟨lf, rfl, h1⟩ := hp
      left
      have hmd := mst_le (ga := ga) (m := m) d
      obtain ⟨k, hkk⟩ : ∃ k, k = m - 1 - d := ⟨_, rfl⟩
      obtain ⟨ck1, ck2, gk1, gk2⟩ := hg k (by omega)
      have mx10 : ∀ j, mxc ga (chs ga m d) k j ≤ d + 1 := mxc_le (chs_le d)
      have inner : ∀ κ, ∃ z, (z = κ (nI (mst ga m (d + 1)), dn m (d + 1), upd lf k (nI (chs ga m (d + 1) k)))) ∧ lp (bX7_proofOf_29 N typed texts p1 (nI m) coming came goes going wears worn w κ (nI (mst ga m d)) (nI k)) N (nI (k + 1), upd lf k 1) = z := by
        intro κ
        refine lp_for (b := bX7_proofOf_29 N typed texts p1 (nI m) coming came goes going wears worn w κ (nI (mst ga m d)) (nI k)) d (fun j s => s = (nI (k + 1 + j), upd lf k (nI (mxc ga (chs ga m d) k j)))) _
          (fun j s hj hp => ?_) (fun s hp => ?_) (k := 0) (by omega) rfl (by omega)
        · subst hp
          left
          obtain ⟨c1, c2, g1, g2⟩ := hg (k + 1 + j) (by omega)
          have hlj := h1 (k + 1 + j) (by omega) (by omega)
          have hcl := chs_le (ga := ga) (m := m) d (k + 1 + j)
          have hmj := mx10 j
          refine ⟨(nI (k + 1 + (j + 1)), upd lf k (nI (mxc ga (chs ga m d) k (j + 1)))), rfl, fun κ2 => ?_⟩
          have uu : ∀ a b : Int32, upd (upd lf k a) k b = upd lf k b := fun a b => by funext x; unfold upd; by_cases e : x = k <;> simp [e]
          have b0 : bX7_proofOf_87 N typed texts p1 (nI m) coming came goes going wears worn w (nI (mst ga m d)) (nI k) κ κ2 0 (nI (k + 1 + j)) (upd lf k (nI (mxc ga (chs ga m d) k j))) = κ2 (nI (k + 1 + (j + 1)), upd lf k (nI (mxc ga (chs ga m d) k j))) := by
            unfold bX7_proofOf_87 bX7_proofOf_117
            rw [if_pos rfl, if_pos (chk_nI (by omega) (by omega)), if_pos (chk_nI (by omega) (by omega)), nI_clamp (by omega), pk_us, uu, nI_1]
            rfl
          have b1 : bX7_proofOf_87 N typed texts p1 (nI m) coming came goes going wears worn w (nI (mst ga m d)) (nI k) κ κ2 1 (nI (k + 1 + j)) (upd lf k (nI (mxc ga (chs ga m d) k j))) = κ2 (nI (k + 1 + (j + 1)), upd lf k (nI (chs ga m d (k + 1 + j) + 1))) := by
            unfold bX7_proofOf_87 bX7_proofOf_117
            rw [if_neg (by decide), if_pos (chk_nI (by omega) (by omega)), if_pos (chk_nI (by omega) (by omega)), nI_clamp (by omega), nI_clamp (by omega), pk_un (by omega), hlj, uu, nI_1, nI_1]
            rfl
          unfold bX7_proofOf_29
          simp only
          rw [if_neg (by rw [nI_leI (by omega) (by omega)]; omega), if_pos (chk_nI (by omega) (by omega)), nI_clamp (show k + 1 + j < 2 ^ 31 by omega), c1, if_pos (chk_nI (by omega) (by omega)), if_pos (chk_nI (by omega) (by omega)), nI_clamp (show k < 2 ^ 31 by omega), ck1, if_pos (chk_nI (by omega) (by omega)), nI_clamp (by omega), nI_clamp (by omega), g1, gk1, b0, b1, if_pos (chk_nI (by omega) (by omega)), if_pos (chk_nI (by omega) (by omega)), pk_us, pk_un (by omega), hlj, nI_1, mxc]
          by_cases c : ga (k + 1 + j) ≤ ga k
          · rw [if_pos (by rw [nI_leI (by omega) (by omega)]; exact c), if_neg (fun z => by omega)]
          · rw [if_neg (by rw [nI_leI (by omega) (by omega)]; exact c)]
            by_cases c2 : mxc ga (chs ga m d) k j < chs ga m d (k + 1 + j) + 1
            · rw [if_neg (by rw [nI_leI (by omega) (by omega)]; omega), if_pos ⟨by omega, c2⟩]
            · rw [if_pos (by rw [nI_leI (by omega) (by omega)]; omega), if_neg (fun z => c2 z.2)]
        · subst hp
          refine ⟨_, rfl, fun κ2 => ?_⟩
          have hcc : chs ga m (d + 1) k = mxc ga (chs ga m d) k d := by rw [chs, ← hkk, if_pos rfl]
          have hmj := mx10 d
          unfold bX7_proofOf_29 bX7_proofOf_144
          simp only
          rw [if_pos (by rw [nI_leI (by omega) (by omega)]; omega), if_pos (chk_nI (by omega) (by omega)), if_pos (chk_nI (by omega) (by omega)), nI_clamp (by omega), pk_us, mst, ← hkk, hcc, ← dn_s hk, dn_in hk, ← hkk]
          by_cases c : mst ga m d < mxc ga (chs ga m d) k d
          · rw [if_neg (by rw [nI_leI (by omega) (by omega)]; omega), if_pos c]
          · rw [if_pos (by rw [nI_leI (by omega) (by omega)]; omega), if_neg c]
      refine ⟨(nI (mst ga m (d + 1)), dn m (d + 1), upd lf k (nI (chs ga m (d + 1) k))), ⟨_, rfl, fun i hi hi2 => ?_⟩, fun κ => ?_⟩
      · unfold upd
        by_cases c : i = k
        · rw [if_pos c, c]
        · rw [if_neg c, h1 i (by omega) hi2, chs, if_neg (by omega)]
      · obtain ⟨z, hz, e⟩ := inner κ
        unfold bX7_proofOf_13
        simp only
        rw [dn_in hk, ← hkk, if_neg (nI_pos (by omega)), if_pos (chk_nI (by omega) (by omega)), nI_clamp (by omega), nI_1, e, hz])
    (fun s hp => by
      obtain ⟨lf, rfl, h1⟩ := hp
      obtain ⟨R, e1, e2⟩ := last lf (fun i hi => h1 i (by omega) hi)
      refine ⟨some R, ⟨R, rfl, e2⟩, fun κ => ?_⟩
      unfold bX7_proofOf_13
      simp only
      rw [dn_e, if_pos m1_lt]
      exact e1)
    (k := 0) (s := (0, dn m 0, ch)) (N := N) (by omega) ⟨ch, rfl, fun i h h2 => by omega⟩ (by omega)
  obtain ⟨R, a1, a2⟩ := hz
  exact ⟨R, by rw [e, a1], a2⟩
theorem proofOf7 {N : Nat} {n : Nat → Nat} {β : Nat → Nat → Nat} {typed texts coming going worn whens ch : Nat → Int32} {comes came goes wears : Int32} (hN : 20 < N) (hT : TM n β typed texts) (p : Int32) (hp : p = -1 ∨ (0 ≤ p ∧ p ≤ 9)) : ∃ R, fX7_proofOf N typed texts comes coming came goes going wears worn whens ch p = some R ∧ R.1 = aProof n β p := by
  have h0 := (hT 0 (by omega)).2.1
  have h1 := (hT 1 (by omega)).2.1
  obtain ⟨w, e1, e2⟩ := goesEach7 (N := N) (comes := comes) (coming := coming) (came := came) (goes := goes) (going := going) (wears := wears) (worn := worn) (whens := whens) hN hT
  have hok := gA_ok (β := β) (coming := coming) h0 h1 e2 (Nat.le_refl _)
  have hm := (dg_c (β := β) h0).1
  unfold fX7_proofOf
  rw [e1, Option.bind_some]
  simp only
  rw [dn_0]
  obtain ⟨R, a1, a2⟩ := proofOf_loop (N := N) (m := tC n β) (ga := gA n β) (cm := lt β 0) (typed := typed) (texts := texts) (coming := fl coming (fun k => nI (β 0 k - 97)) (tC n β)) (going := fl going (fun k => nI (β 1 k - 97)) (tG n β)) (worn := fl worn (fun k => nI (β 2 k - 97)) (tW n β)) (w := w) (ch := ch) (came := M (cS n β)) (goes := nI (tG n β)) (wears := nI (tW n β)) (p1 := p) hN hm hok hp
  refine ⟨R, a1, a2.trans ?_⟩
  unfold aProof prA
  by_cases h : p = -1
  · rw [if_pos h, if_pos h]
  · have h3 : 0 ≤ p ∧ p ≤ 9 := by rcases hp with z | z; exact absurd z h; exact z
    rw [if_neg h, if_neg h, if_pos h3]
theorem proof7 {N : Nat} {n : Nat → Nat} {β : Nat → Nat → Nat} {typed texts coming going worn whens ch : Nat → Int32} {comes came goes wears : Int32} (hN : 20 < N) (hT : TM n β typed texts) (p : Int32) : ∃ R, fX7_proof N typed texts comes coming came goes going wears worn whens ch p = some R ∧ R.1 = aProof n β p := by
  unfold fX7_proof
  rw [in_eq, Option.bind_some]
  by_cases h : p = -1 ∨ (0 ≤ p ∧ p ≤ 9)
  · obtain ⟨R, e1, e2⟩ := proofOf7 (N := N) (comes := comes) (coming := coming) (came := came) (goes := goes) (going := going) (wears := wears) (worn := worn) (whens := whens) (ch := ch) hN hT p h
    rw [if_pos ((in19 p).mpr h), if_neg (by decide), e1, Option.bind_some]
    exact ⟨_, rfl, e2⟩
  · rw [if_neg (fun z => h ((in19 p).mp z)), if_pos rfl]
    refine ⟨_, rfl, ?_⟩
    unfold aProof
    rw [if_neg (fun z => h (Or.inl z)), if_neg (fun z => h (Or.inr z))]

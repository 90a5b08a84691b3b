/-! ===== out: class and model ===== -/
theorem inside_eq {N k τ : Nat} {o : Nat → Nat} {outs : Nat → Int32} (hN : 20 < N) (hk : k ≤ 10) (hτ : τ ≤ 2000) (ho : ∀ i, i < k → outs i = nI (o i) ∧ o i ≤ 2000) : fX1_inside N outs (nI k) (nI τ) = some (nI (ins o k τ)) := by
  unfold fX1_inside
  refine lp_eq0 (b := bX1_inside_4 N outs (nI k) (nI τ)) k (fun j => (nI (ins o j τ), nI j)) _ (by omega) (fun j hj κ => ?_) (fun κ => ?_)
  · obtain ⟨a1, a2⟩ := ho j hj
    unfold bX1_inside_4 bX1_inside_25
    simp only
    rw [if_neg (by rw [nI_leI (by omega) (by omega)]; omega), if_pos (chk_nI (by omega) (by omega)), nI_clamp (by omega), a1, nI_1, nI_1, ins, ins, cnt]
    by_cases c : o j ≤ τ
    · rw [if_pos (by rw [nI_leI (by omega) (by omega)]; exact c), show decide (τ < o j) = false by simp; omega]; rfl
    · rw [if_neg (by rw [nI_leI (by omega) (by omega)]; exact c), show decide (τ < o j) = true by simp; omega]; rfl
  · unfold bX1_inside_4
    simp only
    rw [if_pos (by rw [nI_leI (by omega) (by omega)]; omega)]
theorem within7_eq {N k τ : Nat} {o : Nat → Nat} {outs : Nat → Int32} (hN : 20 < N) (hk : k ≤ 10) (hτ : τ ≤ 2000) (ho : ∀ i, i < k → outs i = nI (o i) ∧ o i ≤ 2000) : fX7_within N outs (nI k) (nI τ) = some (nI (ins o k τ)) := by
  unfold fX7_within
  refine lp_eq0 (b := bX7_within_5 N outs (nI k) (nI τ)) k (fun j => (nI (ins o j τ), nI j)) _ (by omega) (fun j hj κ => ?_) (fun κ => ?_)
  · obtain ⟨a1, a2⟩ := ho j hj
    unfold bX7_within_5 bX7_within_28
    simp only
    rw [if_neg (by rw [nI_leI (by omega) (by omega)]; omega), if_pos (chk_nI (by omega) (by omega)), nI_clamp (by omega), a1, nI_1, nI_1, li0, nI_add, ins, ins, cnt]
    by_cases c : o j ≤ τ
    · rw [if_pos (by rw [nI_leI (by omega) (by omega)]; exact c), show decide (τ < o j) = false by simp; omega]; rfl
    · rw [if_neg (by rw [nI_leI (by omega) (by omega)]; exact c), show decide (τ < o j) = true by simp; omega]; rfl
  · unfold bX7_within_5
    simp only
    rw [if_pos (by rw [nI_leI (by omega) (by omega)]; omega)]
theorem lastOut_eq {N k : Nat} {o : Nat → Nat} {outs : Nat → Int32} (hN : 20 < N) (hk : k ≤ 10) (ho : ∀ i, i < k → outs i = nI (o i) ∧ o i ≤ 2000) : fX1_lastOut N outs (nI k) = some (nI (lst o k)) := by
  unfold fX1_lastOut
  refine lp_eq0 (b := bX1_lastOut_4 N outs (nI k)) k (fun j => (nI (lst o j), nI j)) _ (by omega) (fun j hj κ => ?_) (fun κ => ?_)
  · obtain ⟨a1, a2⟩ := ho j hj
    have hl : lst o j ≤ 2000 := lst_le (fun i hi => (ho i (by omega)).2)
    unfold bX1_lastOut_4 nm
    simp only
    rw [if_neg (by rw [nI_leI (by omega) (by omega)]; omega), if_pos (chk_nI (by omega) (by omega)), nI_clamp (by omega), a1, nI_1, ite_max _ _ _ (nI_ltI (by omega) (by omega)), lst]
  · unfold bX1_lastOut_4
    simp only
    rw [if_pos (by rw [nI_leI (by omega) (by omega)]; omega)]
theorem nxo_le {o : Nat → Nat} {τ l B : Nat} (hl : l ≤ B) : ∀ {k : Nat}, (∀ i, i < k → o i ≤ B) → nxo o τ l k ≤ B
  | 0, _ => hl
  | k + 1, h => by
    have h1 := h k (by omega)
    have h2 := nxo_le (o := o) (τ := τ) hl (k := k) (fun i hi => h i (by omega))
    rw [nxo]
    split
    · exact h2
    · split <;> omega
theorem nextOut_eq {N k τ : Nat} {o : Nat → Nat} {outs : Nat → Int32} (hN : 20 < N) (hk : k ≤ 10) (hτ : τ ≤ 2000) (ho : ∀ i, i < k → outs i = nI (o i) ∧ o i ≤ 2000) : fX1_nextOut N outs (nI k) (nI τ) = some (nI (nxo o τ (lst o k) k)) := by
  have hl : lst o k ≤ 2000 := lst_le (fun i hi => (ho i hi).2)
  unfold fX1_nextOut
  rw [lastOut_eq hN hk ho, Option.bind_some]
  refine lp_eq0 (b := bX1_nextOut_7 N outs (nI k) (nI τ)) k (fun j => (nI (nxo o τ (lst o k) j), nI j)) _ (by omega) (fun j hj κ => ?_) (fun κ => ?_)
  · obtain ⟨a1, a2⟩ := ho j hj
    have hx : nxo o τ (lst o k) j ≤ 2000 := nxo_le hl (fun i hi => (ho i (by omega)).2)
    unfold bX1_nextOut_7 bX1_nextOut_36 nm
    simp only
    rw [if_neg (by rw [nI_leI (by omega) (by omega)]; omega), if_pos (chk_nI (by omega) (by omega)), if_pos (chk_nI (by omega) (by omega)), nI_clamp (by omega), a1, nI_1, nxo]
    by_cases c : o j ≤ τ
    · rw [if_pos (by rw [nI_leI (by omega) (by omega)]; exact c), if_pos c]
    · rw [if_neg (by rw [nI_leI (by omega) (by omega)]; exact c), if_neg c]
      by_cases d : o j < nxo o τ (lst o k) j
      · rw [if_pos (by rw [nI_ltI (by omega) (by omega)]; exact d), if_pos d]
      · rw [if_neg (by rw [nI_ltI (by omega) (by omega)]; exact d), if_neg d]
  · unfold bX1_nextOut_7
    simp only
    rw [if_pos (by rw [nI_leI (by omega) (by omega)]; omega)]
theorem enter_eq {N k rm τ e du : Nat} {o : Nat → Nat} {outs : Nat → Int32} {l : Int32} (hN : 20 < N) (hk : k < 10) (hr : 0 < rm) (hr9 : rm ≤ 9) (hτ : τ ≤ 2000) (ho : ∀ i, i < k → outs i = nI (o i) ∧ o i ≤ 2000) (he : IsE o k rm τ e) {p1 : Int32} (hp : (if l < p1 then p1 else l) = nI τ) : fX1_enter N outs (nI k) (nI rm) l p1 (nI du) = some (nI (e + du), upd outs k (nI (e + du)), nI (k + 1), nI e) := by
  have fin : ∀ at_ : Nat, at_ ≤ 2000 → IsE o k rm τ at_ → bX1_enter_45 N (nI rm) p1 (nI du) (nI at_) outs (nI k) l = some (nI (e + du), upd outs k (nI (e + du)), nI (k + 1), nI e) := by
    intro at_ _ hat
    have := IsE_u hat he
    subst this
    unfold bX1_enter_45 bX1_enter_81
    rw [if_neg (by rw [li10, nI_leI (by omega) (by omega)]; omega), if_pos (chk_nI (by omega) (by omega)), nI_clamp (by omega), nI_add, nI_1]
  unfold fX1_enter
  rw [hp]
  obtain ⟨z, hz, ez⟩ := lp_for (b := bX1_enter_12 N (nI rm) p1 (nI du) outs (nI k) l) k (fun j s => ∃ a, s = (nI a, nI j) ∧ τ ≤ a ∧ a ≤ 2000 ∧ (∀ x, τ ≤ x → x < a → rm ≤ ins o k x) ∧ ins o k a + j ≤ k) (fun z => z = some (nI (e + du), upd outs k (nI (e + du)), nI (k + 1), nI e))
    (fun j s hj hp2 => by
      obtain ⟨a, rfl, a1, a2, a3, a4⟩ := hp2
      have hil := ins_le o k a
      by_cases c : ins o k a < rm
      · right
        refine ⟨_, rfl, fun κ => ?_⟩
        unfold bX1_enter_12
        simp only
        rw [if_neg (by rw [nI_leI (by omega) (by omega)]; omega), inside_eq hN (by omega) a2 ho, Option.bind_some, if_pos (by rw [nI_ltI (by omega) (by omega)]; exact c)]
        exact fin a a2 ⟨a1, c, a3⟩
      · left
        obtain ⟨n1, n2, n3, n4⟩ := nxo_step (o := o) (k := k) (τ := a) (B := 2000) (fun i hi => (ho i hi).2) (by omega)
        refine ⟨_, ⟨nxo o a (lst o k) k, rfl, by omega, n2, fun x x1 x2 => ?_, by omega⟩, fun κ => ?_⟩
        · by_cases d : x < a
          · exact a3 x x1 d
          · rw [n3 x (by omega) x2]; omega
        · unfold bX1_enter_12
          simp only
          rw [if_neg (by rw [nI_leI (by omega) (by omega)]; omega), inside_eq hN (by omega) a2 ho, Option.bind_some, if_neg (by rw [nI_ltI (by omega) (by omega)]; exact c), nextOut_eq hN (by omega) a2 ho, Option.bind_some, nI_1])
    (fun s hp2 => by
      obtain ⟨a, rfl, a1, a2, a3, a4⟩ := hp2
      refine ⟨_, rfl, fun κ => ?_⟩
      unfold bX1_enter_12
      simp only
      rw [if_pos (by rw [nI_leI (by omega) (by omega)]; omega)]
      exact fin a a2 ⟨a1, by omega, a3⟩)
    (k := 0) (s := (nI τ, 0)) (N := N) (by omega) ⟨τ, rfl, Nat.le_refl _, hτ, fun x x1 x2 => by omega, by have := ins_le o k τ; omega⟩ (by omega)
  rw [ez, hz]
theorem dg_tk {L : Nat → Bool} {gm : Nat → Nat} {ng : Nat} (hd : DG ng gm) : DG (tc L gm ng) (tkg L gm ng) := by
  refine ⟨Nat.le_trans (tc_le _) hd.1, fun k hk => (tk_lf (F := fun _ _ => false) hd hk).2.1, fun i j hi hj e => ?_⟩
  obtain ⟨a, a1, a2, a3⟩ := tk_of hi
  obtain ⟨b, b1, b2, b3⟩ := tk_of hj
  have e1 := (tkg_at (F := fun _ _ => false) a1 a2).1
  have e2 := (tkg_at (F := fun _ _ => false) b1 b2).1
  rw [a3] at e1
  rw [b3] at e2
  have := hd.2.2 a b a1 b1 (by rw [← e1, ← e2, e])
  subst this
  omega
section AO
variable (n : Nat → Nat) (β tr : Nat → Nat → Nat) (st : Nat → Nat)
def oMi (i : Nat) : Nat := tr 2 (tks n β (tr 0) (st 0) i)
def oDu (i : Nat) : Nat := st 2 + st 3 * tvs n β (tr 0) (st 0) i
abbrev oZ (k : Nat) : Nat × (Nat → Nat) := oz (st 1) (oMi n β tr st) (oDu n β tr st) k
def aOut (p : Int32) : Int32 := if p = -1 then nI (lst (oZ n β tr st (tcs n β (tr 0) (st 0))).2 (tcs n β (tr 0) (st 0))) else if 0 ≤ p ∧ p ≤ 9 then (match pof (tks n β (tr 0) (st 0)) (tcs n β (tr 0) (st 0)) (Int32.toNatClampNeg p) with
  | some i => nI ((oZ n β tr st (tcs n β (tr 0) (st 0))).2 i)
  | none => -3) else -2
end AO
theorem oz_2 {rm : Nat} {mi du : Nat → Nat} (k i : Nat) : (oz rm mi du (k + 1)).2 i = if i = k then eN rm mi (oz rm mi du k) k + du k else (oz rm mi du k).2 i := rfl
theorem oz_1 {rm : Nat} {mi du : Nat → Nat} (k : Nat) : (oz rm mi du (k + 1)).1 = eN rm mi (oz rm mi du k) k := by rw [oz]
theorem out6 {N : Nat} {n : Nat → Nat} {β tr : Nat → Nat → Nat} {st : Nat → Nat} {a0 a1 tr2 se lf tk co : Nat → Int32} {ce cr cl : Int32} (hN : 20 < N) (h1 : n 1 ≤ 10) (hTr : RTr tr a0 a1 tr2) (hSt : RSt st se) (hlf : ∀ g, g < 10 → lf g = oI (lfs n β (tr 0) (st 0) g)) (htk : CA (tcs n β (tr 0) (st 0)) (tks n β (tr 0) (st 0)) tk) (p : Int32) : ∃ R, fX6_out N tr2 se lf tk (nI (tcs n β (tr 0) (st 0))) co ce cr cl p = some R ∧ R.1 = aOut n β tr st p := by
  have hd := dg_g (β := β) h1
  have hdt : DG (tcs n β (tr 0) (st 0)) (tks n β (tr 0) (st 0)) := dg_tk hd
  obtain ⟨⟨hs0, hs1, hs2, hs3⟩, hse⟩ := hSt
  have hmi : ∀ i, i < tcs n β (tr 0) (st 0) → oMi n β tr st i < 100 := fun i hi => ((hTr _ (hdt.2.1 i hi)).2.2).2
  have htv : ∀ i, i < tcs n β (tr 0) (st 0) → tvs n β (tr 0) (st 0) i ≤ 10 := fun i hi => tv_le hi
  have hdu : ∀ i, i < tcs n β (tr 0) (st 0) → oDu n β tr st i ≤ 150 := fun i hi => by
    have h2 := htv i hi
    have h3 : st 3 * tvs n β (tr 0) (st 0) i ≤ 9 * 10 := Nat.mul_le_mul hs3 h2
    unfold oDu; omega
  have ht := hdt.1
  -- the loop
  have main : (p = -1 ∨ ∃ g, g < 10 ∧ p = nI g ∧ ∃ i, i < tcs n β (tr 0) (st 0) ∧ tks n β (tr 0) (st 0) i = g) → ∃ R, bX6_out_37 N tr2 se lf tk (nI (tcs n β (tr 0) (st 0))) p co ce cr cl = some R ∧ R.1 = aOut n β tr st p := by
    intro hp
    unfold bX6_out_37 fX1_empty
    rw [Option.bind_some]
    simp only
    obtain ⟨z, hz, e⟩ := lp_for (b := bX6_out_52 N tr2 se lf tk (nI (tcs n β (tr 0) (st 0))) p (se (Int32.toNatClampNeg 1))) (tcs n β (tr 0) (st 0)) (fun k s => ∃ outs : Nat → Int32, s = (nI k, outs, nI k, nI (oZ n β tr st k).1) ∧ (∀ i, i < k → outs i = nI ((oZ n β tr st k).2 i)) ∧ ∀ i, i < k → ¬ nI (tks n β (tr 0) (st 0) i) = p) (fun z => ∃ R, z = some R ∧ R.1 = aOut n β tr st p)
      (fun k s hk hp2 => by
        obtain ⟨outs, rfl, b1, b2⟩ := hp2
        have hg := hdt.2.1 k hk
        obtain ⟨t1, t2, t3⟩ := tk_lf (F := FRs (tr 0) (st 0) n β) hd hk
        have hlk : lf (tks n β (tr 0) (st 0) k) = nI (tvs n β (tr 0) (st 0) k) := by rw [hlf _ hg]; show oI (lfg _ _ _ _ _) = _; rw [t1]; rfl
        have htr : tr2 (tks n β (tr 0) (st 0) k) = nI (oMi n β tr st k) := ((hTr _ hg).2.2).1
        obtain ⟨q1, q2⟩ : (oZ n β tr st k).1 ≤ 99 + 150 * k ∧ ∀ i, i < k → (oZ n β tr st k).2 i ≤ 99 + 150 * k := oz_bd (rm := st 1) ht (by omega) hmi hdu (k := k) (by omega)
        obtain ⟨q3, q4⟩ : IsE (oZ n β tr st k).2 k (st 1) (if (oZ n β tr st k).1 < oMi n β tr st k then oMi n β tr st k else (oZ n β tr st k).1) (eN (st 1) (oMi n β tr st) (oZ n β tr st k) k) ∧ eN (st 1) (oMi n β tr st) (oZ n β tr st k) k ≤ 99 + 150 * k := eN_is (rm := st 1) ht (by omega) hmi hdu hk
        have hm1 := hmi k hk
        have hen := enter_eq (N := N) (k := k) (rm := st 1) (τ := if (oZ n β tr st k).1 < oMi n β tr st k then oMi n β tr st k else (oZ n β tr st k).1) (e := eN (st 1) (oMi n β tr st) (oZ n β tr st k) k) (du := oDu n β tr st k) (o := (oZ n β tr st k).2) (outs := outs) (l := nI (oZ n β tr st k).1) (p1 := nI (oMi n β tr st k)) hN (by omega) (by omega) (by omega) (by split <;> omega) (fun i hi => ⟨b1 i hi, by have := q2 i hi; omega⟩) q3 (ite_max _ _ _ (nI_ltI (by omega) (by omega)))
        have step : ∀ κ, bX6_out_52 N tr2 se lf tk (nI (tcs n β (tr 0) (st 0))) p (se (Int32.toNatClampNeg 1)) κ (nI k, outs, nI k, nI (oZ n β tr st k).1) = (if nI (tks n β (tr 0) (st 0) k) = p then some (nI (eN (st 1) (oMi n β tr st) (oZ n β tr st k) k + oDu n β tr st k), upd outs k (nI (eN (st 1) (oMi n β tr st) (oZ n β tr st k) k + oDu n β tr st k)), nI (k + 1), nI (st 1), nI (eN (st 1) (oMi n β tr st) (oZ n β tr st k) k)) else κ (nI (k + 1), upd outs k (nI (eN (st 1) (oMi n β tr st) (oZ n β tr st k) k + oDu n β tr st k)), nI (k + 1), nI (eN (st 1) (oMi n β tr st) (oZ n β tr st k) k))) := by
          intro κ
          unfold bX6_out_52 nm
          simp only
          rw [if_neg (by rw [nI_leI (by omega) (by omega)]; omega), if_pos (chk_nI (by omega) (by omega)), nI_clamp (show k < 2 ^ 31 by omega), htk k hk, if_pos (chk_nI hg (by omega)), nI_clamp (show tks n β (tr 0) (st 0) k < 2 ^ 31 by omega), if_pos (chk_nI hg (by omega)), hlk, htr, cl1, cl2, cl3, hse 1 (by omega), hse 2 (by omega), hse 3 (by omega), pk_mul, nI_add, show st 2 + st 3 * tvs n β (tr 0) (st 0) k = oDu n β tr st k from rfl, hen, Option.bind_some, nI_1]
        by_cases c : nI (tks n β (tr 0) (st 0) k) = p
        · right
          refine ⟨some _, ⟨_, rfl, ?_⟩, fun κ => by rw [step κ, if_pos c]⟩
          show nI (eN (st 1) (oMi n β tr st) (oZ n β tr st k) k + oDu n β tr st k) = aOut n β tr st p
          unfold aOut
          have hpos : 0 ≤ p ∧ p ≤ 9 := by rw [← c]; exact in_nI (m := 9) (by decide) (show tks n β (tr 0) (st 0) k ≤ 9 by omega)
          rw [if_neg (by rw [← c]; exact m1_ne (by omega)), if_pos hpos, ← c, nI_clamp (by omega), (pof_some hdt (Nat.le_refl _)).mpr ⟨hk, rfl⟩]
          show _ = nI ((oZ n β tr st (tcs n β (tr 0) (st 0))).2 k)
          rw [show (oZ n β tr st (tcs n β (tr 0) (st 0))).2 k = (oZ n β tr st (k + 1)).2 k from oz_keep (by omega) (by omega), show (oZ n β tr st (k + 1)).2 k = _ from oz_2 k k, if_pos rfl]
        · left
          refine ⟨_, ⟨upd outs k (nI (eN (st 1) (oMi n β tr st) (oZ n β tr st k) k + oDu n β tr st k)), rfl, fun i hi => ?_, fun i hi => ?_⟩, fun κ => by rw [step κ, if_neg c]; rfl⟩
          · rw [show (oZ n β tr st (k + 1)).2 i = _ from oz_2 k i]
            unfold upd
            by_cases d : i = k
            · rw [if_pos d, if_pos d]
            · rw [if_neg d, if_neg d]; exact b1 i (by omega)
          · by_cases d : i = k
            · rw [d]; exact c
            · exact b2 i (by omega))
      (fun s hp2 => by
        obtain ⟨outs, rfl, b1, b2⟩ := hp2
        obtain ⟨q1, q2⟩ : (oZ n β tr st (tcs n β (tr 0) (st 0))).1 ≤ 99 + 150 * tcs n β (tr 0) (st 0) ∧ ∀ i, i < tcs n β (tr 0) (st 0) → (oZ n β tr st (tcs n β (tr 0) (st 0))).2 i ≤ 99 + 150 * tcs n β (tr 0) (st 0) := oz_bd (rm := st 1) ht (by omega) hmi hdu (Nat.le_refl _)
        have hpm : p = -1 := by
          rcases hp with h | ⟨g, g1, g2, i, i1, i2⟩
          · exact h
          · exact absurd (by rw [g2, i2]) (b2 i i1)
        refine ⟨_, ⟨(nI (lst (oZ n β tr st (tcs n β (tr 0) (st 0))).2 (tcs n β (tr 0) (st 0))), outs, nI (tcs n β (tr 0) (st 0)), se (Int32.toNatClampNeg 1), nI (oZ n β tr st (tcs n β (tr 0) (st 0))).1), rfl, ?_⟩, fun κ => ?_⟩
        · unfold aOut
          rw [if_pos hpm]
        · unfold bX6_out_52
          simp only
          rw [if_pos (by rw [nI_leI (by omega) (by omega)]; omega), lastOut_eq (o := (oZ n β tr st (tcs n β (tr 0) (st 0))).2) hN ht (fun i hi => ⟨b1 i hi, by have := q2 i hi; omega⟩), Option.bind_some])
      (k := 0) (s := (0, co, 0, 0)) (N := N) (by omega) ⟨co, rfl, fun i hi => by omega, fun i hi => by omega⟩ (by omega)
    obtain ⟨R, a1, a2⟩ := hz
    exact ⟨R, by rw [e, a1], a2⟩
  unfold fX6_out bX6_out_15
  by_cases h : p = -1
  · rw [if_pos h, if_pos h]
    exact main (Or.inl h)
  · rw [if_neg h, if_neg h, isGuest6_eq, Option.bind_some]
    by_cases d : 0 ≤ p ∧ p ≤ 9
    · obtain ⟨g, g1, rfl⟩ := ncase (m := 9) (by decide) d
      rw [if_pos d, if_neg (by decide), if_pos (chk_nI (by omega) (by omega)), nI_clamp (by omega), hlf g (by omega)]
      cases q : pof (tks n β (tr 0) (st 0)) (tcs n β (tr 0) (st 0)) g with
      | none =>
        have hno : ∀ i, i < tcs n β (tr 0) (st 0) → tks n β (tr 0) (st 0) i ≠ g := by
          intro i hi e
          have := pof_none.mp q
          rw [gn_iff.mpr ⟨i, hi, e.symm⟩] at this
          cases this
        rw [show lfs n β (tr 0) (st 0) g = none from tk_no hno, if_pos (show oI none = -3 from rfl)]
        refine ⟨_, rfl, ?_⟩
        unfold aOut
        rw [if_neg h, if_pos d, nI_clamp (by omega), q]
      | some i =>
        obtain ⟨i1, i2⟩ := pof_lt q
        have t1 := (tk_lf (F := FRs (tr 0) (st 0) n β) hd i1).1
        have t2 := htv i i1
        have e1 : lfs n β (tr 0) (st 0) g = some (tvs n β (tr 0) (st 0) i) := by rw [← i2]; exact t1
        have hne : ∀ v, v ≤ 10 → ¬ nI v = -3 := by decide
        rw [e1, show oI (some (tvs n β (tr 0) (st 0) i)) = nI (tvs n β (tr 0) (st 0) i) from rfl, if_neg (hne _ t2)]
        exact main (Or.inr ⟨g, by omega, rfl, i, i1, i2⟩)
    · rw [if_neg d, if_pos rfl]
      refine ⟨_, rfl, ?_⟩
      unfold aOut
      rw [if_neg h, if_neg d]
